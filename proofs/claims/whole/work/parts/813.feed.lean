/-! ===== feed ===== -/
section
variable {D E : Dm} {c : Nat → Nat}
theorem byte_n (v : Int32) : ∃ b, b < 256 ∧ v &&& 255 = nI b ∧ i2b (i2b v) = sb b := by
  refine ⟨v.toBitVec.toNat % 256, Nat.mod_lt _ (by omega), ?_, ?_⟩
  · apply Int32.toBitVec_inj.mp
    apply BitVec.eq_of_toNat_eq
    rw [Int32.toBitVec_and, BitVec.toNat_and]
    have e1 : (255 : Int32).toBitVec.toNat = 2 ^ 8 - 1 := by decide
    have e2 : (nI (v.toBitVec.toNat % 256)).toBitVec.toNat = v.toBitVec.toNat % 256 := by
      show (BitVec.ofNat 32 (v.toBitVec.toNat % 256)).toNat = _
      rw [BitVec.toNat_ofNat]
      omega
    rw [e1, Nat.and_two_pow_sub_one_eq_mod, e2]
  · have hi : ∀ x : Int32, (i2b x).toInt = x.toInt.bmod 256 := fun x => by
      unfold i2b
      rw [Int8.toInt_toInt32, Int32.toInt_toInt8]
    apply Int32.toInt_inj.mp
    rw [hi, hi, Int.bmod_bmod, sb_toInt (Nat.mod_lt _ (by omega))]
    have e : v.toInt = ((v.toBitVec.toNat : Nat) : Int).bmod (2 ^ 32) := by
      show v.toBitVec.toInt = _
      exact BitVec.toInt_eq_toNat_bmod _
    have e2 : v.toInt.bmod 256 = ((v.toBitVec.toNat : Nat) : Int).bmod 256 := by
      rw [e]
      exact Int.bmod_bmod_of_dvd ⟨2 ^ 24, by decide⟩
    rw [e2]
    generalize v.toBitVec.toNat = N
    unfold Int.bmod
    simp only
    split <;> split <;> omega
abbrev SFC (h j k : Nat) : Prop := (j = 1 ∧ k = 1) ∨ (j = 2 ∧ h ≤ k)
theorem put_s {x : Int32} {h s f : Nat} (hh : h < 500) (hs : s ≤ 24) (h1 : D 1 1 = nI h) : f_X7_put_3 (f + 1) x (nI s) D = f_X7_put_3 f x (nI s + (-8)) (ud (ud D 2 h ((x >>> (nI s &&& 31)) &&& 255)) 1 1 (nI (h + 1))) := by
  show f_X7_put_3_b _ _ _ _ = _
  unfold f_X7_put_3_b
  rw [if_neg (nI_pos (by omega)), h1, if_neg (show ¬ (500 : Int32) ≤ nI h from nI_nle2 (a := h) (b := 500) hh (by omega)), gd_t (inB_nI (by omega) (by omega)), lt_d, lt_d, lt_d, nI_clamp (by omega), show (ud D 2 h ((x >>> (nI s &&& 31)) &&& 255)) 1 1 = nI h by rw [ud_at, if_neg (by omega), h1], nI_1]
theorem put_ok {x : Int32} {h : Nat} (hh : h + 4 ≤ 500) (h1 : D 1 1 = nI h) : Y (f_X7_put x D) (fun D' => Fr (SFC h) D D' ∧ D' 1 1 = nI (h + 4) ∧ ∀ i, i < 4 → D' 2 (h + i) = (x >>> (nI (24 - 8 * i) &&& 31)) &&& 255) := by
  unfold f_X7_put
  obtain ⟨z, hz⟩ := FUs 4 (by omega)
  rw [hz, show 4 + 1 + z = z + 1 + 1 + 1 + 1 + 1 by omega, show (24 : Int32) = nI 24 from rfl, put_s (show h < 500 by omega) (by omega) h1]
  rw [show nI 24 + (-8) = nI 16 from by decide, put_s (h := h + 1) (by omega) (by omega) (by rw [ud_at, if_pos ⟨rfl, rfl⟩])]
  rw [show nI 16 + (-8) = nI 8 from by decide, put_s (h := h + 1 + 1) (by omega) (by omega) (by rw [ud_at, if_pos ⟨rfl, rfl⟩])]
  rw [show nI 8 + (-8) = nI 0 from by decide, put_s (h := h + 1 + 1 + 1) (by omega) (by omega) (by rw [ud_at, if_pos ⟨rfl, rfl⟩])]
  show Y (f_X7_put_3_b _ _ _ _) _
  unfold f_X7_put_3_b
  refine yPos (by decide) (yRet ⟨?_, ?_, fun i hi => ?_⟩)
  · intro j k q
    unfold SFC at q
    rw [ud_at, if_neg (by omega), ud_at, if_neg (by omega), ud_at, if_neg (by omega), ud_at, if_neg (by omega), ud_at, if_neg (by omega), ud_at, if_neg (by omega), ud_at, if_neg (by omega), ud_at, if_neg (by omega)]
  · rw [ud_at, if_pos ⟨rfl, rfl⟩]
  · have : i = 0 ∨ i = 1 ∨ i = 2 ∨ i = 3 := by omega
    rcases this with rfl | rfl | rfl | rfl
    · rw [ud_at, if_neg (by omega), ud_at, if_neg (by omega), ud_at, if_neg (by omega), ud_at, if_neg (by omega), ud_at, if_neg (by omega), ud_at, if_neg (by omega), ud_at, if_neg (by omega), ud_at, if_pos ⟨rfl, rfl⟩]
    · rw [ud_at, if_neg (by omega), ud_at, if_neg (by omega), ud_at, if_neg (by omega), ud_at, if_neg (by omega), ud_at, if_neg (by omega), ud_at, if_pos ⟨rfl, rfl⟩]
    · rw [ud_at, if_neg (by omega), ud_at, if_neg (by omega), ud_at, if_neg (by omega), ud_at, if_pos ⟨rfl, by omega⟩]
    · rw [ud_at, if_neg (by omega), ud_at, if_pos ⟨rfl, by omega⟩]
def xq (x1 x2 x3 x4 x5 : Int32) (k : Nat) : Int32 := if 4 ≤ k then (if 8 ≤ k then (if 12 ≤ k then (if 16 ≤ k then x5 else x4) else x3) else x2) else x1
def bq (x1 x2 x3 x4 x5 : Int32) (k : Nat) : Int32 := xq x1 x2 x3 x4 x5 k >>> (nI (24 - 8 * (k % 4)) &&& 31)
theorem sh_n : ∀ k, k < 20 → (24 : Int32) - (8 * (nI k - nI k / 4 * 4)) = nI (24 - 8 * (k % 4)) := by decide +kernel
theorem feed_r {x1 x2 x3 x4 x5 : Int32} {h : Nat} (hh : h + 20 ≤ 500) (h7 : E 281 7 = nI h) : Y (f_X12_feed_24 FU x1 x2 x3 x4 x5 0 E) (fun r => r.1 = nI (h + 20) ∧ Fr (fun j k => (j = 281 ∧ k = 7) ∨ (j = 284 ∧ h ≤ k)) E r.2 ∧ r.2 281 7 = nI (h + 20) ∧ ∀ q, q < 20 → r.2 284 (h + q) = i2b (i2b (bq x1 x2 x3 x4 x5 q))) := by
  have loop : ∀ (j i z : Nat) (E1 : Dm), i + j = 20 → Fr (fun j k => (j = 281 ∧ k = 7) ∨ (j = 284 ∧ h ≤ k)) E E1 → E1 281 7 = nI (h + i) → (∀ q, q < i → E1 284 (h + q) = i2b (i2b (bq x1 x2 x3 x4 x5 q))) → Y (f_X12_feed_24 (j + 1 + z) x1 x2 x3 x4 x5 (nI i) E1) (fun r => r.1 = nI (h + 20) ∧ Fr (fun j k => (j = 281 ∧ k = 7) ∨ (j = 284 ∧ h ≤ k)) E r.2 ∧ r.2 281 7 = nI (h + 20) ∧ ∀ q, q < 20 → r.2 284 (h + q) = i2b (i2b (bq x1 x2 x3 x4 x5 q))) := by
    intro j
    induction j with
    | zero =>
      intro i z E1 hi hF e7 hv
      have hi : i = 20 := by omega
      subst hi
      rw [show 0 + 1 + z = z + 1 by omega]
      show Y (f_X12_feed_24_b _ _ _ _ _ _ _ _) _
      unfold f_X12_feed_24_b
      exact yPos (by decide) (yRet ⟨e7, hF, e7, hv⟩)
    | succ j ih =>
      intro i z E1 hi hF e7 hv
      rw [show j + 1 + 1 + z = (j + 1 + z) + 1 by omega]
      show Y (f_X12_feed_24_b _ _ _ _ _ _ _ _) _
      unfold f_X12_feed_24_b
      refine yNeg (nI_nle2 (a := i) (b := 20) (by omega) (by omega)) ?_
      have go : ∀ x, x = xq x1 x2 x3 x4 x5 i → Y (f_X12_feed_77 (f_X12_feed_24 (j + 1 + z)) x1 x2 x3 x4 x5 (nI i) x E1) (fun r => r.1 = nI (h + 20) ∧ Fr (fun j k => (j = 281 ∧ k = 7) ∨ (j = 284 ∧ h ≤ k)) E r.2 ∧ r.2 281 7 = nI (h + 20) ∧ ∀ q, q < 20 → r.2 284 (h + q) = i2b (i2b (bq x1 x2 x3 x4 x5 q))) := fun x hx => by
        unfold f_X12_feed_77
        rw [e7, sh_n i (by omega)]
        refine yGd (inB_nI (by omega) (by omega)) (yLt0 (yLt0 (yLt0 ?_)))
        rw [nI_clamp (by omega), show (ud E1 284 (h + i) (i2b (i2b (x >>> (nI (24 - 8 * (i % 4)) &&& 31))))) 281 7 = nI (h + i) by rw [ud_at, if_neg (by omega), e7], nI_1, nI_1]
        refine ih (i + 1) z _ (by omega) ((hF.ud (Or.inr ⟨rfl, by omega⟩)).ud (Or.inl ⟨rfl, rfl⟩)) (by rw [ud_at, if_pos ⟨rfl, rfl⟩]; rfl) (fun q hq => ?_)
        rw [ud_at, if_neg (by omega), ud_at]
        by_cases e : q = i
        · rw [if_pos ⟨rfl, by omega⟩, e, hx]; rfl
        · rw [if_neg (by omega)]; exact hv q (by omega)
      unfold xq at go
      by_cases c4 : 4 ≤ i
      · refine yPos (nI_le (a := 4) (b := i) c4 (by omega)) ?_
        rw [if_pos c4] at go
        by_cases c8 : 8 ≤ i
        · refine yPos (nI_le (a := 8) (b := i) c8 (by omega)) ?_
          rw [if_pos c8] at go
          by_cases c12 : 12 ≤ i
          · refine yPos (nI_le (a := 12) (b := i) c12 (by omega)) ?_
            rw [if_pos c12] at go
            by_cases c16 : 16 ≤ i
            · rw [if_pos c16] at go
              exact yPos (nI_le (a := 16) (b := i) c16 (by omega)) (go _ rfl)
            · rw [if_neg c16] at go
              exact yNeg (nI_nle2 (a := i) (b := 16) (by omega) (by omega)) (go _ rfl)
          · rw [if_neg c12] at go
            exact yNeg (nI_nle2 (a := i) (b := 12) (by omega) (by omega)) (go _ rfl)
        · rw [if_neg c8] at go
          exact yNeg (nI_nle2 (a := i) (b := 8) (by omega) (by omega)) (go _ rfl)
      · rw [if_neg c4] at go
        exact yNeg (nI_nle2 (a := i) (b := 4) (by omega) (by omega)) (go _ rfl)
  obtain ⟨z, hz⟩ := FUs 20 (by omega)
  have := loop 20 0 z E (by omega) Fr.refl h7 (fun q hq => absurd hq (Nat.not_lt_zero q))
  rw [nI_0] at this
  rw [hz]
  exact this
theorem feed_c {x1 x2 x3 x4 x5 : Int32} {h : Nat} (hh : h + 20 ≤ 500) (h1 : D 1 1 = nI h) : Y (bV (f_X7_put x1 D) fun D2 => bV (f_X7_put x2 D2) fun D4 => bV (f_X7_put x3 D4) fun D6 => bV (f_X7_put x4 D6) fun D8 => bV (f_X7_put x5 D8) fun D10 => some ((D10 1 1), D10)) (fun r => r.1 = nI (h + 20) ∧ Fr (SFC h) D r.2 ∧ r.2 1 1 = nI (h + 20) ∧ ∀ q, q < 20 → r.2 2 (h + q) = bq x1 x2 x3 x4 x5 q &&& 255) := by
  refine yBV (put_ok (by omega) h1) (fun D1 k1 => yBV (put_ok (h := h + 4) (by omega) k1.2.1) (fun D2 k2 => yBV (put_ok (h := h + 4 + 4) (by omega) k2.2.1) (fun D3 k3 => yBV (put_ok (h := h + 4 + 4 + 4) (by omega) k3.2.1) (fun D4 k4 => yBV (put_ok (h := h + 4 + 4 + 4 + 4) (by omega) k4.2.1) (fun D5 k5 => yRet ?_)))))
  obtain ⟨f1, -, v1⟩ := k1
  obtain ⟨f2, -, v2⟩ := k2
  obtain ⟨f3, -, v3⟩ := k3
  obtain ⟨f4, -, v4⟩ := k4
  obtain ⟨f5, e5, v5⟩ := k5
  have w : ∀ {a : Nat} {X Y : Dm}, h ≤ a → Fr (SFC a) X Y → Fr (SFC h) X Y := fun ha f => f.mono (fun j k q => by unfold SFC at q ⊢; omega)
  refine ⟨e5, (((f1.tr (w (by omega) f2)).tr (w (by omega) f3)).tr (w (by omega) f4)).tr (w (by omega) f5), e5, fun q hq => ?_⟩
  dsimp only
  unfold bq xq
  by_cases c4 : 4 ≤ q
  · rw [if_pos c4]
    by_cases c8 : 8 ≤ q
    · rw [if_pos c8]
      by_cases c12 : 12 ≤ q
      · rw [if_pos c12]
        by_cases c16 : 16 ≤ q
        · have := v5 (q - 16) (by omega)
          rw [show h + 4 + 4 + 4 + 4 + (q - 16) = h + q by omega] at this
          rw [if_pos c16, this, show q % 4 = q - 16 by omega]
        · have := v4 (q - 12) (by omega)
          rw [show h + 4 + 4 + 4 + (q - 12) = h + q by omega] at this
          rw [if_neg c16, f5 _ _ (by unfold SFC; omega), this, show q % 4 = q - 12 by omega]
      · have := v3 (q - 8) (by omega)
        rw [show h + 4 + 4 + (q - 8) = h + q by omega] at this
        rw [if_neg c12, f5 _ _ (by unfold SFC; omega), f4 _ _ (by unfold SFC; omega), this, show q % 4 = q - 8 by omega]
    · have := v2 (q - 4) (by omega)
      rw [show h + 4 + (q - 4) = h + q by omega] at this
      rw [if_neg c8, f5 _ _ (by unfold SFC; omega), f4 _ _ (by unfold SFC; omega), f3 _ _ (by unfold SFC; omega), this, show q % 4 = q - 4 by omega]
  · rw [if_neg c4, f5 _ _ (by unfold SFC; omega), f4 _ _ (by unfold SFC; omega), f3 _ _ (by unfold SFC; omega), f2 _ _ (by unfold SFC; omega), v1 q (by omega), show q % 4 = q by omega]
theorem feed_j {h : Nat} (hT : TPR D E c h) (x1 x2 x3 x4 x5 : Int32) : ∃ r D' E' c' h', f_X11_feed x1 x2 x3 x4 x5 D = some (r, D') ∧ f_X12_feed x1 x2 x3 x4 x5 E = some (r, E') ∧ Fr (fun j k => (j = 1 ∧ k = 1) ∨ j = 2) D D' ∧ Fr (fun j k => (j = 281 ∧ (k = 0 ∨ k = 7)) ∨ j = 284) E E' ∧ TPR D' E' c' h' := by
  have hT' : TPR D (ud E 281 0 0) c h := ⟨hT.1, hT.2.1, by rw [ud_at, if_neg (by omega)]; exact hT.2.2.1, fun k hk => by rw [ud_at, if_neg (by omega)]; exact hT.2.2.2 k hk⟩
  obtain ⟨h5, h1, h7, hby⟩ := id hT'
  unfold f_X11_feed f_X12_feed
  rw [lt_d, h1, h7]
  have e20 : nI h + 20 = nI (h + 20) := nI_add h 20
  rw [e20]
  by_cases q : h + 20 ≤ 500
  · rw [if_pos (show nI (h + 20) ≤ 500 from nI_le (b := 500) q (by omega)), if_pos (show nI (h + 20) ≤ 500 from nI_le (b := 500) q (by omega))]
    obtain ⟨⟨r1, D'⟩, a1, a2, a3, a4, a5⟩ := feed_c (x1 := x1) (x2 := x2) (x3 := x3) (x4 := x4) (x5 := x5) q h1
    obtain ⟨⟨r2, E'⟩, b1, b2, b3, b4, b5⟩ := feed_r (x1 := x1) (x2 := x2) (x3 := x3) (x4 := x4) (x5 := x5) q h7
    dsimp only at a2 a3 a4 a5 b2 b3 b4 b5
    refine ⟨nI (h + 20), D', E', fun k => if k < h then c k else Classical.choose (byte_n (bq x1 x2 x3 x4 x5 (k - h))), h + 20, by rw [a1, a2], by rw [b1, b2], a3.mono (fun j k z => by unfold SFC at z; omega), fun j k z => ?_, q, a4, b4, fun k hk => ?_⟩
    · rw [b3 j k (by omega), ud_at, if_neg (by omega)]
    · dsimp only
      by_cases e : k < h
      · rw [if_pos e, a3 2 k (by unfold SFC; omega), b3 284 k (by omega)]
        exact hby k e
      · rw [if_neg e]
        obtain ⟨p1, p2, p3⟩ := Classical.choose_spec (byte_n (bq x1 x2 x3 x4 x5 (k - h)))
        have q1 := a5 (k - h) (by omega)
        have q2 := b5 (k - h) (by omega)
        rw [show h + (k - h) = k by omega] at q1 q2
        exact ⟨p1, q1.trans p2, q2.trans p3⟩
  · rw [if_neg (show ¬ nI (h + 20) ≤ 500 from nI_nle2 (a := 500) (by omega) (by omega)), if_neg (show ¬ nI (h + 20) ≤ 500 from nI_nle2 (a := 500) (by omega) (by omega))]
    exact ⟨-4, D, _, c, h, rfl, rfl, Fr.refl, fun j k z => by rw [ud_at, if_neg (by omega)], hT'⟩
end
