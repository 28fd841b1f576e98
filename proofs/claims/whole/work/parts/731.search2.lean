/-! the reference's number of a couple -/
def off4 (r : Nat) : Nat := if r < 2 then 1 + r else 2 + r
def cX (D : Dm) (k r : Nat) : Int32 := D 315 (6 * k + off4 r)
theorem co160 {k34 : Int32 → Int32 → Int32 → Int32 → Dm → Option (Int32 × Dm)} {x1 x3 : Int32} {D : Dm} {r N : Nat} (hr : r < 4) {v : Nat} (hv : v < 10) : f_X12_codeOf_160 k34 x1 (nI N) x3 (nI r) (ud D 316 r (nI v)) = f_X12_codeOf_182 k34 x1 (nI N) x3 (nI r) (ud D 316 r (nI v)) := by
  unfold f_X12_codeOf_160
  rw [gd_t (inB_nI (by omega) (by omega)), nI_clamp (by omega), show ud D 316 r (nI v) 316 r = nI v by rw [ud_at, if_pos ⟨rfl, rfl⟩], if_neg (nI_n1 (by omega))]
theorem co90 {k34 : Int32 → Int32 → Int32 → Int32 → Dm → Option (Int32 × Dm)} {x3 : Int32} {D D' : Dm} {k r : Nat} (hk : k < 3500) (hr : r < 4) (hX : cX D k r ≠ -1) (h315 : ∀ q, D' 315 q = D 315 q) (hn : ∀ q, q < r → D' 316 q = nI (dl (cX D k) q)) (h1 : D' 316 r = -1) : ∀ (j o m : Nat), o + j = r → (∀ q, q < o → cX D k q ≠ cX D k r) → f_X12_codeOf_90 k34 (j + 1 + 1 + m) (nI k) (nI (kk (cX D k) r + 1)) x3 (nI r) (cX D k r) (nI o) D' = f_X12_codeOf_182 k34 (nI k) (nI (kk (cX D k) (r + 1) + 1)) x3 (nI r) (ud D' 316 r (nI (dl (cX D k) r))) := by
  have kl := kk_le (X := cX D k) r (by omega)
  intro j
  induction j with
  | zero =>
    intro o m ho hne
    have ho : o = r := by omega
    rw [ho] at hne
    rw [show 0 + 1 + 1 + m = (m + 1) + 1 by omega]
    show f_X12_codeOf_90_b _ _ _ _ _ _ _ _ _ = _
    unfold f_X12_codeOf_90_b f_X12_codeOf_160
    have e := dl_new (X := cX D k) r hr hX hne
    rw [ho, if_pos (nI_le (Nat.le_refl _) (by omega)), gd_t (inB_nI (by omega) (by omega)), gd_t (inB_nI (by omega) (by omega)), nI_clamp (by omega), if_pos h1, lt_d, lt_d, nI_1, ← e]
    have e2 : kk (cX D k) (r + 1) = dl (cX D k) r := by
      show max _ _ = _
      omega
    rw [e2]
  | succ j ih =>
    intro o m ho hne
    rw [show j + 1 + 1 + 1 + m = (j + 1 + 1 + m) + 1 by omega]
    show f_X12_codeOf_90_b _ _ _ _ _ _ _ _ _ = _
    unfold f_X12_codeOf_90_b f_X12_codeOf_133 f_X12_codeOf_154
    rw [if_neg (nI_nle2 (by omega) (by omega)), gd_t (inB_nI (by omega) (by omega)), nI_clamp (show r < 2 ^ 31 by omega), if_pos h1, lt_d, nI_1]
    have a6 : (6 : Int32) * nI k = nI (6 * k) := by rw [show (6 : Int32) = nI 6 from rfl, nI_mul]
    have one : ∀ z : Nat, z = off4 o → gd (inB (nI (6 * k) + nI z) 21000) (if (D' 315 (Int32.toNatClampNeg (nI (6 * k) + nI z))) = cX D k r then (gd (inB (nI o) 4) (gd (inB (nI r) 4) (lt (ud D' 316 r (D' 316 (Int32.toNatClampNeg (nI o)))) fun D5 => f_X12_codeOf_90 k34 (j + 1 + 1 + m) (nI k) (nI (kk (cX D k) r + 1)) x3 (nI r) (cX D k r) (nI (o + 1)) D5))) else (f_X12_codeOf_90 k34 (j + 1 + 1 + m) (nI k) (nI (kk (cX D k) r + 1)) x3 (nI r) (cX D k r) (nI (o + 1)) D')) = f_X12_codeOf_182 k34 (nI k) (nI (kk (cX D k) (r + 1) + 1)) x3 (nI r) (ud D' 316 r (nI (dl (cX D k) r))) := by
      intro z hz
      have hz5 : z ≤ 5 := by rw [hz]; unfold off4; split <;> omega
      rw [nI_add, gd_t (inB_nI (by omega) (by omega)), nI_clamp (by omega), nI_clamp (by omega), gd_t (inB_nI (by omega) (by omega)), gd_t (inB_nI (by omega) (by omega)), lt_d, h315, hz]
      by_cases e : cX D k o = cX D k r
      · rw [if_pos (show D 315 (6 * k + off4 o) = cX D k r from e), hn o (by omega)]
        have ed := dl_eq (X := cX D k) r hr o (by omega) e
        have eg := kk_ge (X := cX D k) (r := r) (o := o) (by omega)
        have e2 : kk (cX D k) (r + 1) = kk (cX D k) r := by
          show max _ _ = _
          omega
        rw [ed, e2, show j + 1 + 1 + m = (j + 1 + m) + 1 by omega]
        show f_X12_codeOf_90_b _ _ _ _ _ _ _ _ _ = _
        unfold f_X12_codeOf_90_b
        have w : ud D' 316 r (nI (dl (cX D k) r)) 316 r = nI (dl (cX D k) r) := by rw [ud_at, if_pos ⟨rfl, rfl⟩]
        have dll := dl_le (X := cX D k) (r := r) hr
        rw [gd_t (inB_nI (by omega) (by omega)), nI_clamp (by omega), w, if_neg (nI_n1 (by omega)), co160 hr (by omega)]
        split <;> rfl
      · rw [if_neg (show ¬ D 315 (6 * k + off4 o) = cX D k r from e)]
        refine ih (o + 1) m (by omega) (fun q hq => ?_)
        by_cases eq : q = o
        · rw [eq]; exact e
        · exact hne q (by omega)
    rw [a6]
    by_cases h2 : 2 ≤ o
    · rw [if_pos (show (2 : Int32) ≤ nI o from nI_le (a := 2) h2 (by omega)), show (2 : Int32) + nI o = nI (2 + o) from nI_add 2 o]
      exact one (2 + o) (by unfold off4; rw [if_neg (by omega)])
    · rw [if_neg (show ¬ (2 : Int32) ≤ nI o from nI_nle2 (b := 2) (by omega) (by omega)), show (1 : Int32) + nI o = nI (1 + o) from nI_add 1 o]
      exact one (1 + o) (by unfold off4; rw [if_pos (by omega)])
theorem co34 {D : Dm} {k S : Nat} (hk : k < 3500) (hS : S < 100) : ∀ (j r m : Nat) (D' : Dm), r + j = 4 → Fr (fun j k => j = 316) D D' → (∀ q, q < r → D' 316 q = nI (dl (cX D k) q)) → Y (f_X12_codeOf_34 (j + 1 + m) (nI k) (nI (kk (cX D k) r + 1)) (nI (S * 5 ^ r + code5 (dl (cX D k)) r)) (nI r) D') (fun a => a.1 = nI (S * 625 + lik (cX D k)) ∧ Fr (fun j k => j = 316) D a.2) := by
  intro j
  induction j with
  | zero =>
    intro r m D' hr hF hn
    have hr : r = 4 := by omega
    subst hr
    rw [show 0 + 1 + m = m + 1 by omega]
    show Y (f_X12_codeOf_34_b _ _ _ _ _ _) _
    unfold f_X12_codeOf_34_b
    exact yPos (by decide) (yRet ⟨rfl, hF⟩)
  | succ j ih =>
    intro r m D' hr hF hn
    rw [show j + 1 + 1 + m = (j + 1 + m) + 1 by omega]
    show Y (f_X12_codeOf_34_b _ _ _ _ _ _) _
    unfold f_X12_codeOf_34_b
    refine yNeg (show ¬ nI 4 ≤ nI r from nI_nle2 (by omega) (by omega)) ?_
    have h315 : ∀ q, D' 315 q = D 315 q := fun q => hF _ _ (by omega)
    have dll := dl_le (X := cX D k) (r := r) (by omega)
    have c5 := code5_lt (X := cX D k) r (by omega)
    have p5 : 5 ^ r ≤ 5 ^ 3 := Nat.pow_le_pow_right (by omega) (by omega)
    have p6 : S * 5 ^ r ≤ 100 * 125 := Nat.mul_le_mul (by omega) (by omega)
    have nx : ∀ D1 : Dm, Fr (fun j k => j = 316) D D1 → (∀ q, q < r → D1 316 q = nI (dl (cX D k) q)) → Y (f_X12_codeOf_182 (f_X12_codeOf_34 (j + 1 + m)) (nI k) (nI (kk (cX D k) (r + 1) + 1)) (nI (S * 5 ^ r + code5 (dl (cX D k)) r)) (nI r) (ud D1 316 r (nI (dl (cX D k) r)))) (fun a => a.1 = nI (S * 625 + lik (cX D k)) ∧ Fr (fun j k => j = 316) D a.2) := by
      intro D1 hF1 hn1
      unfold f_X12_codeOf_182
      refine yGd (inB_nI (by omega) (by omega)) ?_
      rw [lt_d, lt_d, nI_clamp (by omega), show ud D1 316 r (nI (dl (cX D k) r)) 316 r = nI (dl (cX D k) r) by rw [ud_at, if_pos ⟨rfl, rfl⟩], nI_1, show (5 : Int32) = nI 5 from rfl, nI_mul, nI_add]
      have e : 5 * (S * 5 ^ r + code5 (dl (cX D k)) r) + dl (cX D k) r = S * 5 ^ (r + 1) + code5 (dl (cX D k)) (r + 1) := by
        show _ = S * 5 ^ (r + 1) + (code5 (dl (cX D k)) r * 5 + dl (cX D k) r)
        rw [Nat.pow_succ, ← Nat.mul_assoc]
        omega
      rw [e]
      refine ih (r + 1) m _ (by omega) (Fr.ud (S := fun j k => j = 316) hF1 rfl) (fun q hq => ?_)
      rw [ud_at]
      by_cases eq : q = r
      · rw [if_pos ⟨rfl, eq⟩, eq]
      · rw [if_neg (by omega)]; exact hn1 q (by omega)
    have one : ∀ z : Nat, z = off4 r → Y (f_X12_codeOf_65 (f_X12_codeOf_34 (j + 1 + m)) (nI k) (nI (kk (cX D k) r + 1)) (nI (S * 5 ^ r + code5 (dl (cX D k)) r)) (nI r) (nI z) (nI (6 * k)) D') (fun a => a.1 = nI (S * 625 + lik (cX D k)) ∧ Fr (fun j k => j = 316) D a.2) := by
      intro z hz
      have hz5 : z ≤ 5 := by rw [hz]; unfold off4; split <;> omega
      unfold f_X12_codeOf_65 f_X12_codeOf_86
      rw [nI_add, nI_clamp (by omega), h315, hz]
      refine yGd (inB_nI (by unfold off4; split <;> omega) (by omega)) (yLt0 ?_)
      show Y (if cX D k r = -1 then _ else _) _
      obtain ⟨q, hq⟩ := FUs (r + 1) (by omega)
      rw [hq, ← nI_0]
      refine yIte (fun h => yGd (inB_nI (by omega) (by omega)) (yLt0 ?_)) (fun h => yGd (inB_nI (by omega) (by omega)) (yLt0 ?_))
      · have e0 := dl_n1 (X := cX D k) r (by omega) h
        rw [nI_clamp (show r < 2 ^ 31 by omega)]
        have e2 : kk (cX D k) (r + 1) = kk (cX D k) r := by
          show max _ _ = _
          omega
        have := nx D' hF hn
        rw [e2, e0] at this
        rw [show r + 1 + 1 + q = (r + 1 + q) + 1 by omega]
        show Y (f_X12_codeOf_90_b _ _ _ _ _ _ _ _ _) _
        unfold f_X12_codeOf_90_b
        have w : ud D' 316 r (nI 0) 316 r = nI 0 := by rw [ud_at, if_pos ⟨rfl, rfl⟩]
        rw [nI_clamp (show r < 2 ^ 31 by omega), w, co160 (by omega) (by omega)]
        exact yIte (fun _ => this) (fun _ => yGd (inB_nI (by omega) (by omega)) (yNeg (by decide) this))
      · rw [nI_clamp (show r < 2 ^ 31 by omega)]
        have hn' : ∀ q, q < r → ud D' 316 r (-1) 316 q = nI (dl (cX D k) q) := fun q hq => by rw [ud_at, if_neg (by omega)]; exact hn q hq
        have e := co90 (k34 := f_X12_codeOf_34 (j + 1 + m)) (x3 := nI (S * 5 ^ r + code5 (dl (cX D k)) r)) (D := D) (D' := ud D' 316 r (-1)) (k := k) (r := r) hk (by omega) h (fun q => by rw [ud_at, if_neg (by omega)]; exact h315 q) hn' (by rw [ud_at, if_pos ⟨rfl, rfl⟩]) r 0 q (by omega) (fun q hq => absurd hq (Nat.not_lt_zero q))
        show Y (f_X12_codeOf_90 _ (r + 1 + 1 + q) _ _ _ _ (cX D k r) _ _) _
        rw [e]
        exact nx _ (Fr.ud (S := fun j k => j = 316) hF rfl) hn'
    rw [show (6 : Int32) * nI k = nI (6 * k) by rw [show (6 : Int32) = nI 6 from rfl, nI_mul]]
    refine yIte (fun h => ?_) (fun h => ?_)
    · rw [show (2 : Int32) = nI 2 from rfl, nI_leI (by omega) (by omega)] at h
      rw [show (2 : Int32) + nI r = nI (2 + r) from nI_add 2 r]
      exact one _ (by unfold off4; rw [if_neg (by omega)])
    · rw [show (2 : Int32) = nI 2 from rfl, nI_leI (by omega) (by omega)] at h
      rw [show (1 : Int32) + nI r = nI (1 + r) from nI_add 1 r]
      exact one _ (by unfold off4; rw [if_pos (by omega)])
/-- a state, from 0 on, 0: lost -/
def stN (s : Int32) : Nat := (s + 1).toNatClampNeg
def stOK (s : Int32) (n : Nat) : Prop := s = -1 ∨ ∃ k, k < n ∧ s = nI k
theorem stN_ok {s : Int32} {n : Nat} (hn : n ≤ 20) (h : stOK s n) : s + 1 = nI (stN s) ∧ stN s ≤ n := by
  rcases h with rfl | ⟨k, hk, rfl⟩
  · exact ⟨by decide, by rw [show stN (-1) = 0 from by decide]; omega⟩
  · unfold stN
    rw [nI_1, nI_clamp (by omega)]
    exact ⟨rfl, by omega⟩
/-- the registers of a couple in their row -/
def xs4 (a b : Cf) (r : Nat) : Int32 := if r = 0 then a.2.1 else if r = 1 then a.2.2 else if r = 2 then b.2.1 else b.2.2
def cod (a b : Cf) : Nat := (stN a.1 * 11 + stN b.1) * 625 + lik (xs4 a b)
theorem dl_congr {X Z : Nat → Int32} (h : ∀ r, r < 4 → X r = Z r) : ∀ r, dl X r = dl Z r := by
  intro r
  unfold dl lg3 lg2 lg1 lg0
  rw [h 0 (by omega), h 1 (by omega), h 2 (by omega), h 3 (by omega)]
theorem lik_congr {X Z : Nat → Int32} (h : ∀ r, r < 4 → X r = Z r) : lik X = lik Z := by
  unfold lik code5 code5 code5 code5 code5
  rw [dl_congr h, dl_congr h, dl_congr h, dl_congr h]
def cpl (D : Dm) (k : Nat) : Cf × Cf := ((D 315 (6 * k), D 315 (6 * k + 1), D 315 (6 * k + 2)), (D 315 (6 * k + 3), D 315 (6 * k + 4), D 315 (6 * k + 5)))
theorem cod_lt {a b : Cf} (ha : stOK a.1 5) (hb : stOK b.1 10) : cod a b < 41250 := by
  have h1 := (stN_ok (by omega) ha).2
  have h2 := (stN_ok (by omega) hb).2
  have h3 := code5_lt (X := xs4 a b) 4 (by omega)
  unfold cod lik
  omega
theorem codeOf_ok {D : Dm} {k : Nat} (hk : k < 3500) (ha : stOK (cpl D k).1.1 5) (hb : stOK (cpl D k).2.1 10) : Y (f_X12_codeOf (nI k) D) (fun a => a.1 = nI (cod (cpl D k).1 (cpl D k).2) ∧ Fr (fun j k => j = 316) D a.2) := by
  have e6 : (6 : Int32) * nI k = nI (6 * k) := by rw [show (6 : Int32) = nI 6 from rfl, nI_mul]
  unfold f_X12_codeOf
  rw [e6, show nI (6 * k) + 3 = nI (6 * k + 3) from nI_add _ 3, nI_clamp (by omega), nI_clamp (by omega)]
  refine yGd (inB_nI (by omega) (by omega)) (yGd (inB_nI (by omega) (by omega)) ?_)
  rw [lt_d]
  obtain ⟨h1, h1'⟩ := stN_ok (by omega) ha
  obtain ⟨h2, h2'⟩ := stN_ok (by omega) hb
  have h1 : D 315 (6 * k) + 1 = nI (stN (cpl D k).1.1) := h1
  have h2 : D 315 (6 * k + 3) + 1 = nI (stN (cpl D k).2.1) := h2
  rw [Int32.add_assoc, h1, h2, show (11 : Int32) = nI 11 from rfl, nI_mul, nI_add]
  obtain ⟨q, hq⟩ := FUs 4 (by omega)
  have := co34 (D := D) (k := k) (S := stN (cpl D k).1.1 * 11 + stN (cpl D k).2.1) hk (by omega) 4 0 q D rfl Fr.refl (fun q hq => absurd hq (Nat.not_lt_zero q))
  rw [show nI (kk (cX D k) 0 + 1) = 1 from rfl, nI_0, show (stN (cpl D k).1.1 * 11 + stN (cpl D k).2.1) * 5 ^ 0 + code5 (dl (cX D k)) 0 = stN (cpl D k).1.1 * 11 + stN (cpl D k).2.1 by rw [Nat.pow_zero, Nat.mul_one]; rfl] at this
  rw [hq]
  refine yMono this (fun a h => ⟨?_, h.2⟩)
  rw [h.1]
  unfold cod
  rw [lik_congr (X := cX D k) (Z := xs4 (cpl D k).1 (cpl D k).2)]
  intro r hr
  have : r = 0 ∨ r = 1 ∨ r = 2 ∨ r = 3 := by omega
  rcases this with rfl | rfl | rfl | rfl <;> rfl
