/-! ===== the joint step, all kinds ===== -/
section
variable {D D' E E' H : Dm} {T : Tb} {acc AH : Int32} {ts ss : Tst} {b a Z : Nat}
abbrev SXG (j q : Nat) : Prop := (299 ≤ j ∧ j ≤ 305) ∨ (j = 281 ∧ (q = 0 ∨ q = 3 ∨ q = 4 ∨ q = 5 ∨ (36 ≤ q ∧ q ≤ 51) ∨ q = 54 ∨ (66 ≤ q ∧ q ≤ 68)))
theorem LAI.fr (h : LAI E T acc ts b ss a Z H AH) (G : ∀ j q, 281 ≤ j → ¬ SXG j q → E' j q = E j q) : LAI E' T acc ts b ss a Z H AH := by
  refine ⟨by rw [G _ _ (by omega) (by unfold SXG; omega)]; exact h.1, ?_⟩
  have g6 : ∀ k, 55 ≤ k → k ≤ 65 → E' 281 k = E 281 k := fun k q1 q2 => G _ _ (by omega) (by unfold SXG; omega)
  rcases h.2 with ⟨r1, u, y, i, e, r2, r3, r4, r5, r6, r7, r8⟩ | ⟨r1, r2, u, y, i, r3, r4, r5, r6, r7, r8⟩ | ⟨r1, r2⟩
  · exact Or.inl ⟨by rw [g6 _ (by omega) (by omega)]; exact r1, u, y, i, e, r2, r3, r4, by rw [g6 _ (by omega) (by omega)]; exact r5, by rw [g6 _ (by omega) (by omega)]; exact r6, by rw [g6 _ (by omega) (by omega)]; exact r7, by rw [g6 _ (by omega) (by omega)]; exact r8⟩
  · exact Or.inr (Or.inl ⟨by rw [g6 _ (by omega) (by omega)]; exact r1, r2, u, y, i, r3, r4, r5, by rw [g6 _ (by omega) (by omega)]; exact r6, by rw [g6 _ (by omega) (by omega)]; exact r7, by rw [g6 _ (by omega) (by omega)]; exact r8⟩)
  · refine Or.inr (Or.inr ⟨r1.fr (fun j q z => G j q (by omega) (by unfold SXG; omega)), ?_⟩)
    rcases r2 with ⟨q1, q2, q3, q4⟩ | ⟨q1, q2, ⟨q3, q4, q5⟩, s, q6, q7, q8⟩
    · exact Or.inl ⟨q1, by rw [g6 _ (by omega) (by omega)]; exact q2, by rw [g6 _ (by omega) (by omega)]; exact q3, by rw [g6 _ (by omega) (by omega)]; exact q4⟩
    · refine Or.inr ⟨q1, by rw [g6 _ (by omega) (by omega)]; exact q2, ⟨q3, by rw [g6 _ (by omega) (by omega)]; exact q4, fun p hp => ?_⟩, s, q6, q7, by rw [g6 _ (by omega) (by omega)]; exact q8⟩
      rw [G _ _ (by omega) (by unfold SXG; omega), G _ _ (by omega) (by unfold SXG; omega)]; exact q5 p hp
theorem ss_least (hC : CIv D T acc ts b ss a Z) {u : Nat} (hu : u < a) : lfm (ss u).1 = (ss u).1 ∧ dsL (ss u).1 = (ss u).2 := by
  obtain ⟨n, q1, q2, q3, q4, q5, q6⟩ := hC.1.2.2.2.2 u hu
  have en : (ss u).1.length = n := by rw [q3, lts_len]
  have hs := hC.2.2.1 u hu
  rw [en] at hs
  constructor
  · rw [q3, lfm_lts]
    exact lts_congr (fun k _ hk => ⟨rfl, (hs k (by omega)).symm⟩)
  · rw [q3, dsL_lts, q4]
theorem lgw_least (hC : CIv D T acc ts b ss a Z) {u k : Nat} {y : Int32} (hu : u < a) (hk : k ≤ (ss u).2) : lfm ((ss u).1 ++ [(y, nI k)]) = (ss u).1 ++ [(y, nI k)] ∧ dsL ((ss u).1 ++ [(y, nI k)]) = lgM (ss u).2 k := by
  obtain ⟨h1, h2⟩ := ss_least hC hu
  obtain ⟨n, q1, q2, q3, -⟩ := hC.1.2.2.2.2 u hu
  have en : (ss u).1.length = n := by rw [q3, lts_len]
  refine ⟨lfm_snoc (by omega) h1 (by omega), ?_⟩
  rw [dsL_snoc (by omega) h1 (by omega), h2]
  unfold lgM
  by_cases c : k = (ss u).2
  · rw [if_pos c, if_pos (by omega), c]
  · rw [if_neg c, if_neg (by omega)]
/-- a short word is proposed -/
theorem stU (hp : PIv ts b ss Z) (hC : CIv D T acc ts b ss a Z) (hR : RIv E T acc ts b ss a Z) (hD : DEC D T acc ts b ss a Z H AH) (hL : LAI E T acc ts b ss a Z H AH) (h13 : D 43 13 = 2) (h55 : E 281 55 = 2) {u k : Nat} {y : Int32} (hu : u < a) (hk : k ≤ (ss u).2) (hy : isSy y) (h56 : E 281 56 = nI u) (h57 : E 281 57 = y) (h58 : E 281 58 = nI k) (hw : PWd D ((ss u).1 ++ [(y, nI k)])) :
    STP D E T acc Z (f_X3_makeStep D) (bI (f_X12_addsShort E) fun y16 D14 => if y16 = 0 then (f_X12_steps_58 D14) else (f_X12_steps_54 D14)) := by
  have h130 : D 43 13 ≠ 0 := by rw [h13]; decide
  obtain ⟨l1, l2⟩ := lgw_least (y := y) hC hu hk
  have hk3 := (hR.1.2.2.1.sy hu).1
  have hx := addsShort_ok hR.1.2.2.1 hu hy (show k < 1000 by omega) h56 h57 h58 l1 l2
  generalize (ss u).1 ++ [(y, nI k)] = w at *
  have h15 : D 43 15 = b01 (!okU a w) := by
    rcases hD.2.2.2.2 with ⟨q, -⟩ | ⟨k', w', k1, k4, q1, q2, q3⟩
    · exact absurd q h130
    · have : k' = 2 := nI_inj (by omega) (by omega) (by rw [← q1, h13]; rfl)
      rw [this, q2.uniq hw, fitB_2] at q3
      exact q3
  obtain ⟨⟨r, E1⟩, ex, hr, hf, ht⟩ := hx
  rw [ex, bI_d]
  dsimp only at hr hf ht
  cases ok : okU a w with
  | false =>
    rw [ok] at hr h15
    have hF := hf ok
    rw [hr, if_pos (show b01 false = 0 from rfl), mkN h130 h15]
    have G : ∀ j q, ¬ ((299 ≤ j ∧ j ≤ 305) ∨ (j = 281 ∧ (q = 3 ∨ q = 4 ∨ q = 5 ∨ (36 ≤ q ∧ q ≤ 51) ∨ q = 54))) → E1 j q = E j q := fun j q h => hF j q (fun z => by unfold STL at z; omega)
    exact ⟨-4, D, E1, ts, b, ss, a, rfl, rfl, Fr.refl, fun j q h => G j q (by unfold SRS at h; omega), ⟨hp, hC, ⟨hR.1.fr (fun j k q => G j k (by omega)), by rw [G _ _ (by omega)]; exact hR.2⟩, Or.inr ⟨H, AH, hD, Or.inr (hL.fr (fun j q _ h => G j q (by unfold SXG at h; omega)))⟩⟩, Or.inr (Or.inl rfl)⟩
  | true =>
    rw [ok] at hr h15
    obtain ⟨hF, hS⟩ := ht ok
    have hok := ok
    unfold okU at hok
    rw [Bool.and_eq_true, Bool.and_eq_true, decide_eq_true_eq, decide_eq_true_eq, decide_eq_true_eq] at hok
    obtain ⟨⟨o1, o2⟩, o3⟩ := hok
    obtain ⟨⟨r', D'⟩, em, m1, m2, m3, m4, m5⟩ := mkS hC h13 h15 hw (sy_k hC.1 hR.1.2.2.1 hp hD.2.2.2.1 hw h130) o1 o2 o3
    dsimp only at m1 m2 m3 m4 m5
    have e55 : E1 281 55 = 2 := by rw [hF _ _ (by unfold SAU; omega)]; exact h55
    rw [em, hr, if_neg (by decide)]
    have es : f_X12_steps_54 E1 = some (2, ud E1 281 33 0) := by
      unfold f_X12_steps_54 f_X12_steps_59
      rw [if_neg (by decide), lt_d, e55, if_neg (by decide), lt_d]
    have G2 : ∀ j q, ¬ ((289 ≤ j ∧ j ≤ 291) ∨ (299 ≤ j ∧ j ≤ 300) ∨ (j = 281 ∧ (q = 27 ∨ q = 33 ∨ q = 36))) → (ud E1 281 33 0) j q = E j q := fun j q h => by
      rw [ud_at, if_neg (by omega), hF j q (by unfold SAU; omega)]
    have hS2 : SR (ud E1 281 33 0) (addL ss a w) (a + 1) := hS.fr (by rw [ud_at, if_neg (by omega)]) (fun j k q1 q2 => by rw [ud_at, if_neg (by omega)])
    exact ⟨2, D', ud E1 281 33 0, ts, b, addL ss a w, a + 1, by rw [m1], es, m2.mono (fun j k q => SMS_S q), fun j q h => G2 j q (by unfold SRS at h; omega), ⟨hp.s hC.1.2.2.1.1, m3, ⟨RS_u hR.1 o1 o3 hS2 (fun j k q => G2 j k (by omega)), by rw [G2 _ _ (by omega)]; exact hR.2⟩, Or.inl ⟨m4, by rw [ud_at, if_pos ⟨rfl, rfl⟩]⟩⟩, Or.inr (Or.inr (Or.inr (Or.inl rfl)))⟩
theorem step_j (hJ : JNT D E T acc ts b ss a Z) : ∃ D1, f_X3_decide D = some D1 ∧ Fr SCS D D1 ∧ STP D1 E T acc Z (f_X3_makeStep D1) (f_X12_steps E) := by
  obtain ⟨D1, E1, H, AH, e1, e2, F1, F2, hC, hR, hD, hL⟩ := dl_j hJ
  have hp := hJ.1
  refine ⟨D1, e1, F1, ?_⟩
  have lift : ∀ x, STP D1 E1 T acc Z (f_X3_makeStep D1) x → STP D1 E T acc Z (f_X3_makeStep D1) x := fun x h => by
    obtain ⟨r, D', E', ts', b', ss', a', h1, h2, h3, h4, h5⟩ := h
    exact ⟨r, D', E', ts', b', ss', a', h1, h2, h3, F2.tr h4, h5⟩
  unfold f_X12_steps
  rw [e2, bV_d]
  apply lift
  rcases kinds hD.2.2.2.1 hL.2 with ⟨k1, k2, k3, u, y, i, e, x, hv, hf, hx, hw, k6, k7, k8, k9⟩ | ⟨k1, k2, k3, u, y, i, hv, hf, hw, k6, k7, k8⟩ | ⟨h3, h4⟩
  · rw [if_neg (by rw [k3]; decide), if_pos k3]
    have hnm := nmi_le2 (acc := acc) (ts := ts) (b := b) (T := T) hR.1.2.2.1 hC.1.1.wfT (i := i) hv.1
    have hy : y < 2 := by have := hp.2.2; have := hv.2.1; omega
    exact stT (S := SX) hp hC hR hD hL (k := 1) (Or.inl rfl) k1 k3 hw (fun j q z => by unfold SX at z; omega) (addsShown_ok hR.1 hv.1 hy hnm (fst1_lt hf) hx k6 k7 k8 k9)
  · rw [if_neg (by rw [k3]; decide), if_neg (by rw [k3]; decide), if_pos k3]
    have hnm := nmi_le2 (acc := acc) (ts := ts) (b := b) (T := T) hR.1.2.2.1 hC.1.1.wfT (i := i) hv.1
    have hy : y < 2 := by have := hp.2.2; have := hv.2.1; omega
    exact stU hp hC hR hD hL k1 k3 hv.1 hnm (isSy_n hy) k6 k7 k8 hw
  · obtain ⟨-, -, -, -, -, h5⟩ := id h3
    obtain ⟨hs, h6⟩ := id h4
    rcases h5 with ⟨f1, f2, f3, f4⟩ | ⟨f1, f2, f3, s, f4, f5, f6, f7⟩
    · rcases h6 with ⟨g1, g2, g3, g4⟩ | ⟨g1, -⟩
      · rw [if_pos g2, mk0 f2]
        have es : f_X12_steps_54 E1 = some (0, E1) := by
          unfold f_X12_steps_54 f_X12_steps_59
          rw [if_neg (by decide), lt_d, g2, if_pos rfl]
        rw [es]
        exact ⟨0, D1, E1, ts, b, ss, a, rfl, rfl, Fr.refl, Fr.refl, ⟨hp, hC, hR, Or.inr ⟨H, AH, hD, Or.inr hL⟩⟩, Or.inl rfl⟩
      · rw [f1] at g1; cases g1
    · rcases h6 with ⟨g1, -⟩ | ⟨g1, g2, g3, s', g4, g5, g6⟩
      · rw [f1] at g1; cases g1
      · rw [f4] at g4
        cases g4
        rw [if_neg (by rw [g2]; decide), if_neg (by rw [g2]; decide), if_neg (by rw [g2]; decide)]
        exact stT (S := STL) hp hC hR hD hL (k := 3) (Or.inr rfl) f2 g2 f7 (fun j q z => by unfold STL at z; omega) (addsSplit_ok hR.1.2.1 g3 (ltr_k hC.1 hR.1.2.2.1 hp h3 f1).1 f5 g6)
end
