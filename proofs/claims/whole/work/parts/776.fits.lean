/-! ===== words in least form, class ===== -/
def lstW (D : Dm) (r n : Nat) : List Lt := lts (D (r + 1)) (fun k => nI (lsf (D (r + 2)) k)) 0 n
theorem lst_eq {D : Dm} {r0 r1 n : Nat} : lstW D r0 n = lstW D r1 n ↔ ∀ q, q < n → D (r0 + 1) q = D (r1 + 1) q ∧ nI (lsf (D (r0 + 2)) q) = nI (lsf (D (r1 + 2)) q) := by
  constructor
  · intro h; exact lts_inj h
  · intro h; exact lts_congr (fun q _ hq => h q (by omega))
theorem ila_ok {D : Dm} {r0 r1 n m : Nat} (h0 : isW D r0 n) (h1 : isW D r1 m) : f_X10_isLeastAs r0 r1 D = some (b01 (decide (lstW D r0 n = lstW D r1 m)), D) := by
  obtain ⟨n20, a3, -, al⟩ := h0
  obtain ⟨m20, b3, -, bl⟩ := h1
  unfold f_X10_isLeastAs
  by_cases e : n = m
  · subst e
    rw [if_pos (by rw [a3, b3])]
    have loop : ∀ (j k z : Nat), k + j = n → (∀ q, q < k → D (r0 + 1) q = D (r1 + 1) q ∧ nI (lsf (D (r0 + 2)) q) = nI (lsf (D (r1 + 2)) q)) → f_X10_isLeastAs_15 (j + 1 + z) r0 r1 (nI k) D = some (b01 (decide (lstW D r0 n = lstW D r1 n)), D) := by
      intro j
      induction j with
      | zero =>
        intro k z hk hq
        have hk : k = n := by omega
        rw [show 0 + 1 + z = z + 1 by omega]
        show f_X10_isLeastAs_15_b _ _ _ _ _ = _
        unfold f_X10_isLeastAs_15_b
        rw [a3, if_pos (by rw [hk]; exact nI_le (Nat.le_refl _) (by omega)), decide_eq_true (lst_eq.mpr (fun q h => hq q (by omega)))]
        rfl
      | succ j ih =>
        intro k z hk hq
        rw [show j + 1 + 1 + z = (j + 1 + z) + 1 by omega]
        show f_X10_isLeastAs_15_b _ _ _ _ _ = _
        unfold f_X10_isLeastAs_15_b
        rw [a3, if_neg (nI_nle2 (by omega) (by omega)), gd_t (inB_nI (by omega) (by omega)), gd_t (inB_nI (by omega) (by omega)), nI_clamp (by omega)]
        by_cases c1 : D (r0 + 1) k = D (r1 + 1) k
        · rw [if_pos c1, gd_t (inB_nI (by omega) (by omega)), gd_t (inB_nI (by omega) (by omega)), al k (by omega), bl k (by omega)]
          by_cases c2 : nI (lsf (D (r0 + 2)) k) = nI (lsf (D (r1 + 2)) k)
          · rw [if_pos c2, lt_d, nI_1]
            refine ih (k + 1) z (by omega) (fun q h => ?_)
            by_cases eq : q = k
            · rw [eq]; exact ⟨c1, c2⟩
            · exact hq q (by omega)
          · rw [if_neg c2, decide_eq_false (fun h => c2 (lst_eq.mp h k (by omega)).2)]; rfl
        · rw [if_neg c1, decide_eq_false (fun h => c1 (lst_eq.mp h k (by omega)).1)]; rfl
    obtain ⟨z, hz⟩ := FUs n (by omega)
    have := loop n 0 z (by omega) (fun q h => absurd h (Nat.not_lt_zero q))
    rw [nI_0] at this
    rw [hz]
    exact this
  · rw [if_neg (by rw [a3, b3]; exact fun h => e (nI_inj (by omega) (by omega) h)), decide_eq_false (fun h => e ?_)]
    · rfl
    · have := congrArg List.length h
      unfold lstW at this
      rwa [lts_len, lts_len] at this
/-- is the word no test yet, and is there room -/
def nwT (D : Dm) (nt : Nat → Nat) (n b : Nat) : Bool := (List.range b).all (fun t => !decide (lstW D 68 n = lstW D (82 + 4 * t) (nt t)))
theorem fits_ok {D : Dm} {n b a k : Nat} {nt : Nat → Nat} (hW : isW D 68 n) (hb : b ≤ 10) (h76 : D 76 2 = nI b) (ha : a ≤ 10) (h4 : D 43 4 = nI a) (hk : D 43 13 = nI k) (hk4 : k < 4) (ht : ∀ t, t < b → isW D (82 + 4 * t) (nt t)) : f_X3_fits D = some (b01 (decide (n ≤ 6) && decide (dsf (D 70) n ≤ 3) && if k = 2 then decide (a < 10) else nwT D nt n b && decide (b < 10)), D) := by
  obtain ⟨n20, w3, w4, -⟩ := id hW
  have w4 : D 68 4 = nI (dsf (D 70) n) := w4
  have ds : dsf (D 70) n ≤ n := dsf_le _ _
  unfold f_X3_fits
  rw [w3, w4, h4, hk]
  by_cases c1 : n ≤ 6
  · rw [if_neg (show ¬ (6 : Int32) < nI n from (show ¬ nI 6 < nI n from nI_nlt (by omega) (by omega))), decide_eq_true c1, Bool.true_and]
    by_cases c2 : dsf (D 70) n ≤ 3
    · rw [if_pos (show nI (dsf (D 70) n) ≤ 3 from (show nI (dsf (D 70) n) ≤ nI 3 from nI_le c2 (by omega))), decide_eq_true c2, Bool.true_and]
      by_cases c3 : k = 2
      · rw [if_pos (by rw [c3]; rfl), if_pos c3]
        by_cases c4 : a < 10
        · rw [if_neg (show ¬ (10 : Int32) ≤ nI a from (show ¬ nI 10 ≤ nI a from nI_nle2 (by omega) (by omega))), decide_eq_true c4]; rfl
        · rw [if_pos (show (10 : Int32) ≤ nI a from (show nI 10 ≤ nI a from nI_le (by omega) (by omega))), decide_eq_false c4]; rfl
      · rw [if_neg (show ¬ nI k = 2 from fun e => c3 (nI_inj (by omega) (by omega) (show nI k = nI 2 from e))), if_neg c3]
        have loop : ∀ (j i z : Nat), i + j = b → (∀ t, t < i → lstW D 68 n ≠ lstW D (82 + 4 * t) (nt t)) → f_X3_fits_50 (j + 1 + z) (nI i) D = some (b01 (nwT D nt n b && decide (b < 10)), D) := by
          intro j
          induction j with
          | zero =>
            intro i z hi hq
            have hi : i = b := by omega
            rw [show 0 + 1 + z = z + 1 by omega]
            show f_X3_fits_50_b _ _ _ = _
            unfold f_X3_fits_50_b
            have nw : nwT D nt n b = true := by
              unfold nwT
              rw [List.all_eq_true]
              intro t ht
              have := List.mem_range.mp ht
              rw [decide_eq_false (hq t (by omega))]; rfl
            rw [h76, if_pos (by rw [hi]; exact nI_le (Nat.le_refl _) (by omega)), nw, Bool.true_and]
            by_cases c4 : b < 10
            · rw [if_neg (show ¬ (10 : Int32) ≤ nI b from (show ¬ nI 10 ≤ nI b from nI_nle2 (by omega) (by omega))), decide_eq_true c4]; rfl
            · rw [if_pos (show (10 : Int32) ≤ nI b from (show nI 10 ≤ nI b from nI_le (by omega) (by omega))), decide_eq_false c4]; rfl
          | succ j ih =>
            intro i z hi hq
            rw [show j + 1 + 1 + z = (j + 1 + z) + 1 by omega]
            show f_X3_fits_50_b _ _ _ = _
            unfold f_X3_fits_50_b
            rw [h76, if_neg (nI_nle2 (by omega) (by omega)), gd_t (inB_nI (by omega) (by omega)), nI_clamp (by omega), ar77 i (by omega), ila_ok hW (ht i (by omega)), bI_d]
            by_cases c4 : lstW D 68 n = lstW D (82 + 4 * i) (nt i)
            · rw [decide_eq_true c4, if_neg (by decide)]
              have nw : nwT D nt n b = false := by
                cases hn : nwT D nt n b with
                | false => rfl
                | true =>
                  unfold nwT at hn
                  rw [List.all_eq_true] at hn
                  have := hn i (List.mem_range.mpr (by omega))
                  rw [decide_eq_true c4] at this
                  cases this
              rw [nw, Bool.false_and]; rfl
            · rw [decide_eq_false c4, if_pos (show b01 false = 0 from rfl), lt_d, nI_1]
              refine ih (i + 1) z (by omega) (fun t h => ?_)
              by_cases eq : t = i
              · rw [eq]; exact c4
              · exact hq t (by omega)
        obtain ⟨z, hz⟩ := FUs b (by omega)
        have := loop b 0 z (by omega) (fun q h => absurd h (Nat.not_lt_zero q))
        rw [nI_0] at this
        rw [hz]
        exact this
    · rw [if_neg (show ¬ nI (dsf (D 70) n) ≤ 3 from (show ¬ nI (dsf (D 70) n) ≤ nI 3 from nI_nle2 (by omega) (by omega))), decide_eq_false c2, Bool.false_and]; rfl
  · rw [if_pos (show (6 : Int32) < nI n from (show nI 6 < nI n from nI_lt (by omega) (by omega))), decide_eq_false c1, Bool.false_and, Bool.false_and]; rfl
