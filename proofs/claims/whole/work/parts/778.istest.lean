/-! ===== is the word a test, reference ===== -/
theorem isTest_ok {D : Dm} {ts : Tst} {b t M : Nat} {l : List Lt} (hT : TR D ts b) (ht : t < b) (hK : LKm D l M) : f_X12_isTest (nI t) D = some (b01 (decide ((ts t).1 = l)), D) := by
  obtain ⟨hb, -, h3⟩ := hT
  obtain ⟨m, m6, b3, bl, -⟩ := h3 t ht
  obtain ⟨n, n40, a3, al, -⟩ := hK
  unfold f_X12_isTest
  rw [gd_t (inB_nI (by omega) (by omega)), nI_clamp (by omega), b3, a3]
  by_cases e : m = n
  · subst e
    rw [if_pos rfl]
    have iff : (ts t).1 = l ↔ ∀ q, q < m → D 293 (6 * t + q) = D 299 q ∧ D 294 (6 * t + q) = D 300 q := by
      rw [bl, al]
      exact ⟨fun h => lts_inj h, fun h => lts_congr (fun q _ hq => h q (by omega))⟩
    have loop : ∀ (j k z : Nat), k + j = m → (∀ q, q < k → D 293 (6 * t + q) = D 299 q ∧ D 294 (6 * t + q) = D 300 q) → f_X12_isTest_17 (j + 1 + z) (nI t) (nI k) D = some (b01 (decide ((ts t).1 = l)), D) := by
      intro j
      induction j with
      | zero =>
        intro k z hk hq
        have hk : k = m := by omega
        rw [show 0 + 1 + z = z + 1 by omega]
        show f_X12_isTest_17_b _ _ _ _ = _
        unfold f_X12_isTest_17_b
        rw [a3, if_pos (by rw [hk]; exact nI_le (Nat.le_refl _) (by omega)), decide_eq_true (iff.mpr (fun q h => hq q (by omega)))]
        rfl
      | succ j ih =>
        intro k z hk hq
        rw [show j + 1 + 1 + z = (j + 1 + z) + 1 by omega]
        show f_X12_isTest_17_b _ _ _ _ = _
        unfold f_X12_isTest_17_b
        have e6 : (6 : Int32) * nI t + nI k = nI (6 * t + k) := by rw [show (6 : Int32) = nI 6 from rfl, nI_mul, nI_add]
        rw [a3, if_neg (nI_nle2 (by omega) (by omega)), e6, gd_t (inB_nI (by omega) (by omega)), gd_t (inB_nI (by omega) (by omega)), nI_clamp (by omega), nI_clamp (show k < 2 ^ 31 by omega)]
        by_cases c1 : D 293 (6 * t + k) = D 299 k
        · rw [if_pos c1, gd_t (inB_nI (by omega) (by omega)), gd_t (inB_nI (by omega) (by omega))]
          by_cases c2 : D 294 (6 * t + k) = D 300 k
          · rw [if_pos c2, lt_d, nI_1]
            refine ih (k + 1) z (by omega) (fun q h => ?_)
            by_cases eq : q = k
            · rw [eq]; exact ⟨c1, c2⟩
            · exact hq q (by omega)
          · rw [if_neg c2, decide_eq_false (fun h => c2 (iff.mp h k (by omega)).2)]; rfl
        · rw [if_neg c1, decide_eq_false (fun h => c1 (iff.mp h k (by omega)).1)]; rfl
    obtain ⟨z, hz⟩ := FUs m (by omega)
    have := loop m 0 z (by omega) (fun q h => absurd h (Nat.not_lt_zero q))
    rw [nI_0] at this
    rw [hz]
    exact this
  · rw [if_neg (fun h => e (nI_inj (by omega) (by omega) h)), decide_eq_false (fun h => e ?_)]
    · rfl
    · have := congrArg List.length h
      rwa [bl, al, lts_len, lts_len] at this
