/-- length or letter of a word, as both tell it -/
def lolv (n : Nat) (s nm : Nat → Int32) (x1 x2 : Int32) : Int32 :=
  if x1 = -1 then (if x2 = 0 then nI n else -2) else if 0 ≤ x1.toInt ∧ x1.toInt < n then (if x2 = 0 then s x1.toNatClampNeg else if x2 = 1 then nm x1.toNatClampNeg else -2) else -2
theorem lolv_congr {n : Nat} {s nm s' nm' : Nat → Int32} {x1 x2 : Int32} (h : ∀ k, k < n → s k = s' k ∧ nm k = nm' k) : lolv n s nm x1 x2 = lolv n s' nm' x1 x2 := by
  unfold lolv
  by_cases c : x1 = -1
  · rw [if_pos c, if_pos c]
  · rw [if_neg c, if_neg c]
    by_cases c2 : 0 ≤ x1.toInt ∧ x1.toInt < n
    · have e : x1.toNatClampNeg < n := by
        rw [nIt c2.1, nI_clamp (by have := Int32.toInt_lt x1; omega)]
        omega
      rw [if_pos c2, if_pos c2, (h _ e).1, (h _ e).2]
    · rw [if_neg c2, if_neg c2]
theorem clt {x : Int32} {n : Nat} (h : 0 ≤ x.toInt ∧ x.toInt < n) (hn : n < 2 ^ 31) : ∃ k, k < n ∧ x = nI k := ⟨x.toInt.toNat, by omega, nIt h.1⟩
theorem lol_ok {D : Dm} {w n : Nat} {x1 x2 : Int32} (hw : D w 3 = nI n) (hn : n ≤ 20) : f_X11_lengthOrLetterOf w x1 x2 D = some (lolv n (D (w + 1)) (D (w + 2)) x1 x2, D) := by
  unfold f_X11_lengthOrLetterOf f_X11_letterOf lolv
  rw [hw]
  by_cases c : x1 = -1
  · rw [if_pos c, if_pos c]
    split <;> rfl
  · rw [if_neg c, if_neg c]
    by_cases c2 : 0 ≤ x1.toInt ∧ x1.toInt < n
    · rw [if_pos c2, if_neg (by rw [lt0]; omega), if_pos (by rw [Int32.lt_iff_toInt_lt, nI_toInt (by omega)]; omega)]
      obtain ⟨k, hk, rfl⟩ := clt c2 (by omega)
      rw [gd_t (inB_nI (by omega) (by omega)), gd_t (inB_nI (by omega) (by omega))]
      by_cases d : x2 = 0
      · rw [if_pos d, if_pos d, bI_d]
      · rw [if_neg d, if_neg d]
        by_cases d1 : x2 = 1
        · rw [if_pos d1, if_pos d1, bI_d]
        · rw [if_neg d1, if_neg d1, bI_d]
    · rw [if_neg c2]
      by_cases d : x1.toInt < 0
      · rw [if_pos (by rw [lt0]; exact d), bI_d]
      · rw [if_neg (by rw [lt0]; exact d), if_neg (by rw [Int32.lt_iff_toInt_lt, nI_toInt (by omega)]; omega), bI_d]
theorem isIn01 {D : Dm} {x : Int32} : f_X12_isIn (Int32.toInt64 x) 0 1 D = some (if x = 0 ∨ x = 1 then 1 else 0, D) := by
  rw [isIn_i (l := 0) (h := 1) rfl rfl]
  by_cases c : x = 0 ∨ x = 1
  · rw [if_pos c, if_pos]
    rcases c with rfl | rfl <;> decide
  · rw [if_neg c, if_neg]
    intro q
    exact c (isSy_of q.1 (by omega))
theorem isInN {D : Dm} {x a : Int32} {n : Nat} (h : a = nI n) (hn : n < 2 ^ 31) : f_X12_isIn (Int32.toInt64 x) 0 (Int32.toInt64 (a - 1)) D = some (if 0 ≤ x.toInt ∧ x.toInt < n then 1 else 0, D) := by
  rw [isIn_i (l := 0) (h := (n : Int) - 1) rfl (t64 (by rw [h, sub1 (by rw [nI_toInt hn]; omega), nI_toInt hn]))]
  by_cases c : 0 ≤ x.toInt ∧ x.toInt < n
  · rw [if_pos c, if_pos (by omega)]
  · rw [if_neg c, if_neg (by omega)]
theorem told_ok {D : Dm} {r0 r1 r2 t n : Nat} {x4 x5 : Int32} (ht : t < 10) (hr : D r0 t = nI n) (hn : n ≤ 6) : f_X12_told r0 10 r1 60 r2 60 (nI t) x4 x5 D = some (lolv n (fun k => D r1 (6 * t + k)) (fun k => D r2 (6 * t + k)) x4 x5, D) := by
  unfold f_X12_told lolv
  rw [gd_t (inB_nI ht (by omega)), gd_t (inB_nI ht (by omega)), nI_clamp (by omega), hr]
  by_cases c : x4 = -1
  · rw [if_pos c, if_pos c]
    split <;> rfl
  · rw [if_neg c, if_neg c, isInN rfl (by omega), bI_d]
    by_cases c2 : 0 ≤ x4.toInt ∧ x4.toInt < n
    · rw [if_pos c2, if_pos c2, if_neg (by decide), isIn01, bI_d]
      obtain ⟨k, hk, rfl⟩ := clt c2 (by omega)
      have e : 6 * nI t + nI k = nI (6 * t + k) := by rw [← nI_add, show 6 * nI t = nI (6 * t) from (Int32.ofNat_mul 6 t).symm]
      rw [e, gd_t (inB_nI (by omega) (by omega)), gd_t (inB_nI (by omega) (by omega)), nI_clamp (by omega), nI_clamp (by omega)]
      by_cases d : x5 = 0
      · rw [if_pos (Or.inl d), if_neg (by decide), if_pos d, if_pos d]
      · by_cases d1 : x5 = 1
        · rw [if_pos (Or.inr d1), if_neg (by decide), if_neg d, if_neg d, if_pos d1]
        · rw [if_neg (fun q => q.elim d d1 : ¬ (x5 = 0 ∨ x5 = 1)), if_pos (rfl : (0 : Int32) = 0), if_neg d, if_neg d1]
    · rw [if_neg c2, if_neg c2, if_pos rfl]
theorem letter_eq {D : Dm} {n : Nat} (h : RW D n) (hW : isW D 17 n) (x1 x2 : Int32) : ∃ r, f_X11_letter x1 x2 D = some (r, D) ∧ f_X12_letter x1 x2 D = some (r, ud D 281 0 0) := by
  obtain ⟨hn, h17, h281, hk⟩ := h
  obtain ⟨-, -, -, hl⟩ := hW
  have lc : ∀ k, k < n → lsf (D 286) k = lsf (D 19) k := fun k hk2 => lsf_congr (fun j hj => (hk j (by omega)).2.1)
  unfold f_X11_letter f_X12_letter f_X11_letter_30
  rw [lol_ok h17 (by omega), bI_d, lt_d, show ud D 281 0 0 281 18 = nI n from h281, isInN rfl (by omega), bI_d, h17]
  by_cases c : x1 = -1
  · refine ⟨lolv n (D (17 + 1)) (D (17 + 2)) x1 x2, ?_, ?_⟩
    · rw [if_pos (show x1 < 0 by rw [c]; decide)]
      split <;> rfl
    · unfold lolv
      rw [if_pos c, if_pos c]
      split <;> rfl
  · rw [if_neg c]
    by_cases c2 : 0 ≤ x1.toInt ∧ x1.toInt < n
    · rw [if_pos c2, if_neg (by decide : ¬ (1 : Int32) = 0), isIn_i (l := 0) (h := 2) rfl rfl, bI_d]
      obtain ⟨k, hk3, rfl⟩ := clt c2 (by omega)
      rw [gd_t (inB_nI (by omega) (by omega)), gd_t (inB_nI (by omega) (by omega)), gd_t (inB_nI (by omega) (by omega)), rl_ok (by omega), bI_d, nI_clamp (by omega), if_neg (show ¬ nI k < 0 by rw [lt0]; omega), if_neg (nI_nle2 hk3 (by omega)), show D 20 k = nI (lsf (D 19) k) from hl k hk3]
      unfold lolv
      rw [if_neg c, if_pos c2, nI_clamp (by omega)]
      by_cases d : x2 = 0
      · refine ⟨_, by rw [if_neg (by rw [d]; decide : ¬ x2 = 2), if_pos d], ?_⟩
        rw [if_pos (by rw [d]; decide : 0 ≤ x2.toInt ∧ x2.toInt ≤ 2), if_neg (by decide : ¬ (1 : Int32) = 0), if_pos d]
        exact congrArg (fun z => some (z, ud D 281 0 0)) (hk k hk3).1
      · by_cases d1 : x2 = 1
        · refine ⟨_, by rw [if_neg (by rw [d1]; decide : ¬ x2 = 2), if_neg d, if_pos d1], ?_⟩
          rw [if_pos (by rw [d1]; decide : 0 ≤ x2.toInt ∧ x2.toInt ≤ 2), if_neg (by decide : ¬ (1 : Int32) = 0), if_neg d, if_pos d1]
          exact congrArg (fun z => some (z, ud D 281 0 0)) (hk k hk3).2.1
        · by_cases d2 : x2 = 2
          · refine ⟨_, by rw [if_pos d2], ?_⟩
            rw [if_pos (by rw [d2]; decide : 0 ≤ x2.toInt ∧ x2.toInt ≤ 2), if_neg (by decide : ¬ (1 : Int32) = 0), if_neg d, if_neg d1]
            exact congrArg (fun z => some (nI z, ud D 281 0 0)) (lc k hk3)
          · refine ⟨_, by rw [if_neg d2, if_neg d, if_neg d1], ?_⟩
            have a0 := ne_toInt d (k := 0) rfl
            have a1 := ne_toInt d1 (k := 1) rfl
            have a2 := ne_toInt d2 (k := 2) rfl
            rw [if_neg (by omega : ¬ (0 ≤ x2.toInt ∧ x2.toInt ≤ 2)), if_pos rfl]
    · rw [if_neg c2, if_pos rfl]
      refine ⟨-2, ?_, rfl⟩
      have e : lolv n (D (17 + 1)) (D (17 + 2)) x1 x2 = -2 := by
        unfold lolv
        rw [if_neg c, if_neg c2]
      rw [e]
      by_cases d : x1 < 0
      · rw [if_pos d]
        split <;> rfl
      · rw [if_neg d, if_pos (show nI n ≤ x1 by rw [lt0] at d; rw [Int32.le_iff_toInt_le, nI_toInt (by omega)]; omega)]
        split <;> rfl
