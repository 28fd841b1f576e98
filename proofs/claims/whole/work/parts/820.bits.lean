/-! ===== share: the bits, pure ===== -/
def pR8 : Nat → Int32 → Int32 → Int32 → Option Int32
  | 0, _, _, _ => none
  | n + 1, x0, x1, x2 => if 0 ≤ (lg_cmp ((Int32.toInt64 x0) <<< ((x2).toInt64 &&& 63)) (Int32.toInt64 x1)) then (gd (decide (¬ (Int32.toInt64 x1) = 0)) (if 0 < (lg_cmp (2 * (((Int32.toInt64 x0) <<< (((x2 + 23)).toInt64 &&& 63)) - ((Int32.toInt64 x0) <<< (((x2 + 23)).toInt64 &&& 63)) / (Int32.toInt64 x1) * (Int32.toInt64 x1))) (Int32.toInt64 x1)) then some (pR81 x2 (((Int32.toInt64 x0) <<< (((x2 + 23)).toInt64 &&& 63)) / (Int32.toInt64 x1) + 1)) else (if (lg_cmp (2 * (((Int32.toInt64 x0) <<< (((x2 + 23)).toInt64 &&& 63)) - ((Int32.toInt64 x0) <<< (((x2 + 23)).toInt64 &&& 63)) / (Int32.toInt64 x1) * (Int32.toInt64 x1))) (Int32.toInt64 x1)) = 0 then (if (lg_cmp ((((Int32.toInt64 x0) <<< (((x2 + 23)).toInt64 &&& 63)) / (Int32.toInt64 x1)) - (((Int32.toInt64 x0) <<< (((x2 + 23)).toInt64 &&& 63)) / (Int32.toInt64 x1)) / 2 * 2) 1) = 0 then some (pR81 x2 (((Int32.toInt64 x0) <<< (((x2 + 23)).toInt64 &&& 63)) / (Int32.toInt64 x1) + 1)) else some (pR81 x2 (((Int32.toInt64 x0) <<< (((x2 + 23)).toInt64 &&& 63)) / (Int32.toInt64 x1)))) else some (pR81 x2 (((Int32.toInt64 x0) <<< (((x2 + 23)).toInt64 &&& 63)) / (Int32.toInt64 x1)))))) else pR8 n x0 x1 (x2 + 1)
theorem pR8_ok {D : Dm} {v : Int32} : ∀ {n m : Nat} {x0 x1 x2 : Int32}, pR8 n x0 x1 x2 = some v → f_X12_bitsOf_8 (n + m) x0 x1 x2 D = some (v, D)
  | 0, m, x0, x1, x2, h => by cases h
  | n + 1, m, x0, x1, x2, h => by
    rw [show n + 1 + m = (n + m) + 1 by omega]
    show f_X12_bitsOf_8_b _ _ _ _ _ = _
    unfold f_X12_bitsOf_8_b f_X12_bitsOf_75 f_X12_bitsOf_81
    unfold pR8 pR81 at h
    simp only [lt_d]
    by_cases c : 0 ≤ (lg_cmp ((Int32.toInt64 x0) <<< ((x2).toInt64 &&& 63)) (Int32.toInt64 x1))
    · rw [if_pos c] at h ⊢
      obtain ⟨a, h⟩ := gd_some h
      rw [gd_t a, gd_t a, gd_t (by decide)]
      split at h
      · next q =>
        rw [if_pos q]
        cases h; rfl
      · next q =>
        rw [if_neg q]
        split at h
        · next q2 =>
          rw [if_pos q2]
          split at h
          · next q3 =>
            rw [if_pos q3]
            cases h; rfl
          · next q3 =>
            rw [if_neg q3]
            cases h; rfl
        · next q2 =>
          rw [if_neg q2]
          cases h; rfl
    · rw [if_neg c] at h ⊢
      exact pR8_ok h
def pRb (n : Nat) (x0 x1 : Int32) : Option Int32 := if x0 = 0 then some 0 else pR8 n x0 x1 0
def shB1 (al t : Nat) : Bool := nanB (FP.fdiv (FP.i2f (nI t)) (FP.i2f (nI al))) && (pC 40 (FP.fdiv (FP.i2f (nI t)) (FP.i2f (nI al)))).isSome && decide (pC 40 (FP.fdiv (FP.i2f (nI t)) (FP.i2f (nI al))) = pRb 40 (nI t) (nI al))
def shBA (al lo n : Nat) : Bool := (List.range n).all (fun t => shB1 al (lo + t))
theorem shT_1 : shBA 1 0 2 = true := by decide +kernel
theorem shT_2 : shBA 2 0 3 = true := by decide +kernel
theorem shT_5 : shBA 5 0 6 = true := by decide +kernel
theorem shT_8 : shBA 8 0 9 = true := by decide +kernel
theorem shT_15 : shBA 15 0 16 = true := by decide +kernel
theorem shT_40 : shBA 40 0 41 = true := by decide +kernel
theorem shT_52 : shBA 52 0 53 = true := by decide +kernel
theorem shT_240 : shBA 240 0 241 = true := by decide +kernel
theorem shU_0 : shBA 1664 0 128 = true := by decide +kernel
theorem shU_1 : shBA 1664 128 128 = true := by decide +kernel
theorem shU_2 : shBA 1664 256 128 = true := by decide +kernel
theorem shU_3 : shBA 1664 384 128 = true := by decide +kernel
theorem shU_4 : shBA 1664 512 128 = true := by decide +kernel
theorem shU_5 : shBA 1664 640 128 = true := by decide +kernel
theorem shU_6 : shBA 1664 768 128 = true := by decide +kernel
theorem shU_7 : shBA 1664 896 128 = true := by decide +kernel
theorem shU_8 : shBA 1664 1024 128 = true := by decide +kernel
theorem shU_9 : shBA 1664 1152 128 = true := by decide +kernel
theorem shU_10 : shBA 1664 1280 128 = true := by decide +kernel
theorem shU_11 : shBA 1664 1408 128 = true := by decide +kernel
theorem shU_12 : shBA 1664 1536 128 = true := by decide +kernel
theorem shU_13 : shBA 1664 1664 1 = true := by decide +kernel
