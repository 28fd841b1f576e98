theorem many_eq {D : Dm} (h0 : RM D 0) (h1 : RM D 1) (x1 x2 : Int32) : ∃ r D1, f_X11_many x1 x2 D = some (r, D1) ∧ frT D D1 269 ∧ ∀ D' : Dm, (∀ k, D' 282 k = D 282 k) → ∃ D2, f_X12_many x1 x2 D' = some (r, D2) ∧ frC D' D2 := by
  rcases cnt_eq h0 h1 x1 x2 with ⟨r, hr, a, b⟩ | ⟨m, L, Y, t, D1, hm, -, hL, hY, -, a, f, ht, b⟩
  · refine ⟨r, D, a, frT_refl, fun D' hD => ⟨_, ?_, frC_0⟩⟩
    unfold f_X12_many
    rw [lt_d, b (ud D' 281 0 0) (fun k => by rw [← hD]; rfl), bI_d, if_neg hr]
  · refine ⟨_, D1, a, f, fun D' hD => ?_⟩
    obtain ⟨c', e⟩ := b (ud D' 281 0 0) (fun k => by rw [← hD]; rfl)
    refine ⟨cmR (ud D' 281 0 0) (nI (alw Y L 0)) (nI t) c', ?_, frC_cm⟩
    unfold f_X12_many
    rw [lt_d, e, bI_d, if_pos (by decide), cmR_20]
/-- the bits of a share, as pure functions -/
def pC40 (x1 : UInt32) (x2 : Int32) : Option Int32 := gd (nanB (FP.fsub x1 (FP.fconst1))) (gd (nanB (FP.fmul (FP.fsub x1 (FP.fconst1)) 1258291200)) (some ((x2 <<< (23 &&& 31)) ||| (FP.f2i (FP.fmul (FP.fsub x1 (FP.fconst1)) 1258291200)))))
def pC15 : Nat → UInt32 → Int32 → Int32 → Option Int32
  | 0, _, _, _ => none
  | n + 1, x1, x2, x3 => if 30 ≤ x3 then pC40 x1 x2 else if 0 ≤ (Op.cmpValue (FP.fcmp x1 (FP.fconst1)) .g) then pC40 x1 x2 else gd (nanB (FP.fmul x1 (FP.fconst2))) (pC15 n (FP.fmul x1 (FP.fconst2)) (x2 + (-1)) (x3 + 1))
def pC (n : Nat) (x0 : UInt32) : Option Int32 := if 0 < (Op.cmpValue (FP.fcmp x0 (FP.fconst0)) .l) then pC15 n x0 127 0 else some 0
theorem pC40_ok {x1 : UInt32} {x2 v : Int32} {D : Dm} (h : pC40 x1 x2 = some v) : f_X11_bitsOf_40 x1 x2 D = some (v, D) := by
  unfold pC40 at h
  obtain ⟨a, h⟩ := gd_some h
  obtain ⟨b, h⟩ := gd_some h
  cases h
  unfold f_X11_bitsOf_40
  rw [gd_t a, gd_t b]
theorem pC15_ok {D : Dm} {v : Int32} : ∀ {n m : Nat} {x1 : UInt32} {x2 x3 : Int32}, pC15 n x1 x2 x3 = some v → f_X11_bitsOf_15 (n + m) x1 x2 x3 D = some (v, D)
  | 0, m, x1, x2, x3, h => by cases h
  | n + 1, m, x1, x2, x3, h => by
    rw [show n + 1 + m = (n + m) + 1 by omega]
    show f_X11_bitsOf_15_b _ _ _ _ _ = _
    unfold f_X11_bitsOf_15_b
    unfold pC15 at h
    by_cases c : 30 ≤ x3
    · rw [if_pos c] at h ⊢
      exact pC40_ok h
    · rw [if_neg c] at h ⊢
      by_cases d : 0 ≤ (Op.cmpValue (FP.fcmp x1 (FP.fconst1)) .g)
      · rw [if_pos d] at h ⊢
        exact pC40_ok h
      · rw [if_neg d] at h ⊢
        obtain ⟨a, h⟩ := gd_some h
        rw [gd_t a, lt_d, lt_d, lt_d]
        exact pC15_ok h
theorem pC_ok {D : Dm} {v : Int32} {n : Nat} {x : UInt32} (hn : n ≤ 1000) (h : pC n x = some v) : f_X11_bitsOf x D = some (v, D) := by
  unfold pC at h
  unfold f_X11_bitsOf
  by_cases c : 0 < (Op.cmpValue (FP.fcmp x (FP.fconst0)) .l)
  · rw [if_pos c] at h ⊢
    obtain ⟨q, hq⟩ := FUs n (by omega)
    rw [hq, show n + 1 + q = n + (1 + q) by omega]
    exact pC15_ok h
  · rw [if_neg c] at h ⊢
    cases h
    rfl
def pR81 (x2 : Int32) (x5 : Int64) : Int32 := Int64.toInt32 ((((127 - (Int32.toInt64 x2)) - 1) <<< ((23).toInt64 &&& 63)) + x5)
