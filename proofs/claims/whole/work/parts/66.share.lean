theorem many_eq {D : Dm} (h0 : RM D 0) (h1 : RM D 1) (x1 x2 : Int32) : ∃ r D1, f_X11_many x1 x2 D = some (r, D1) ∧ frT D D1 269 ∧ ∀ D' : Dm, (∀ k, D' 282 k = D 282 k) → ∃ D2, f_X12_many x1 x2 D' = some (r, D2) ∧ frC D' D2 := by
  rcases cnt_eq h0 h1 x1 x2 with ⟨r, hr, a, b⟩ | ⟨m, L, Y, t, D1, hm, -, hL, hY, -, a, f, ht, b⟩
  · refine ⟨r, D, a, frT_refl, fun D' hD => ⟨_, ?_, frC_0⟩⟩
    unfold f_X12_many
    rw [lt_d, b (ud D' 281 0 0) (fun k => by rw [← hD]; rfl), bI_d, if_neg hr]
  · refine ⟨_, D1, a, f, fun D' hD => ?_⟩
    obtain ⟨c', e⟩ := b (ud D' 281 0 0) (fun k => by rw [← hD]; rfl)
    refine ⟨_, ?_, frC_cm⟩
    · exact nI (alw Y L 0)
    · exact nI t
    · exact c'
    unfold f_X12_many
    rw [lt_d, e, bI_d, if_pos (by decide), cmR_20]
/-- the bits of a share, as pure functions -/
def gO {α : Type} (b : Bool) (x : Option α) : Option α := if b = true then x else none
def pC40 (x1 : UInt32) (x2 : Int32) : Option Int32 := gO (nanB (FP.fsub x1 (FP.fconst1))) (gO (nanB (FP.fmul (FP.fsub x1 (FP.fconst1)) 1258291200)) (some ((x2 <<< (23 &&& 31)) ||| (FP.f2i (FP.fmul (FP.fsub x1 (FP.fconst1)) 1258291200)))))
def pC15 : Nat → UInt32 → Int32 → Int32 → Option Int32
  | 0, _, _, _ => none
  | n + 1, x1, x2, x3 => if 30 ≤ x3 then pC40 x1 x2 else if 0 ≤ (Op.cmpValue (FP.fcmp x1 (FP.fconst1)) .g) then pC40 x1 x2 else gO (nanB (FP.fmul x1 (FP.fconst2))) (pC15 n (FP.fmul x1 (FP.fconst2)) (x2 + (-1)) (x3 + 1))
def pC (n : Nat) (x0 : UInt32) : Option Int32 := if 0 < (Op.cmpValue (FP.fcmp x0 (FP.fconst0)) .l) then pC15 n x0 127 0 else some 0
