def setR (D : Dm) (c : Cf) : Dm := ud (ud (ud D 281 3 c.1) 281 4 c.2.1) 281 5 c.2.2
def getR (D : Dm) : Cf := (D 281 3, D 281 4, D 281 5)
theorem setR_at {D : Dm} {j n : Nat} {c : Cf} : setR D c j n = if j = 281 ∧ n = 3 then c.1 else if j = 281 ∧ n = 4 then c.2.1 else if j = 281 ∧ n = 5 then c.2.2 else D j n := by
  unfold setR
  simp only [ud_at]
  by_cases h1 : j = 281
  · subst h1
    by_cases h3 : n = 3
    · simp [h3]
    · by_cases h4 : n = 4
      · simp [h4]
      · by_cases h5 : n = 5 <;> simp [h3, h4, h5]
  · simp [h1]
theorem getR_set {D : Dm} {c : Cf} : getR (setR D c) = c := by
  unfold getR
  simp [setR_at]
theorem setR_set {D : Dm} {c d : Cf} : setR (setR D c) d = setR D d := by
  funext j n
  simp only [setR_at]
  split
  · rfl
  · split
    · rfl
    · split <;> rfl
theorem memR {D D' : Dm} {s a b : Int32} (h1 : D' 281 3 = s) (h2 : D' 281 4 = a) (h3 : D' 281 5 = b) (h4 : ∀ j n, ¬ (j = 281 ∧ n = 3) → ¬ (j = 281 ∧ n = 4) → ¬ (j = 281 ∧ n = 5) → D' j n = D j n) : D' = setR D (s, a, b) := by
  funext j n
  rw [setR_at]
  split
  · rename_i h; rw [h.1, h.2]; exact h1
  · rename_i e1
    split
    · rename_i h; rw [h.1, h.2]; exact h2
    · rename_i e2
      split
      · rename_i h; rw [h.1, h.2]; exact h3
      · rename_i e3; exact h4 j n e1 e2 e3
theorem setR_get {D : Dm} : setR D (getR D) = D := (memR rfl rfl rfl (fun _ _ _ _ _ => rfl)).symm
theorem r_stays {D : Dm} {s a b : Int32} : f_X12_stays s a b D = some (setR D (s, a, b)) := rfl
theorem r_loses {D : Dm} : f_X12_loses D = some (setR D (-1, -1, -1)) := rfl
theorem r_starts {D : Dm} : f_X12_starts D = some (setR D (0, -1, -1)) := rfl
/-- the reference's tables -/
def rTo (D : Dm) (m : Nat) : Nat → Int32 := fun k => D 282 (94 * m + (4 + 3 * k))
def rKe (D : Dm) (m : Nat) : Nat → Int32 := fun k => D 282 (94 * m + (4 + 3 * k) + 1)
def rDr (D : Dm) (m : Nat) : Nat → Int32 := fun k => D 282 (94 * m + (4 + 3 * k) + 2)
abbrev isMc (x : Int32) (m : Nat) : Prop := (x = 0 ∧ m = 0) ∨ (x = 1 ∧ m = 1)
theorem ri_in {x s y g : Int32} {m k : Nat} (hx : isMc x m) (hs : isSt s) (hy : isSy y) (hg : (g = 0 ∧ k = 0) ∨ (g = 1 ∧ k = 1) ∨ (g = 2 ∧ k = 2)) :
    (inB (94 * x + (4 + 3 * (6 * s + 3 * y + g))) 188 = true ∧ (94 * x + (4 + 3 * (6 * s + 3 * y + g))).toNatClampNeg = 94 * m + (4 + 3 * (mbase s y + k))) ∧
    (inB (94 * x + (4 + 3 * (6 * s + 3 * y + g)) + 1) 188 = true ∧ (94 * x + (4 + 3 * (6 * s + 3 * y + g)) + 1).toNatClampNeg = 94 * m + (4 + 3 * (mbase s y + k)) + 1) ∧
    (inB (94 * x + (4 + 3 * (6 * s + 3 * y + g)) + 2) 188 = true ∧ (94 * x + (4 + 3 * (6 * s + 3 * y + g)) + 2).toNatClampNeg = 94 * m + (4 + 3 * (mbase s y + k)) + 2) := by
  rcases hx with ⟨rfl, rfl⟩ | ⟨rfl, rfl⟩ <;> rcases hs with rfl | rfl | rfl | rfl | rfl <;> rcases hy with rfl | rfl <;> rcases hg with ⟨rfl, rfl⟩ | ⟨rfl, rfl⟩ | ⟨rfl, rfl⟩ <;> decide
theorem e10 : ((1 : Int32) = 0) = False := eq_false (by decide)
theorem e01 : ((0 : Int32) = 1) = False := eq_false (by decide)
theorem em0 : ((-1 : Int32) = 0) = False := eq_false (by decide)
theorem em1 : ((-1 : Int32) = 1) = False := eq_false (by decide)
theorem goes_202 {D : Dm} {x : Int32} {q : Nat} (hx : inB x 188 = true) (hq : x.toNatClampNeg = q) : f_X12_goesBy_202 x D = some (ud D 281 3 (D 282 q)) := by
  unfold f_X12_goesBy_202
  rw [gd_t hx, hq, lt_d]
theorem goes_112 {D : Dm} {x s y g nm : Int32} {m k : Nat} (hx : isMc x m) (hs : isSt (D 281 3)) (hy : isSy y) (hg : (g = 0 ∧ k = 0) ∨ (g = 1 ∧ k = 1) ∨ (g = 2 ∧ k = 2)) (hke : isRg (rKe D m (mbase (D 281 3) y + k))) (hdr : isRg (rDr D m (mbase (D 281 3) y + k))) (ht : rTo D m (mbase (D 281 3) y + k) ≠ -1) :
    f_X12_goesBy_112 y nm (94 * x) g D = some (setR D (mgo (rTo D m) (rKe D m) (rDr D m) (getR D) (mbase (D 281 3) y + k) nm)) := by
  obtain ⟨⟨a1, a2⟩, ⟨b1, b2⟩, ⟨c1, c2⟩⟩ := ri_in hx hs hy hg
  have hg1 : ¬ g = -1 := by rcases hg with ⟨rfl, -⟩ | ⟨rfl, -⟩ | ⟨rfl, -⟩ <;> decide
  unfold f_X12_goesBy_112 f_X12_moveAt
  rw [if_neg hg1, bI_d, lt_d, gd_t b1, lt_d, gd_t c1, lt_d, b2, c2]
  unfold mgo
  rw [if_neg ht]
  unfold f_X12_goesBy_170 f_X12_goesBy_181 f_X12_goesBy_191
  simp only [goes_202 a1 a2, lt_d]
  unfold rKe at hke
  unfold rDr at hdr
  unfold rKe rDr rTo
  rcases hke with h | h | h <;> rcases hdr with h' | h' | h' <;> rw [h, h'] <;> simp only [e10, e01, em0, em1, if_true, if_false] <;>
    (refine congrArg some (memR ?_ ?_ ?_ ?_)
     · simp [ud_at]
     · simp [ud_at, getR]
     · simp [ud_at, getR]
     · intro j n e1 e2 e3
       simp [ud_at, e1, e2, e3])
/-- the reference's step is the step -/
theorem goes_ok {D : Dm} {x y nm : Int32} {m : Nat} (hx : isMc x m) (hk : ∀ k, k < 30 → isRg (rKe D m k) ∧ isRg (rDr D m k)) (hs : D 281 3 = -1 ∨ isSt (D 281 3)) (hy : isSy y) :
    f_X12_goesBy x y nm D = some (setR D (mst (rTo D m) (rKe D m) (rDr D m) (getR D) y nm)) := by
  unfold f_X12_goesBy mst
  by_cases hl : D 281 3 = -1
  · rw [if_pos hl, if_pos (show (getR D).1 = -1 from hl), setR_get]
  have hs : isSt (D 281 3) := hs.resolve_left hl
  rw [if_neg hl, if_neg (show ¬ (getR D).1 = -1 from hl), lt_d]
  have hb := mb_lt hs hy
  have J0 := (ri_in (g := 0) (k := 0) hx hs hy (Or.inl ⟨rfl, rfl⟩)).1
  have J1 := (ri_in (g := 1) (k := 1) hx hs hy (Or.inr (Or.inl ⟨rfl, rfl⟩))).1
  have J2 := (ri_in (g := 2) (k := 2) hx hs hy (Or.inr (Or.inr ⟨rfl, rfl⟩))).1
  have T0 : D 282 (94 * m + (4 + 3 * (mbase (D 281 3) y + 0))) = rTo D m (mbase (D 281 3) y) := rfl
  have T1 : D 282 (94 * m + (4 + 3 * (mbase (D 281 3) y + 1))) = rTo D m (mbase (D 281 3) y + 1) := rfl
  have T2 : D 282 (94 * m + (4 + 3 * (mbase (D 281 3) y + 2))) = rTo D m (mbase (D 281 3) y + 2) := rfl
  have E2 : f_X12_goesBy_88 y nm (94 * x) (-1) D = some (setR D (mgo (rTo D m) (rKe D m) (rDr D m) (getR D) (mbase (D 281 3) y + 2) nm)) := by
    unfold f_X12_goesBy_88 f_X12_moveAt
    rw [bI_d, gd_t J2.1, J2.2, T2]
    by_cases c : rTo D m (mbase (D 281 3) y + 2) = -1
    · rw [if_pos c]
      unfold f_X12_goesBy_112 mgo
      rw [if_pos rfl, r_loses, bV_d, if_pos c]
    · rw [if_neg c]
      exact goes_112 (s := 0) hx hs hy (Or.inr (Or.inr ⟨rfl, rfl⟩)) (hk _ (by omega)).1 (hk _ (by omega)).2 c
  have E1 : f_X12_goesBy_53 y nm (94 * x) (-1) D = some (setR D (mgo (rTo D m) (rKe D m) (rDr D m) (getR D) (if D 281 5 = nm ∧ rTo D m (mbase (D 281 3) y + 1) ≠ -1 then mbase (D 281 3) y + 1 else mbase (D 281 3) y + 2) nm)) := by
    unfold f_X12_goesBy_53 f_X12_moveAt
    by_cases c : D 281 5 = nm
    · rw [if_pos c, bI_d, gd_t J1.1, J1.2, T1]
      by_cases d : rTo D m (mbase (D 281 3) y + 1) = -1
      · rw [if_pos d, if_neg (fun q => q.2 d)]
        exact E2
      · rw [if_neg d, if_pos ⟨c, d⟩]
        exact goes_112 (s := 0) hx hs hy (Or.inr (Or.inl ⟨rfl, rfl⟩)) (hk _ (by omega)).1 (hk _ (by omega)).2 d
    · rw [if_neg c, if_neg (fun q => c q.1)]
      exact E2
  unfold mslot
  show _ = some (setR D (mgo _ _ _ _ (if D 281 4 = nm ∧ rTo D m (mbase (D 281 3) y) ≠ -1 then mbase (D 281 3) y else if D 281 5 = nm ∧ rTo D m (mbase (D 281 3) y + 1) ≠ -1 then mbase (D 281 3) y + 1 else mbase (D 281 3) y + 2) nm))
  unfold f_X12_moveAt
  by_cases c : D 281 4 = nm
  · rw [if_pos c, bI_d, gd_t J0.1, J0.2, T0]
    by_cases d : rTo D m (mbase (D 281 3) y) = -1
    · rw [if_pos d, if_neg (fun q => q.2 d)]
      exact E1
    · rw [if_neg d, if_pos ⟨c, d⟩]
      exact goes_112 (s := 0) (k := 0) hx hs hy (Or.inl ⟨rfl, rfl⟩) (hk _ (by omega)).1 (hk _ (by omega)).2 d
  · rw [if_neg c, if_neg (fun q => c q.1)]
    exact E1
