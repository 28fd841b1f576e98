/-! ===== THE MATH: what the functions do ===== -/
theorem ud_at {D : Dm} {i k j n : Nat} {v : Int32} : ud D i k v j n = if j = i ∧ n = k then v else D j n := by
  unfold ud
  by_cases h : j = i
  · subst h
    by_cases h2 : n = k
    · simp [h2, upd]
    · simp [h2, upd]
  · simp [h]
theorem ud_id {D : Dm} {i k : Nat} : ud D i k (D i k) = D := by
  funext j n
  rw [ud_at]
  split
  · rename_i h; rw [h.1, h.2]
  · rfl
theorem ud_ud {D : Dm} {i k : Nat} {v w : Int32} : ud (ud D i k v) i k w = ud D i k w := by
  funext j n
  simp only [ud_at]
  split <;> rfl
theorem ud_comm {D : Dm} {i k j n : Nat} {v w : Int32} (h : i ≠ j ∨ k ≠ n) : ud (ud D i k v) j n w = ud (ud D j n w) i k v := by
  funext a b
  simp only [ud_at]
  by_cases h1 : a = j ∧ b = n
  · by_cases h2 : a = i ∧ b = k
    · exfalso
      rcases h with h | h
      · exact h (h2.1.symm.trans h1.1)
      · exact h (h2.2.symm.trans h1.2)
    · rw [if_pos h1, if_neg h2, if_pos h1]
  · by_cases h2 : a = i ∧ b = k
    · rw [if_neg h1, if_pos h2, if_pos h2]
    · rw [if_neg h1, if_neg h2, if_neg h2, if_neg h1]
theorem gd_t {α : Type} {c : Bool} {x : Option α} (h : c = true) : gd c x = x := by rw [h]; rfl
theorem lt_d {α β : Type} (x : α) (f : α → β) : lt x f = f x := rfl
theorem bI_d {α : Type} {r : Int32} {D : Dm} {f : Int32 → Dm → Option α} : bI (some (r, D)) f = f r D := rfl
theorem bV_d {α : Type} {D : Dm} {f : Dm → Option α} : bV (some D) f = f D := rfl
/-- where something that goes by letters is: its state, what its two registers hold -/
abbrev Cf : Type := Int32 × Int32 × Int32
def setGo (D : Dm) (g : Nat) (c : Cf) : Dm := ud (ud (ud D g 0 c.1) (g + 1) 0 c.2.1) (g + 1) 1 c.2.2
def getGo (D : Dm) (g : Nat) : Cf := (D g 0, D (g + 1) 0, D (g + 1) 1)
theorem setGo_at {D : Dm} {g j n : Nat} {c : Cf} : setGo D g c j n = if j = g ∧ n = 0 then c.1 else if j = g + 1 ∧ n = 0 then c.2.1 else if j = g + 1 ∧ n = 1 then c.2.2 else D j n := by
  unfold setGo
  simp only [ud_at]
  by_cases h1 : j = g
  · subst h1
    simp
  · by_cases h2 : j = g + 1
    · subst h2
      by_cases h3 : n = 0
      · simp [h3]
      · simp [h3]
    · simp [h1, h2]
theorem getGo_set {D : Dm} {g : Nat} {c : Cf} : getGo (setGo D g c) g = c := by
  unfold getGo
  simp [setGo_at]
theorem setGo_set {D : Dm} {g : Nat} {c d : Cf} : setGo (setGo D g c) g d = setGo D g d := by
  funext j n
  simp only [setGo_at]
  split
  · rfl
  · split
    · rfl
    · split <;> rfl
theorem setGo_get {D : Dm} {g : Nat} : setGo D g (getGo D g) = D := by
  funext j n
  simp only [setGo_at, getGo]
  split
  · rename_i h; rw [h.1, h.2]
  · split
    · rename_i h; rw [h.1, h.2]
    · split
      · rename_i h; rw [h.1, h.2]
      · rfl
/-- one letter: of the registers that hold its name the first by which a move is told, else the new one -/
def mbase (s y : Int32) : Nat := ((s * 2 + y) * 3).toNatClampNeg
def mslot (to : Nat → Int32) (c : Cf) (y nm : Int32) : Nat :=
  if c.2.1 = nm ∧ to (mbase c.1 y) ≠ -1 then mbase c.1 y else if c.2.2 = nm ∧ to (mbase c.1 y + 1) ≠ -1 then mbase c.1 y + 1 else mbase c.1 y + 2
def mgo (to keep drop : Nat → Int32) (c : Cf) (k : Nat) (nm : Int32) : Cf :=
  if to k = -1 then (-1, -1, -1) else (to k, if drop k = 0 then -1 else if keep k = 0 then nm else c.2.1, if drop k = 1 then -1 else if keep k = 1 then nm else c.2.2)
def mst (to keep drop : Nat → Int32) (c : Cf) (y nm : Int32) : Cf := if c.1 = -1 then c else mgo to keep drop c (mslot to c y nm) nm
/-- a machine is well made -/
abbrev isSt (s : Int32) : Prop := s = 0 ∨ s = 1 ∨ s = 2 ∨ s = 3 ∨ s = 4
abbrev isSy (y : Int32) : Prop := y = 0 ∨ y = 1
abbrev isRg (v : Int32) : Prop := v = -1 ∨ v = 0 ∨ v = 1
def wfM (nS nR nY acc : Int32) (to keep drop : Nat → Int32) : Prop :=
  (1 ≤ nS.toInt ∧ nS.toInt ≤ 5) ∧ (0 ≤ nR.toInt ∧ nR.toInt ≤ 2) ∧ (1 ≤ nY.toInt ∧ nY.toInt ≤ 2) ∧ (0 ≤ acc.toInt ∧ acc.toInt < 32) ∧
  ∀ k, k < 30 → (to k = -1 ∨ (0 ≤ (to k).toInt ∧ (to k).toInt < nS.toInt)) ∧ (keep k = -1 ∨ (0 ≤ (keep k).toInt ∧ (keep k).toInt < nR.toInt)) ∧ (drop k = -1 ∨ (0 ≤ (drop k).toInt ∧ (drop k).toInt < nR.toInt)) ∧
    (to k = -1 → keep k = -1 ∧ drop k = -1) ∧ (k % 3 < 2 → nR.toInt ≤ (k % 3 : Nat) → to k = -1) ∧ (nY.toInt ≤ (k / 3 % 2 : Nat) → to k = -1) ∧ (nS.toInt ≤ (k / 6 : Nat) → to k = -1)
theorem i32_of {x : Int32} {k : Int} (h : x.toInt = k) : x = Int32.ofInt k := by rw [← h, Int32.ofInt_toInt]
theorem isSt_of {x : Int32} (h1 : 0 ≤ x.toInt) (h2 : x.toInt < 5) : isSt x := by
  have h : x.toInt = 0 ∨ x.toInt = 1 ∨ x.toInt = 2 ∨ x.toInt = 3 ∨ x.toInt = 4 := by omega
  rcases h with h | h | h | h | h <;> rw [i32_of h] <;> decide
theorem isRg_of {x : Int32} (h : x = -1 ∨ (0 ≤ x.toInt ∧ x.toInt < 2)) : isRg x := by
  rcases h with h | h
  · exact Or.inl h
  · have h : x.toInt = 0 ∨ x.toInt = 1 := by omega
    rcases h with h | h <;> rw [i32_of h] <;> decide
theorem mb_lt {s y : Int32} (hs : isSt s) (hy : isSy y) : mbase s y + 2 < 30 := by
  rcases hs with rfl | rfl | rfl | rfl | rfl <;> rcases hy with rfl | rfl <;> decide
theorem mb_in {s y g : Int32} {k : Nat} (hs : isSt s) (hy : isSy y) (hg : (g = 0 ∧ k = 0) ∨ (g = 1 ∧ k = 1) ∨ (g = 2 ∧ k = 2)) : inB (((s * 2) + y) * 3 + g) 30 = true ∧ ((((s * 2) + y) * 3) + g).toNatClampNeg = mbase s y + k := by
  rcases hs with rfl | rfl | rfl | rfl | rfl <;> rcases hy with rfl | rfl <;> rcases hg with ⟨rfl, rfl⟩ | ⟨rfl, rfl⟩ | ⟨rfl, rfl⟩ <;> decide
