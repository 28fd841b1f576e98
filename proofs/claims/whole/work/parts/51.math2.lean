theorem mem3 {D D' : Dm} {g : Nat} {s a b : Int32} (h1 : D' g 0 = s) (h2 : D' (g + 1) 0 = a) (h3 : D' (g + 1) 1 = b) (h4 : ∀ j n, ¬ (j = g ∧ n = 0) → ¬ (j = g + 1 ∧ n = 0) → ¬ (j = g + 1 ∧ n = 1) → D' j n = D j n) : D' = setGo D g (s, a, b) := by
  funext j n
  rw [setGo_at]
  split
  · rename_i h; rw [h.1, h.2]; exact h1
  · rename_i e1
    split
    · rename_i h; rw [h.1, h.2]; exact h2
    · rename_i e2
      split
      · rename_i h; rw [h.1, h.2]; exact h3
      · rename_i e3; exact h4 j n e1 e2 e3
theorem go_lose {D : Dm} {g : Nat} : f_X1_lose g D = some (setGo D g (-1, -1, -1)) := rfl
theorem go_start {D : Dm} {g : Nat} : f_X1_start g D = some (setGo D g (0, -1, -1)) := rfl
theorem go_copy {D : Dm} {g i : Nat} (h1 : g ≠ i + 1) (h2 : i ≠ g) : f_X1_copy g i D = some (setGo D g (getGo D i)) := by
  unfold f_X1_copy setGo getGo
  simp only [lt_d]
  have e1 : ud D g 0 (D i 0) (i + 1) 0 = D (i + 1) 0 := by simp [ud_at, Ne.symm h1]
  have e2 : ud (ud D g 0 (D i 0)) (g + 1) 0 (D (i + 1) 0) (i + 1) 1 = D (i + 1) 1 := by
    simp [ud_at, Ne.symm h1]
  rw [e1, e2]
theorem tn0 : (0 : Int32).toNatClampNeg = 0 := rfl
theorem tn1 : (1 : Int32).toNatClampNeg = 1 := rfl
/-- the end of a step, once its slot is found -/
theorem adv_117 {D : Dm} {r g : Nat} {x : Int32} {k : Nat} (hx : inB x 30 = true) (hk : x.toNatClampNeg = k) (hd : isRg (D (r + 3) k)) (h1 : r + 3 ≠ g + 1) (h2 : r + 1 ≠ g + 1) :
    f_X4_advance_117 r g x D = some (setGo D g (D (r + 1) k, if D (r + 3) k = 0 then -1 else D (g + 1) 0, if D (r + 3) k = 1 then -1 else D (g + 1) 1)) := by
  have h2' : ¬ r = g := by omega
  unfold f_X4_advance_117 f_X4_advance_141
  rw [gd_t hx, hk]
  rcases hd with h | h | h
  · rw [h, if_pos rfl, gd_t hx, lt_d]
    refine congrArg some (mem3 ?_ ?_ ?_ ?_)
    · simp [ud_at]
    · simp [ud_at]
    · simp [ud_at]
    · intro j n a b c; rw [ud_at, if_neg a]
  · rw [h, if_neg (by decide), gd_t hx, gd_t (by decide), lt_d, gd_t hx, lt_d, tn0]
    refine congrArg some (mem3 ?_ ?_ ?_ ?_)
    · simp [ud_at, h2']
    · simp [ud_at]
    · simp [ud_at]
    · intro j n a b c; simp only [ud_at]; rw [if_neg a, if_neg b]
  · rw [h, if_neg (by decide), gd_t hx, gd_t (by decide), lt_d, gd_t hx, lt_d, tn1]
    refine congrArg some (mem3 ?_ ?_ ?_ ?_)
    · simp [ud_at, h2']
    · simp [ud_at]
    · simp [ud_at]
    · intro j n a b c; simp only [ud_at]; rw [if_neg a, if_neg c]
def advE (r g : Nat) (nm x : Int32) (D : Dm) : Option Dm := gd (inB x 30) (if (D (r + 1) (Int32.toNatClampNeg x)) = (-1) then (bV (f_X1_lose g D) fun D10 => some D10) else (gd (inB x 30) (if (D (r + 2) (Int32.toNatClampNeg x)) = (-1) then (f_X4_advance_117 r g x D) else (gd (inB x 30) (gd (inB (D (r + 2) (Int32.toNatClampNeg x)) 2) (lt (ud D (g + 1) (Int32.toNatClampNeg (D (r + 2) (Int32.toNatClampNeg x))) nm) fun D8 => f_X4_advance_117 r g x D8))))))
theorem adv_end {D : Dm} {r g : Nat} {x nm : Int32} {k : Nat} (hx : inB x 30 = true) (hk : x.toNatClampNeg = k) (hd : isRg (D (r + 3) k)) (hke : isRg (D (r + 2) k)) (h1 : r + 3 ≠ g + 1) (h2 : r + 1 ≠ g + 1) :
    advE r g nm x D = some (setGo D g (mgo (D (r + 1)) (D (r + 2)) (D (r + 3)) (getGo D g) k nm)) := by
  have h2' : ¬ r = g := by omega
  unfold advE mgo
  rw [gd_t hx, hk]
  by_cases ht : D (r + 1) k = -1
  · rw [if_pos ht, if_pos ht, go_lose, bV_d]
  · rw [if_neg ht, if_neg ht, gd_t hx]
    rcases hke with h | h | h
    · rw [if_pos h, adv_117 hx hk hd h1 h2, h]
      rfl
    · have e3 : ∀ q, ud D (g + 1) 0 nm (r + 3) q = D (r + 3) q := fun q => by simp [ud_at, h1]
      have e1 : ∀ q, ud D (g + 1) 0 nm (r + 1) q = D (r + 1) q := fun q => by simp [ud_at, h2']
      rw [if_neg (by rw [h]; decide), gd_t hx, h, gd_t (by decide), lt_d, tn0, adv_117 hx hk (by rw [e3]; exact hd) h1 h2, e3, e1]
      refine congrArg some (mem3 ?_ ?_ ?_ ?_)
      · simp [setGo_at]
      · simp [setGo_at, ud_at]
      · simp [setGo_at, ud_at, getGo]
      · intro j n a b c; rw [setGo_at, if_neg a, if_neg b, if_neg c, ud_at, if_neg b]
    · have e3 : ∀ q, ud D (g + 1) 1 nm (r + 3) q = D (r + 3) q := fun q => by simp [ud_at, h1]
      have e1 : ∀ q, ud D (g + 1) 1 nm (r + 1) q = D (r + 1) q := fun q => by simp [ud_at, h2']
      rw [if_neg (by rw [h]; decide), gd_t hx, h, gd_t (by decide), lt_d, tn1, adv_117 hx hk (by rw [e3]; exact hd) h1 h2, e3, e1]
      refine congrArg some (mem3 ?_ ?_ ?_ ?_)
      · simp [setGo_at]
      · simp [setGo_at, ud_at, getGo]
      · simp [setGo_at, ud_at]
      · intro j n a b c; rw [setGo_at, if_neg a, if_neg b, if_neg c, ud_at, if_neg c]
theorem FU3 : FU = 99997 + 1 + 1 + 1 := rfl
/-- the class's step is the step -/
theorem adv_ok {D : Dm} {r g : Nat} {y nm : Int32} (hw : wfM (D r 0) (D r 1) (D r 2) (D r 3) (D (r + 1)) (D (r + 2)) (D (r + 3))) (hs : D g 0 = -1 ∨ isSt (D g 0)) (hy : isSy y) (h1 : r + 3 ≠ g + 1) (h2 : r + 1 ≠ g + 1) :
    f_X4_advance r g y nm D = some (setGo D g (mst (D (r + 1)) (D (r + 2)) (D (r + 3)) (getGo D g) y nm)) := by
  obtain ⟨-, hR, -, -, hT⟩ := hw
  unfold f_X4_advance mst
  by_cases hl : D g 0 = -1
  · rw [if_pos hl, if_pos (show (getGo D g).1 = -1 from hl), setGo_get]
  have hs : isSt (D g 0) := hs.resolve_left hl
  rw [if_neg hl, if_neg (show ¬ (getGo D g).1 = -1 from hl)]
  unfold f_X4_slot
  rw [bI_d, lt_d, lt_d]
  have i0 := mb_in (g := 0) (k := 0) hs hy (Or.inl ⟨rfl, rfl⟩)
  have hb := mb_lt hs hy
  have z0 : ∀ a : Int32, a + 0 = a := fun a => Int32.add_zero a
  rw [z0] at i0 ⊢
  have i1 := mb_in (g := 1) (k := 1) hs hy (Or.inr (Or.inl ⟨rfl, rfl⟩))
  have i2 := mb_in (g := 2) (k := 2) hs hy (Or.inr (Or.inr ⟨rfl, rfl⟩))
  have rg : ∀ k, k < 30 → isRg (D (r + 2) k) ∧ isRg (D (r + 3) k) := by
    intro k hk
    obtain ⟨-, a, b, -⟩ := hT k hk
    exact ⟨isRg_of (a.imp id (fun h => ⟨h.1, by omega⟩)), isRg_of (b.imp id (fun h => ⟨h.1, by omega⟩))⟩
  rw [Nat.add_zero] at i0
  generalize hB : (D g 0 * 2 + y) * 3 = B at i0 i1 i2 ⊢
  generalize hm : mbase (D g 0) y = mb at i0 i1 i2 hb
  have hm' : mbase (getGo D g).1 y = mb := hm
  have m3 : mb % 3 = 0 := by
    rw [← hm]
    rcases hs with h | h | h | h | h <;> rcases hy with rfl | rfl <;> rw [h] <;> decide
  have hR3 : (D r 1).toInt = 0 ∨ (D r 1).toInt = 1 ∨ (D r 1).toInt = 2 := by omega
  have E0 := adv_end (D := D) (r := r) (g := g) (nm := nm) i0.1 i0.2 (rg _ (by omega)).2 (rg _ (by omega)).1 h1 h2
  have E1 := adv_end (D := D) (r := r) (g := g) (nm := nm) i1.1 i1.2 (rg _ (by omega)).2 (rg _ (by omega)).1 h1 h2
  have E2 := adv_end (D := D) (r := r) (g := g) (nm := nm) i2.1 i2.2 (rg _ (by omega)).2 (rg _ (by omega)).1 h1 h2
  unfold advE at E0 E1 E2
  have n0 : (D r 1).toInt ≤ 0 → D (r + 1) mb = -1 := fun h => (hT mb (by omega)).2.2.2.2.1 (by omega) (by omega)
  have n1 : (D r 1).toInt ≤ 1 → D (r + 1) (mb + 1) = -1 := fun h => (hT (mb + 1) (by omega)).2.2.2.2.1 (by omega) (by omega)
  unfold mslot
  rw [hm']
  rw [FU3]
  rcases hR3 with hr | hr | hr
  · rw [i32_of hr]
    show f_X4_advance_34_b _ _ _ _ _ _ _ _ = _
    unfold f_X4_advance_34_b
    rw [if_pos (by decide), E2, if_neg (fun q => q.2 (n0 (by omega))), if_neg (fun q => q.2 (n1 (by omega)))]
  · rw [i32_of hr]
    show f_X4_advance_34_b _ _ _ _ _ _ _ _ = _
    unfold f_X4_advance_34_b
    rw [if_neg (by decide), gd_t (by decide), show ((Int32.ofInt 1) - 1) = 0 from by decide, tn0, z0, gd_t i0.1, i0.2]
    unfold f_X4_advance_71
    simp only [lt_d]
    rw [if_neg (fun q => q.2 (n1 (by omega)) : ¬ ((getGo D g).2.2 = nm ∧ D (r + 1) (mb + 1) ≠ -1))]
    have ex : ∀ x5, f_X4_advance_34 (99997 + 1 + 1) r g nm B x5 (0 + -1) D = advE r g nm x5 D := by
      intro x5
      show f_X4_advance_34_b _ _ _ _ _ _ _ _ = _
      unfold f_X4_advance_34_b advE
      rw [if_pos (by decide)]
    rw [ex, ex]
    by_cases c1 : D (g + 1) 0 = nm
    · by_cases c2 : D (r + 1) mb = -1
      · rw [if_pos c1, if_pos c2, if_neg (fun q => q.2 c2)]
        exact E2
      · rw [if_pos c1, if_neg c2, if_pos ⟨c1, c2⟩]
        exact E0
    · rw [if_neg c1, if_neg (fun q => c1 q.1)]
      exact E2
  · rw [i32_of hr]
    show f_X4_advance_34_b _ _ _ _ _ _ _ _ = _
    unfold f_X4_advance_34_b
    rw [if_neg (by decide), gd_t (by decide), show ((Int32.ofInt 2) - 1) = 1 from by decide, tn1, gd_t i1.1, i1.2]
    unfold f_X4_advance_71
    simp only [lt_d]
    have ex : ∀ x5, f_X4_advance_34 (99997 + 1) r g nm B x5 (0 + -1) D = advE r g nm x5 D := by
      intro x5
      show f_X4_advance_34_b _ _ _ _ _ _ _ _ = _
      unfold f_X4_advance_34_b advE
      rw [if_pos (by decide)]
    have ex2 : ∀ x5, f_X4_advance_34 (99997 + 1 + 1) r g nm B x5 (1 + -1) D = if D (g + 1) 0 = nm then (if D (r + 1) mb = -1 then advE r g nm x5 D else advE r g nm B D) else advE r g nm x5 D := by
      intro x5
      show f_X4_advance_34_b _ _ _ _ _ _ _ _ = _
      unfold f_X4_advance_34_b
      rw [if_neg (by decide), gd_t (by decide), show ((1 : Int32) + -1) = 0 from by decide, tn0, z0, gd_t i0.1, i0.2]
      unfold f_X4_advance_71
      simp only [lt_d]
      rw [ex, ex]
    rw [ex2, ex2]
    by_cases c1 : D (g + 1) 0 = nm
    · by_cases c2 : D (r + 1) mb = -1
      · rw [if_neg (fun q => q.2 c2 : ¬ ((getGo D g).2.1 = nm ∧ D (r + 1) mb ≠ -1)), if_pos c1, if_pos c2]
        by_cases d1 : D (g + 1) 1 = nm
        · by_cases d2 : D (r + 1) (mb + 1) = -1
          · rw [if_pos d1, if_pos d2, if_neg (fun q => q.2 d2)]
            exact E2
          · rw [if_pos d1, if_neg d2, if_pos c1, if_pos c2, if_pos ⟨d1, d2⟩]
            exact E1
        · rw [if_neg d1, if_neg (fun q => d1 q.1)]
          exact E2
      · rw [if_pos (⟨c1, c2⟩ : (getGo D g).2.1 = nm ∧ D (r + 1) mb ≠ -1), if_pos c1, if_neg c2, if_pos c1, if_neg c2]
        split
        · split
          · exact E0
          · exact E0
        · exact E0
    · rw [if_neg (fun q => c1 q.1 : ¬ ((getGo D g).2.1 = nm ∧ D (r + 1) mb ≠ -1)), if_neg c1, if_neg c1]
      by_cases d1 : D (g + 1) 1 = nm
      · by_cases d2 : D (r + 1) (mb + 1) = -1
        · rw [if_pos d1, if_pos d2, if_neg (fun q => q.2 d2)]
          exact E2
        · rw [if_pos d1, if_neg d2, if_pos ⟨d1, d2⟩]
          exact E1
      · rw [if_neg d1, if_neg (fun q => d1 q.1)]
        exact E2
