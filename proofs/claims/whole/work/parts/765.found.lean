/-! ===== what is found: words lead from couple to couple ===== -/
section
variable {sA sB : Cf → Lt → Cf} {tA tB : Cf → Bool} {Z : Nat}
def lkd (sA sB : Cf → Lt → Cf) (Z : Nat) (N : List Nd) : Prop := N.getD 0 nd0 = nd0 ∧ 0 < N.length ∧ ∀ i, 0 < i → i < N.length → nP (N.getD i nd0) < i ∧ (N.getD i nd0).1.1 = sA (N.getD (nP (N.getD i nd0)) nd0).1.1 (nL (N.getD i nd0)) ∧ (N.getD i nd0).1.2 = sB (N.getD (nP (N.getD i nd0)) nd0).1.2 (nL (N.getD i nd0)) ∧ ∃ y, y < Z ∧ (nL (N.getD i nd0)).1 = nI y
def hits (tA tB : Cf → Bool) (R : List Nd × Bool) : Prop := R.2 = true → tA (R.1.getD (R.1.length - 1) nd0).1.1 ≠ tB (R.1.getD (R.1.length - 1) nd0).1.2
theorem lkd_try {N : List Nd} (h : lkd sA sB Z N) {k y : Nat} {x : Lt} (hk : k < N.length) (hy : y < Z) (hx : x.1 = nI y) : lkd sA sB Z (tryN sA sB tA tB k N x).1 ∧ hits tA tB (tryN sA sB tA tB k N x) ∧ N.length ≤ (tryN sA sB tA tB k N x).1.length := by
  obtain ⟨h0, h1, h2⟩ := h
  unfold tryN
  split
  · exact ⟨⟨h0, h1, h2⟩, (fun q => by cases q), Nat.le_refl _⟩
  · refine ⟨⟨by rw [getD_app, if_pos h1]; exact h0, by simp, fun i hi0 hi => ?_⟩, ?_, by simp⟩
    · rw [getD_app]
      have hi : i < N.length + 1 := by simpa using hi
      by_cases c : i < N.length
      · rw [if_pos c]
        obtain ⟨g1, g2, g3, g4⟩ := h2 i hi0 c
        rw [getD_app, if_pos (by omega)]
        exact ⟨g1, g2, g3, g4⟩
      · have e : i = N.length := by omega
        rw [if_neg c, if_pos e]
        show k < i ∧ _
        rw [show nP ((sA (N.getD k nd0).1.1 x, sB (N.getD k nd0).1.2 x), k, x, nN (N.getD k nd0) + 1, max (nU (N.getD k nd0)) (x.2.toNatClampNeg + 1)) = k from rfl, getD_app, if_pos hk]
        exact ⟨by omega, rfl, rfl, y, hy, hx⟩
    · intro q
      have e : (N ++ [((sA (N.getD k nd0).1.1 x, sB (N.getD k nd0).1.2 x), k, x, nN (N.getD k nd0) + 1, max (nU (N.getD k nd0)) (x.2.toNatClampNeg + 1))]).length - 1 = N.length := by simp
      dsimp only at q ⊢
      rw [e, getD_app, if_neg (by omega), if_pos rfl]
      exact fun e' => by
        dsimp only at e'
        rw [e'] at q
        simp at q
theorem lkd_goL {k : Nat} : ∀ {xs : List Lt} {N : List Nd}, lkd sA sB Z N → k < N.length → (∀ x ∈ xs, ∃ y, y < Z ∧ x.1 = nI y) → lkd sA sB Z (goL (tryN sA sB tA tB k) N xs).1 ∧ hits tA tB (goL (tryN sA sB tA tB k) N xs) ∧ N.length ≤ (goL (tryN sA sB tA tB k) N xs).1.length
  | [], N, h, _, _ => ⟨h, (fun q => by cases q), Nat.le_refl _⟩
  | x :: xs, N, h, hk, hx => by
    obtain ⟨y, hy, e⟩ := hx x List.mem_cons_self
    obtain ⟨t1, t2, t3⟩ := lkd_try (tA := tA) (tB := tB) h hk hy e
    unfold goL
    split
    · exact ⟨t1, t2, t3⟩
    · obtain ⟨g1, g2, g3⟩ := lkd_goL (xs := xs) t1 (Nat.lt_of_lt_of_le hk t3) (fun x' hx' => hx x' (List.mem_cons_of_mem _ hx'))
      exact ⟨g1, g2, by omega⟩
theorem allL_y {n : Nd} : ∀ {Z : Nat} {x : Lt}, x ∈ allL n Z → ∃ y, y < Z ∧ x.1 = nI y
  | 0, x, h => by cases h
  | Z + 1, x, h => by
    unfold allL at h
    rcases List.mem_append.mp h with q | q
    · obtain ⟨y, hy, e⟩ := allL_y q
      exact ⟨y, by omega, e⟩
    · unfold ltrs at q
      obtain ⟨z, -, e⟩ := List.mem_map.mp q
      exact ⟨Z, by omega, by rw [← e]⟩
theorem lkd_bfs : ∀ {f k : Nat} {N : List Nd}, lkd sA sB Z N → lkd sA sB Z (bfs sA sB tA tB Z f k N).1 ∧ hits tA tB (bfs sA sB tA tB Z f k N)
  | 0, k, N, h => ⟨h, fun q => by cases q⟩
  | f + 1, k, N, h => by
    unfold bfs
    split
    · rename_i hk
      obtain ⟨g1, g2, g3⟩ := lkd_goL (tA := tA) (tB := tB) (k := k) (xs := allL (N.getD k nd0) Z) h hk (fun x hx => allL_y hx)
      split
      · split
        · exact ⟨g1, g2⟩
        · exact lkd_bfs g1
      · exact lkd_bfs h
    · exact ⟨h, fun q => by cases q⟩
theorem lkd_srch : lkd sA sB Z (srch sA sB tA tB Z).1 ∧ hits tA tB (srch sA sB tA tB Z) := by
  have h0 : lkd sA sB Z [nd0] := ⟨rfl, by simp, fun i h0 hi => by simp at hi; omega⟩
  unfold srch
  split
  · rename_i q
    refine ⟨h0, fun _ e => ?_⟩
    have e : tA c0 = tB c0 := e
    rw [e] at q
    simp at q
  · exact lkd_bfs h0
/-- the letters of the word of node i -/
def wdN (N : List Nd) (i : Nat) : List Lt := (List.range (nN (N.getD i nd0))).map (pl N i)
/-- a prefix leads to the ancestor -/
theorem wd_pre {G : Cf → Cf → Nat → Prop} {N : List Nd} (hN : okN G N) (h : lkd sA sB Z N) {i : Nat} (hi : i < N.length) : ∀ p, p ≤ nN (N.getD i nd0) → ((wdN N i).take p).foldl sA c0 = (N.getD (anc N (nN (N.getD i nd0) - p) i) nd0).1.1 ∧ ((wdN N i).take p).foldl sB c0 = (N.getD (anc N (nN (N.getD i nd0) - p) i) nd0).1.2 := by
  intro p
  induction p with
  | zero =>
    intro _
    obtain ⟨h1, h2, -⟩ := anc_ok hN hi (nN (N.getD i nd0)) (Nat.le_refl _)
    have e0 : anc N (nN (N.getD i nd0)) i = 0 := by
      rcases Nat.eq_zero_or_pos (anc N (nN (N.getD i nd0)) i) with e | e
      · exact e
      · have := (hN.2.2.2.2 _ e h1).2.1
        omega
    rw [Nat.sub_zero, e0, h.1]
    exact ⟨rfl, rfl⟩
  | succ p ih =>
    intro hp
    obtain ⟨i1, i2⟩ := ih (by omega)
    have hw : (wdN N i).take (p + 1) = (wdN N i).take p ++ [pl N i p] := by
      have hl : p < (wdN N i).length := by unfold wdN; rw [List.length_map, List.length_range]; omega
      rw [List.take_add_one, List.getElem?_eq_getElem hl]
      congr 1
      unfold wdN
      simp
    have ed : nN (N.getD i nd0) - p = (nN (N.getD i nd0) - (p + 1)) + 1 := by omega
    obtain ⟨a1, a2, a3⟩ := anc_ok hN hi (nN (N.getD i nd0) - (p + 1)) (by omega)
    obtain ⟨g1, g2, g3, -⟩ := h.2.2 _ (a3 (by omega)) a1
    have el : pl N i p = nL (N.getD (anc N (nN (N.getD i nd0) - (p + 1)) i) nd0) := by
      unfold pl
      rw [show nN (N.getD i nd0) - 1 - p = nN (N.getD i nd0) - (p + 1) by omega]
    rw [ed] at i1 i2
    rw [hw, List.foldl_append, List.foldl_append, i1, i2, g2, g3, el]
    exact ⟨rfl, rfl⟩
end
