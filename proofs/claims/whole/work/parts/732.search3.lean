/-! ===== the search, as lists ===== -/
/-- couple; where from; by what letter; how long; how many names -/
abbrev Nd : Type := (Cf × Cf) × Nat × Lt × Nat × Nat
def nP (n : Nd) : Nat := n.2.1
def nL (n : Nd) : Lt := n.2.2.1
def nN (n : Nd) : Nat := n.2.2.2.1
def nU (n : Nd) : Nat := n.2.2.2.2
def nd0 : Nd := ((c0, c0), 0, (0, 0), 0, 0)
def cds (N : List Nd) : List Nat := N.map (fun n => cod n.1.1 n.1.2)
/-- a name is gathered, once -/
def dd (l : List Int32) (x : Int32) : List Int32 := if x = -1 ∨ x ∈ l then l else l ++ [x]
def nz (n : Nd) (i : Nat) : Int32 := if i < 4 then xs4 n.1.1 n.1.2 i else nI (nU n)
def nmI (n : Nd) : Nat → List Int32
  | 0 => []
  | i + 1 => dd (nmI n i) (nz n i)
/-- one letter is tried -/
def tryN (sA sB : Cf → Lt → Cf) (tA tB : Cf → Bool) (k : Nat) (N : List Nd) (x : Lt) : List Nd × Bool :=
  if (cds N).contains (cod (sA (N.getD k nd0).1.1 x) (sB (N.getD k nd0).1.2 x)) = true then (N, false)
  else (N ++ [((sA (N.getD k nd0).1.1 x, sB (N.getD k nd0).1.2 x), k, x, nN (N.getD k nd0) + 1, max (nU (N.getD k nd0)) (x.2.toNatClampNeg + 1))], tA (sA (N.getD k nd0).1.1 x) != tB (sB (N.getD k nd0).1.2 x))
/-- letters, one behind the other, till one hits -/
def goL (f : List Nd → Lt → List Nd × Bool) : List Nd → List Lt → List Nd × Bool
  | N, [] => (N, false)
  | N, x :: xs => if (f N x).2 = true then f N x else goL f (f N x).1 xs
theorem goL_app {f : List Nd → Lt → List Nd × Bool} : ∀ {xs ys : List Lt} {N : List Nd}, goL f N (xs ++ ys) = if (goL f N xs).2 = true then goL f N xs else goL f (goL f N xs).1 ys
  | [], ys, N => by
    show goL f N ys = if (N, false).2 = true then (N, false) else goL f (N, false).1 ys
    simp
  | x :: xs, ys, N => by
    show (if (f N x).2 = true then f N x else goL f (f N x).1 (xs ++ ys)) = if (if (f N x).2 = true then f N x else goL f (f N x).1 xs).2 = true then (if (f N x).2 = true then f N x else goL f (f N x).1 xs) else goL f (if (f N x).2 = true then f N x else goL f (f N x).1 xs).1 ys
    by_cases h : (f N x).2 = true
    · rw [if_pos h, if_pos h, if_pos h]
    · rw [if_neg h, if_neg h, goL_app]
def ltrs (y : Nat) (l : List Int32) : List Lt := l.map (fun x => (nI y, x))
def allL (n : Nd) : Nat → List Lt
  | 0 => []
  | y + 1 => allL n y ++ ltrs y (nmI n 5)
def bfs (sA sB : Cf → Lt → Cf) (tA tB : Cf → Bool) (Z : Nat) : Nat → Nat → List Nd → List Nd × Bool
  | 0, _, N => (N, false)
  | f + 1, k, N => if k < N.length then (if nN (N.getD k nd0) < 20 then (if (goL (tryN sA sB tA tB k) N (allL (N.getD k nd0) Z)).2 = true then goL (tryN sA sB tA tB k) N (allL (N.getD k nd0) Z) else bfs sA sB tA tB Z f (k + 1) (goL (tryN sA sB tA tB k) N (allL (N.getD k nd0) Z)).1) else bfs sA sB tA tB Z f (k + 1) N) else (N, false)
def srch (sA sB : Cf → Lt → Cf) (tA tB : Cf → Bool) (Z : Nat) : List Nd × Bool := if (tA c0 != tB c0) = true then ([nd0], true) else bfs sA sB tA tB Z 1352 0 [nd0]
/-- a list of couples is well made -/
def okN (G : Cf → Cf → Nat → Prop) (N : List Nd) : Prop :=
  0 < N.length ∧ (cds N).Nodup ∧ nN (N.getD 0 nd0) = 0 ∧ (∀ i, i < N.length → G (N.getD i nd0).1.1 (N.getD i nd0).1.2 (nU (N.getD i nd0)) ∧ nU (N.getD i nd0) ≤ nN (N.getD i nd0) ∧ nN (N.getD i nd0) ≤ 20) ∧
  ∀ i, 0 < i → i < N.length → nP (N.getD i nd0) < i ∧ nN (N.getD i nd0) = nN (N.getD (nP (N.getD i nd0)) nd0) + 1 ∧ ∃ y k, y < 2 ∧ k < 20 ∧ nL (N.getD i nd0) = (nI y, nI k)
theorem getD_app {N : List Nd} {x : Nd} {i : Nat} : (N ++ [x]).getD i nd0 = if i < N.length then N.getD i nd0 else if i = N.length then x else nd0 := by
  rw [List.getD_eq_getElem?_getD, List.getD_eq_getElem?_getD]
  by_cases h : i < N.length
  · rw [if_pos h, List.getElem?_append_left h]
  · rw [if_neg h, List.getElem?_append_right (by omega)]
    by_cases h2 : i = N.length
    · rw [if_pos h2, h2, Nat.sub_self]; rfl
    · rw [if_neg h2, List.getElem?_eq_none (by simp; omega)]; rfl
section
variable {G : Cf → Cf → Nat → Prop} {sA sB : Cf → Lt → Cf} {tA tB : Cf → Bool}
/-- G goes on by letters -/
def clG (G : Cf → Cf → Nat → Prop) (sA sB : Cf → Lt → Cf) (Z : Nat) : Prop := ∀ a b n, G a b n → n ≤ 20 → ∀ y k, y < Z → k ≤ n → G (sA a (nI y, nI k)) (sB b (nI y, nI k)) (max n (k + 1))
theorem try_ok {Z : Nat} (hG : clG G sA sB Z) (hZ : Z ≤ 2) {N : List Nd} (hN : okN G N) {k y m : Nat} (hk : k < N.length) (hl : nN (N.getD k nd0) < 20) (hy : y < Z) (hm : m ≤ nU (N.getD k nd0)) : okN G (tryN sA sB tA tB k N (nI y, nI m)).1 ∧ ∀ i, i < N.length → (tryN sA sB tA tB k N (nI y, nI m)).1.getD i nd0 = N.getD i nd0 := by
  obtain ⟨h1, h2, h3, h4, h5⟩ := id hN
  unfold tryN
  split
  · exact ⟨hN, fun _ _ => rfl⟩
  · rename_i hc
    obtain ⟨g1, g2, g3⟩ := h4 k hk
    have e0 : (nI y, nI m).2.toNatClampNeg = m := nI_clamp (by omega)
    refine ⟨⟨by simp, ?_, ?_, fun i hi => ?_, fun i h0 hi => ?_⟩, fun i hi => by rw [getD_app, if_pos hi]⟩
    · show (List.map _ (N ++ [_])).Nodup
      rw [List.map_append, List.nodup_append]
      refine ⟨h2, by simp, fun x hx z hz => ?_⟩
      have hz : z = cod (sA (N.getD k nd0).1.1 (nI y, nI m)) (sB (N.getD k nd0).1.2 (nI y, nI m)) := by simpa using hz
      intro e
      apply hc
      rw [contains_iff, ← hz, ← e]
      exact hx
    · rw [getD_app, if_pos h1]; exact h3
    · rw [getD_app]
      by_cases q : i < N.length
      · rw [if_pos q]; exact h4 i q
      · simp at hi
        rw [if_neg q, if_pos (by omega)]
        rw [e0]
        refine ⟨hG _ _ _ g1 (by omega) y m hy hm, ?_, ?_⟩
        · show max _ _ ≤ nN (N.getD k nd0) + 1
          omega
        · show nN (N.getD k nd0) + 1 ≤ 20
          omega
    · rw [getD_app]
      by_cases q : i < N.length
      · rw [if_pos q]
        obtain ⟨z1, z2, z3⟩ := h5 i h0 q
        refine ⟨z1, ?_, z3⟩
        rw [getD_app, if_pos (by omega)]
        exact z2
      · simp at hi
        rw [if_neg q, if_pos (by omega)]
        refine ⟨?_, ?_, y, m, by omega, ?_, rfl⟩
        · show k < i; omega
        · show nN (N.getD k nd0) + 1 = nN (List.getD _ k nd0) + 1
          rw [getD_app, if_pos hk]
        · omega
theorem nm_in {n : Nd} (hG : okC n.1.1 (nU n) ∧ okC n.1.2 (nU n)) : ∀ i, i ≤ 5 → ∀ x ∈ nmI n i, ∃ m, m ≤ nU n ∧ x = nI m := by
  intro i
  induction i with
  | zero => intro _ x hx; cases hx
  | succ i ih =>
    intro hi x hx
    have ih := ih (by omega)
    unfold nmI dd at hx
    split at hx
    · exact ih x hx
    · rename_i hc
      rcases List.mem_append.mp hx with q | q
      · exact ih x q
      · have q : x = nz n i := by simpa using q
        have hne : nz n i ≠ -1 := fun e => hc (Or.inl e)
        rw [q]
        unfold nz at hne ⊢
        split
        · rename_i h4
          rw [if_pos h4] at hne
          have key : ∀ z : Int32, (z = -1 ∨ ∃ k, k < nU n ∧ z = nI k) → z ≠ -1 → ∃ m, m ≤ nU n ∧ z = nI m := fun z hz h0 => by
            rcases hz with e | ⟨k, hk, e⟩
            · exact absurd e h0
            · exact ⟨k, by omega, e⟩
          have : i = 0 ∨ i = 1 ∨ i = 2 ∨ i = 3 := by omega
          rcases this with rfl | rfl | rfl | rfl
          · exact key _ hG.1.1 hne
          · exact key _ hG.1.2 hne
          · exact key _ hG.2.1 hne
          · exact key _ hG.2.2 hne
        · exact ⟨nU n, Nat.le_refl _, rfl⟩
theorem goL_ok {Z : Nat} (hG : clG G sA sB Z) (hZ : Z ≤ 2) {k : Nat} : ∀ {xs : List Lt} {N : List Nd}, okN G N → k < N.length → nN (N.getD k nd0) < 20 → (∀ x ∈ xs, ∃ y m, y < Z ∧ m ≤ nU (N.getD k nd0) ∧ x = (nI y, nI m)) → okN G (goL (tryN sA sB tA tB k) N xs).1 ∧ N.length ≤ (goL (tryN sA sB tA tB k) N xs).1.length ∧ ∀ i, i < N.length → (goL (tryN sA sB tA tB k) N xs).1.getD i nd0 = N.getD i nd0
  | [], N, hN, _, _, _ => ⟨hN, Nat.le_refl _, fun _ _ => rfl⟩
  | x :: xs, N, hN, hk, hl, hx => by
    obtain ⟨y, m, hy, hm, rfl⟩ := hx x List.mem_cons_self
    obtain ⟨t1, t2⟩ := try_ok (tA := tA) (tB := tB) hG hZ hN hk hl hy hm
    have t3 : N.length ≤ (tryN sA sB tA tB k N (nI y, nI m)).1.length := by
      unfold tryN
      split
      · exact Nat.le_refl _
      · simp
    unfold goL
    split
    · exact ⟨t1, t3, t2⟩
    · have e := t2 k hk
      obtain ⟨g1, g2, g3⟩ := goL_ok hG hZ (k := k) (xs := xs) t1 (by omega) (by rw [e]; exact hl) (fun x hx' => by rw [e]; exact hx x (List.mem_cons_of_mem _ hx'))
      exact ⟨g1, by omega, fun i hi => by rw [g3 i (by omega), t2 i hi]⟩
end
theorem pigeon : ∀ {L V : List Nat}, L.Nodup → (∀ x ∈ L, x ∈ V) → L.length ≤ V.length
  | [], V, _, _ => Nat.zero_le _
  | x :: L, V, hn, hV => by
    have hx := hV x List.mem_cons_self
    obtain ⟨h1, h2⟩ := List.nodup_cons.mp hn
    have := pigeon (L := L) (V := V.erase x) h2 (fun z hz => (List.mem_erase_of_ne (fun e => h1 (by rw [← e]; exact hz))).mpr (hV z (List.mem_cons_of_mem _ hz)))
    rw [List.length_erase_of_mem hx] at this
    have := List.length_pos_of_mem hx
    simp
    omega
theorem room_of {G : Cf → Cf → Nat → Prop} {V : List Nat} {m : Nat} (hV : V.length ≤ m) (hG : ∀ a b n, G a b n → n ≤ 20 → cod a b ∈ V) {N : List Nd} (hN : okN G N) : N.length ≤ m := by
  obtain ⟨-, h2, -, h4, -⟩ := hN
  have := pigeon (V := V) h2 (fun x hx => ?_)
  · unfold cds at this
    rw [List.length_map] at this
    omega
  · unfold cds at hx
    obtain ⟨n, hn, rfl⟩ := List.mem_map.mp hx
    obtain ⟨i, hi, e⟩ := List.mem_iff_getElem.mp hn
    have eg : N.getD i nd0 = n := by rw [List.getD_eq_getElem?_getD, List.getElem?_eq_getElem hi, e]; rfl
    obtain ⟨g1, g2, g3⟩ := h4 i hi
    rw [eg] at g1 g2 g3
    exact hG _ _ _ g1 (by omega)
