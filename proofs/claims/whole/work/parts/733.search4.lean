/-! ===== how many couples there can be ===== -/
theorem dl_pos {X : Nat → Int32} : ∀ r, r < 4 → X r ≠ -1 → 0 < dl X r := by
  intro r
  induction r using Nat.strongRecOn with
  | _ r ih =>
    intro hr h
    rcases dl_cases (X := X) (r := r) hr with ⟨q, -⟩ | ⟨-, o, ho, eo, -, e⟩ | ⟨-, -, e⟩
    · exact absurd q h
    · rw [e]; exact ih o ho (by omega) (by rw [eo]; exact h)
    · omega
theorem dl_inj {X : Nat → Int32} : ∀ r, r < 4 → ∀ o, o < r → X r ≠ -1 → X o ≠ -1 → dl X o = dl X r → X o = X r := by
  intro r
  induction r using Nat.strongRecOn with
  | _ r ih =>
    intro hr o ho h1 h2 e
    rcases dl_cases (X := X) (r := r) hr with ⟨q, -⟩ | ⟨-, z, hz, ez, -, ed⟩ | ⟨-, -, ed⟩
    · exact absurd q h1
    · rw [← ez]
      by_cases c : o = z
      · rw [c]
      · by_cases c2 : o < z
        · exact ih z hz (by omega) o c2 (by rw [ez]; exact h1) h2 (by omega)
        · exact (ih o ho (by omega) z (by omega) h2 (by rw [ez]; exact h1) (by omega)).symm
    · have := kk_ge (X := X) ho
      omega
theorem dl_grow {X : Nat → Int32} {r : Nat} (hr : r < 4) : dl X r ≤ kk X r + 1 := by
  rcases dl_cases (X := X) (r := r) hr with ⟨-, e⟩ | ⟨-, o, ho, -, -, e⟩ | ⟨-, -, e⟩
  · omega
  · have := kk_ge (X := X) ho; omega
  · omega
def e0 (l : Nat) : Nat := l / 125
def e1 (l : Nat) : Nat := l / 25 % 5
def e2 (l : Nat) : Nat := l / 5 % 5
def e3 (l : Nat) : Nat := l % 5
def rg4 (l : Nat) : Bool := decide (e0 l ≤ 1) && decide (e1 l ≤ e0 l + 1) && decide (e2 l ≤ max (e0 l) (e1 l) + 1) && decide (e3 l ≤ max (max (e0 l) (e1 l)) (e2 l) + 1)
theorem lik_e {X : Nat → Int32} : lik X < 625 ∧ e0 (lik X) = dl X 0 ∧ e1 (lik X) = dl X 1 ∧ e2 (lik X) = dl X 2 ∧ e3 (lik X) = dl X 3 ∧ rg4 (lik X) = true := by
  have h0 := dl_le (X := X) (r := 0) (by omega)
  have h1 := dl_le (X := X) (r := 1) (by omega)
  have h2 := dl_le (X := X) (r := 2) (by omega)
  have h3 := dl_le (X := X) (r := 3) (by omega)
  have g0 := dl_grow (X := X) (r := 0) (by omega)
  have g1 := dl_grow (X := X) (r := 1) (by omega)
  have g2 := dl_grow (X := X) (r := 2) (by omega)
  have g3 := dl_grow (X := X) (r := 3) (by omega)
  have el : lik X = (((0 * 5 + dl X 0) * 5 + dl X 1) * 5 + dl X 2) * 5 + dl X 3 := rfl
  have k0 : kk X 0 = 0 := rfl
  have k1 : kk X 1 = max 0 (dl X 0) := rfl
  have k2 : kk X 2 = max (max 0 (dl X 0)) (dl X 1) := rfl
  have k3 : kk X 3 = max (max (max 0 (dl X 0)) (dl X 1)) (dl X 2) := rfl
  have a0 : e0 (lik X) = dl X 0 := by unfold e0; omega
  have a1 : e1 (lik X) = dl X 1 := by unfold e1; omega
  have a2 : e2 (lik X) = dl X 2 := by unfold e2; omega
  have a3 : e3 (lik X) = dl X 3 := by unfold e3; omega
  refine ⟨by omega, a0, a1, a2, a3, ?_⟩
  unfold rg4
  rw [a0, a1, a2, a3]
  simp only [Bool.and_eq_true, decide_eq_true_eq]
  omega
def VM : List Nat := (List.range 6).flatMap (fun p => (List.range 6).flatMap (fun q => ((List.range 625).filter (fun l => rg4 l && (decide (p ≠ 0) || (decide (e0 l = 0) && decide (e1 l = 0))) && (decide (q ≠ 0) || (decide (e2 l = 0) && decide (e3 l = 0))))).map (fun l => (p * 11 + q) * 625 + l)))
theorem VM_len : VM.length = 1351 := by decide +kernel
/-- a couple of machines -/
def GM (a b : Cf) (n : Nat) : Prop := okSt a.1 ∧ okSt b.1 ∧ okC a n ∧ okC b n ∧ (a.1 = -1 → a.2.1 = -1 ∧ a.2.2 = -1) ∧ (b.1 = -1 → b.2.1 = -1 ∧ b.2.2 = -1)
theorem okSt_st {s : Int32} (h : okSt s) : stOK s 5 := by
  rcases h with h | h | h | h | h | h
  · exact Or.inl h
  · exact Or.inr ⟨0, by omega, h⟩
  · exact Or.inr ⟨1, by omega, h⟩
  · exact Or.inr ⟨2, by omega, h⟩
  · exact Or.inr ⟨3, by omega, h⟩
  · exact Or.inr ⟨4, by omega, h⟩
theorem stN_0 {s : Int32} {n : Nat} (hn : n ≤ 20) (h : stOK s n) : stN s = 0 ↔ s = -1 := by
  rcases h with rfl | ⟨k, hk, rfl⟩
  · exact ⟨fun _ => rfl, fun _ => by decide⟩
  · unfold stN
    rw [nI_1, nI_clamp (by omega)]
    exact ⟨fun q => by omega, fun q => absurd q (nI_n1 (by omega))⟩
theorem GM_in (a b : Cf) (n : Nat) (h : GM a b n) (hn : n ≤ 20) : cod a b ∈ VM := by
  obtain ⟨h1, h2, -, -, h3, h4⟩ := h
  have p1 := stN_ok (by omega) (okSt_st h1)
  have q1 := stN_ok (by omega) (okSt_st h2)
  obtain ⟨l0, a0, a1, a2, a3, ar⟩ := lik_e (X := xs4 a b)
  unfold VM
  rw [List.mem_flatMap]
  refine ⟨stN a.1, List.mem_range.mpr (by omega), ?_⟩
  rw [List.mem_flatMap]
  refine ⟨stN b.1, List.mem_range.mpr (by omega), ?_⟩
  rw [List.mem_map]
  refine ⟨lik (xs4 a b), List.mem_filter.mpr ⟨List.mem_range.mpr l0, ?_⟩, rfl⟩
  rw [ar, a0, a1, a2, a3, Bool.true_and, Bool.and_eq_true, Bool.or_eq_true, Bool.or_eq_true, Bool.and_eq_true, Bool.and_eq_true]
  simp only [decide_eq_true_eq]
  constructor
  · by_cases e : stN a.1 = 0
    · have := h3 ((stN_0 (by omega) (okSt_st h1)).mp e)
      exact Or.inr ⟨dl_n1 0 (by omega) this.1, dl_n1 1 (by omega) this.2⟩
    · exact Or.inl e
  · by_cases e : stN b.1 = 0
    · have := h4 ((stN_0 (by omega) (okSt_st h2)).mp e)
      exact Or.inr ⟨dl_n1 2 (by omega) this.1, dl_n1 3 (by omega) this.2⟩
    · exact Or.inl e
def tyB (t l : Nat) : Bool := if t = 0 then decide (e2 l = 0) && decide (e3 l = 0) else if t = 1 then decide (e2 l ≠ 0) && decide (e3 l = 0) else decide (e2 l ≠ 0) && decide (e3 l ≠ 0) && decide (e2 l ≠ e3 l)
def PH (t : Nat) : List (Nat × Nat) := (List.range 6).flatMap (fun p => ((List.range 625).filter (fun l => rg4 l && (decide (p ≠ 0) || (decide (e0 l = 0) && decide (e1 l = 0))) && tyB t l)).map (fun l => (p, l)))
theorem PH_len : ∀ t, t < 3 → (PH t).length ≤ 86 := by decide +kernel
def VH (κ : Nat → Nat) (m : Nat) : List Nat := (List.range m).flatMap (fun u => (PH (κ u)).map (fun x => (x.1 * 11 + (u + 1)) * 625 + x.2))
theorem VH_len {κ : Nat → Nat} (hk : ∀ u, κ u < 3) : ∀ m, (VH κ m).length ≤ 86 * m
  | 0 => by simp [VH]
  | m + 1 => by
    have h1 := VH_len hk m
    have h2 := PH_len (κ m) (hk m)
    unfold VH at h1 ⊢
    rw [List.range_succ, List.flatMap_append, List.length_append]
    simp only [List.flatMap_cons, List.flatMap_nil, List.append_nil, List.length_map]
    omega
/-- what the registers of a state with t names hold -/
def hreg (t : Nat) (b : Cf) : Prop := if t = 0 then b.2.1 = -1 ∧ b.2.2 = -1 else if t = 1 then b.2.1 ≠ -1 ∧ b.2.2 = -1 else b.2.1 ≠ -1 ∧ b.2.2 ≠ -1 ∧ b.2.1 ≠ b.2.2
/-- a couple of machine and hypothesis -/
def GH (κ : Nat → Nat) (m : Nat) (a b : Cf) (n : Nat) : Prop := okSt a.1 ∧ (∃ u, u < m ∧ b.1 = nI u ∧ hreg (κ u) b) ∧ okC a n ∧ okC b n ∧ (a.1 = -1 → a.2.1 = -1 ∧ a.2.2 = -1)
theorem GH_in {κ : Nat → Nat} {m : Nat} (hm : m ≤ 10) (a b : Cf) (n : Nat) (h : GH κ m a b n) (hn : n ≤ 20) : cod a b ∈ VH κ m := by
  obtain ⟨h1, ⟨u, hu, hb, ht⟩, -, -, h3⟩ := h
  have p1 := stN_ok (by omega) (okSt_st h1)
  have q1 : stN b.1 = u + 1 := by unfold stN; rw [hb, nI_1, nI_clamp (by omega)]
  obtain ⟨l0, a0, a1, a2, a3, ar⟩ := lik_e (X := xs4 a b)
  unfold VH
  rw [List.mem_flatMap]
  refine ⟨u, List.mem_range.mpr hu, ?_⟩
  rw [List.mem_map]
  refine ⟨(stN a.1, lik (xs4 a b)), ?_, by unfold cod; rw [q1]⟩
  unfold PH
  rw [List.mem_flatMap]
  refine ⟨stN a.1, List.mem_range.mpr (by omega), ?_⟩
  rw [List.mem_map]
  refine ⟨lik (xs4 a b), List.mem_filter.mpr ⟨List.mem_range.mpr l0, ?_⟩, rfl⟩
  rw [ar, a0, a1, Bool.true_and, Bool.and_eq_true, Bool.or_eq_true, Bool.and_eq_true]
  simp only [decide_eq_true_eq]
  constructor
  · by_cases e : stN a.1 = 0
    · have := h3 ((stN_0 (by omega) (okSt_st h1)).mp e)
      exact Or.inr ⟨dl_n1 0 (by omega) this.1, dl_n1 1 (by omega) this.2⟩
    · exact Or.inl e
  · have x2 : xs4 a b 2 = b.2.1 := rfl
    have x3 : xs4 a b 3 = b.2.2 := rfl
    unfold hreg at ht
    unfold tyB
    rw [a2, a3]
    by_cases t0 : κ u = 0
    · rw [if_pos t0] at ht ⊢
      rw [dl_n1 2 (by omega) ht.1, dl_n1 3 (by omega) ht.2]; rfl
    · rw [if_neg t0] at ht ⊢
      by_cases t1 : κ u = 1
      · rw [if_pos t1] at ht ⊢
        have := dl_pos (X := xs4 a b) 2 (by omega) ht.1
        rw [dl_n1 3 (by omega) ht.2, Bool.and_eq_true, decide_eq_true_eq]
        exact ⟨by omega, rfl⟩
      · rw [if_neg t1] at ht ⊢
        have d2 := dl_pos (X := xs4 a b) 2 (by omega) ht.1
        have d3 := dl_pos (X := xs4 a b) 3 (by omega) ht.2.1
        rw [Bool.and_eq_true, Bool.and_eq_true]
        simp only [decide_eq_true_eq]
        refine ⟨⟨by omega, by omega⟩, fun e => ht.2.2 ?_⟩
        exact dl_inj (X := xs4 a b) 3 (by omega) 2 (by omega) ht.2.1 ht.1 e
theorem step_okC {T : Tb} {c : Cf} {n k : Nat} {y : Int32} (h : okC c n) : okC (step T c (y, nI k)) (max n (k + 1)) := by
  have := run_in (T := T) (S := fun x => x = -1 ∨ ∃ j, j < max n (k + 1) ∧ x = nI j) (w := [(y, nI k)]) (c := c) (Or.inl rfl) (fun a ha => ?_) ⟨?_, ?_⟩
  · exact this
  · have : a = (y, nI k) := by simpa using ha
    rw [this]; exact Or.inr ⟨k, by omega, rfl⟩
  · exact h.1.imp id (fun ⟨j, hj, e⟩ => ⟨j, by omega, e⟩)
  · exact h.2.imp id (fun ⟨j, hj, e⟩ => ⟨j, by omega, e⟩)
theorem step_lost {T : Tb} {c : Cf} {a : Lt} (h : c.1 = -1 → c.2.1 = -1 ∧ c.2.2 = -1) : (step T c a).1 = -1 → (step T c a).2.1 = -1 ∧ (step T c a).2.2 = -1 := by
  unfold step mst
  split
  · exact h
  · unfold mgo
    split
    · intro _; exact ⟨rfl, rfl⟩
    · rename_i h2
      intro e
      exact absurd e h2
theorem okC_mono {c : Cf} {n m : Nat} (h : okC c n) (hm : n ≤ m) : okC c m := ⟨h.1.imp id (fun ⟨k, hk, e⟩ => ⟨k, by omega, e⟩), h.2.imp id (fun ⟨k, hk, e⟩ => ⟨k, by omega, e⟩)⟩
theorem GM_cl {T T' : Tb} (hT : wfT T) (hT' : wfT T') {Z : Nat} (hZ : Z ≤ 2) : clG GM (step T) (step T') Z := by
  intro a b n h hn y k hy hk
  obtain ⟨h1, h2, h3, h4, h5, h6⟩ := h
  have sy := isSy_n (show y < 2 by omega)
  exact ⟨step_ok hT h1 sy, step_ok hT' h2 sy, step_okC h3, step_okC h4, step_lost h5, step_lost h6⟩
theorem GM_0 : okN GM [nd0] := by
  refine ⟨by simp, by simp [cds], rfl, fun i hi => ?_, fun i h0 hi => by simp at hi; omega⟩
  have : i = 0 := by simp at hi; omega
  subst this
  exact ⟨⟨c0_ok, c0_ok, ⟨Or.inl rfl, Or.inl rfl⟩, ⟨Or.inl rfl, Or.inl rfl⟩, fun q => absurd q (by decide), fun q => absurd q (by decide)⟩, Nat.le_refl _, Nat.zero_le _⟩
