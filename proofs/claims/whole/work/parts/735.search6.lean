/-! ===== the class's search: names, letters, nodes ===== -/
theorem fill_ok {D0 : Dm} {r n : Nat} {v : Int32} (hn : n < 99999) : Y (f_J7_fill_53178 r n v D0) (fun D => Fr (fun j k => j = r) D0 D ∧ ∀ k, k < n → D r k = v) := by
  have loop : ∀ (j i m : Nat) (D : Dm), i + j = n → Fr (fun j k => j = r) D0 D → (∀ k, k < i → D r k = v) → Y (f_J7_fill_53178_5 (j + 1 + m) r n v (nI i) (nI n) D) (fun D => Fr (fun j k => j = r) D0 D ∧ ∀ k, k < n → D r k = v) := by
    intro j
    induction j with
    | zero =>
      intro i m D hi hF hk
      have hi : i = n := by omega
      rw [show 0 + 1 + m = m + 1 by omega]
      show Y (f_J7_fill_53178_5_b _ _ _ _ _ _ _) _
      unfold f_J7_fill_53178_5_b
      rw [hi] at hk ⊢
      exact yPos (nI_le (Nat.le_refl _) (by omega)) (yRet ⟨hF, hk⟩)
    | succ j ih =>
      intro i m D hi hF hk
      rw [show j + 1 + 1 + m = (j + 1 + m) + 1 by omega]
      show Y (f_J7_fill_53178_5_b _ _ _ _ _ _ _) _
      unfold f_J7_fill_53178_5_b
      refine yNeg (nI_nle2 (by omega) (by omega)) (yGd (inB_nI (by omega) (by omega)) ?_)
      rw [lt_d, lt_d, nI_1, nI_clamp (by omega)]
      refine ih (i + 1) m _ (by omega) (Fr.ud (S := fun j k => j = r) hF rfl) (fun k hk2 => ?_)
      rw [ud_at]
      by_cases e : k = i
      · rw [if_pos ⟨rfl, e⟩]
      · rw [if_neg (by omega)]; exact hk k (by omega)
  unfold f_J7_fill_53178
  rw [lt_d]
  obtain ⟨q, hq⟩ := FUs n (by omega)
  have := loop n 0 q D0 (by omega) Fr.refl (fun k hk => absurd hk (Nat.not_lt_zero k))
  rw [nI_0] at this
  rw [hq]
  exact this
/-- the gathered names stand -/
def NMs (D : Dm) (l : List Int32) : Prop := D 25 13 = nI l.length ∧ ∀ i, i < l.length → D 41 i = l.getD i 0
theorem take_mem {l : List Int32} {i : Nat} {x : Int32} (h : i < l.length) : x ∈ l.take (i + 1) ↔ x ∈ l.take i ∨ x = l.getD i 0 := by
  have e : l.take (i + 1) = l.take i ++ [l.getD i 0] := by
    rw [List.take_add_one, List.getD_eq_getElem?_getD, List.getElem?_eq_getElem h]
    rfl
  rw [e, List.mem_append]
  simp
theorem gn_ok {D : Dm} {l : List Int32} {x : Int32} (h : NMs D l) (hl : l.length < 5) : Y (f_X8_gatherName x D) (fun D' => Fr (fun j k => j = 41 ∨ (j = 25 ∧ k = 13)) D D' ∧ NMs D' (dd l x)) := by
  obtain ⟨h13, hi⟩ := id h
  have loop : ∀ (j i m : Nat), i + j = l.length → Y (f_X8_gatherName_13 (j + 1 + m) x (b01 (decide (¬ (x = -1 ∨ x ∈ l.take i)))) (nI i) D) (fun D' => Fr (fun j k => j = 41 ∨ (j = 25 ∧ k = 13)) D D' ∧ NMs D' (dd l x)) := by
    intro j
    induction j with
    | zero =>
      intro i m hij
      have hij : i = l.length := by omega
      rw [show 0 + 1 + m = m + 1 by omega]
      show Y (f_X8_gatherName_13_b _ _ _ _ _) _
      unfold f_X8_gatherName_13_b
      rw [h13, hij, List.take_length, b01_if]
      refine yPos (nI_le (Nat.le_refl _) (by omega)) ?_
      unfold dd
      by_cases c : x = -1 ∨ x ∈ l
      · rw [if_neg (by rw [decide_eq_true_eq]; exact fun q => q c), if_pos c]
        exact yRet ⟨Fr.refl, h⟩
      · rw [if_pos (by rw [decide_eq_true_eq]; exact c), if_neg c]
        refine yNeg (show ¬ nI 5 ≤ nI l.length from nI_nle2 (by omega) (by omega)) (yGd (inB_nI (by omega) (by omega)) ?_)
        rw [lt_d, lt_d, nI_clamp (by omega)]
        refine yRet ⟨(Fr.refl.ud (by omega)).ud (by omega), ?_, fun i hi2 => ?_⟩
        · rw [ud_at, if_pos ⟨rfl, rfl⟩, ud_at, if_neg (by omega), h13, nI_1]; simp
        · rw [ud_at, if_neg (by omega), ud_at]
          simp at hi2
          by_cases e : i = l.length
          · rw [if_pos ⟨rfl, e⟩, e, List.getD_eq_getElem?_getD, List.getElem?_append_right (Nat.le_refl _), Nat.sub_self]; rfl
          · rw [if_neg (by omega), hi i (by omega), List.getD_eq_getElem?_getD, List.getD_eq_getElem?_getD, List.getElem?_append_left (by omega)]
    | succ j ih =>
      intro i m hij
      rw [show j + 1 + 1 + m = (j + 1 + m) + 1 by omega]
      show Y (f_X8_gatherName_13_b _ _ _ _ _) _
      unfold f_X8_gatherName_13_b f_X8_gatherName_39 f_X8_gatherName_40
      have ih := ih (i + 1) m (by omega)
      rw [h13]
      refine yNeg (nI_nle2 (by omega) (by omega)) ?_
      rw [nI_1, b01_if, nI_clamp (by omega), hi i (by omega)]
      simp only [lt_d]
      have tm := take_mem (l := l) (i := i) (x := x) (by omega)
      by_cases c : x = -1 ∨ x ∈ l.take i
      · rw [if_neg (by rw [decide_eq_true_eq]; exact fun q => q c)]
        have c2 : x = -1 ∨ x ∈ l.take (i + 1) := c.imp id (fun q => tm.mpr (Or.inl q))
        rw [decide_eq_false (fun q => q c2)] at ih
        exact ih
      · rw [if_pos (by rw [decide_eq_true_eq]; exact c)]
        refine yGd (inB_nI (by omega) (by omega)) ?_
        by_cases e : l.getD i 0 = x
        · have c2 : x = -1 ∨ x ∈ l.take (i + 1) := Or.inr (tm.mpr (Or.inr e.symm))
          rw [decide_eq_false (fun q => q c2)] at ih
          exact yPos e ih
        · have c2 : ¬ (x = -1 ∨ x ∈ l.take (i + 1)) := fun q => by
            rcases q with q | q
            · exact c (Or.inl q)
            · rcases tm.mp q with q | q
              · exact c (Or.inr q)
              · exact e q.symm
          rw [decide_eq_true c2] at ih
          exact yNeg e ih
  unfold f_X8_gatherName f_X8_gatherName_10
  obtain ⟨q, hq⟩ := FUs l.length (by omega)
  have := loop l.length 0 q (by omega)
  rw [nI_0] at this
  rw [hq]
  by_cases c : x = -1
  · rw [if_pos c]
    rw [decide_eq_false (by simp [c])] at this
    exact this
  · rw [if_neg c]
    rw [decide_eq_true (by simp [c])] at this
    exact this
theorem nmI_len {n : Nd} : ∀ i, (nmI n i).length ≤ i
  | 0 => Nat.le_refl _
  | i + 1 => by
    have := nmI_len (n := n) i
    unfold nmI dd
    split
    · omega
    · simp; omega
theorem gns_ok {D : Dm} {n : Nd} (ha : getGo D 32 = n.1.1) (hb : getGo D 34 = n.1.2) : Y (f_X8_gatherNames (nI (nU n)) D) (fun D' => Fr (fun j k => j = 41 ∨ (j = 25 ∧ k = 13)) D D' ∧ NMs D' (nmI n 5)) := by
  have ax : D 33 0 = n.1.1.2.1 ∧ D 33 1 = n.1.1.2.2 := by rw [← ha]; exact ⟨rfl, rfl⟩
  have bx : D 35 0 = n.1.2.2.1 ∧ D 35 1 = n.1.2.2.2 := by rw [← hb]; exact ⟨rfl, rfl⟩
  unfold f_X8_gatherNames
  refine yLt (fun D0 hD0 => ?_)
  have hF0 : Fr (fun j k => j = 41 ∨ (j = 25 ∧ k = 13)) D D0 := by rw [hD0]; exact Fr.refl.ud (by omega)
  have n0 : NMs D0 (nmI n 0) := ⟨by rw [hD0, ud_at, if_pos ⟨rfl, rfl⟩]; rfl, fun i hi => absurd hi (Nat.not_lt_zero i)⟩
  have l0 := nmI_len (n := n) 0
  have l1 := nmI_len (n := n) 1
  have l2 := nmI_len (n := n) 2
  have l3 := nmI_len (n := n) 3
  have l4 := nmI_len (n := n) 4
  rw [hF0 33 0 (by omega), ax.1]
  refine yBV (gn_ok n0 (by omega)) (fun D1 h1 => ?_)
  have hF1 := hF0.tr h1.1
  rw [hF1 33 1 (by omega), ax.2]
  refine yBV (gn_ok (l := nmI n 1) h1.2 (by omega)) (fun D2 h2 => ?_)
  have hF2 := hF1.tr h2.1
  rw [hF2 35 0 (by omega), bx.1]
  refine yBV (gn_ok (l := nmI n 2) h2.2 (by omega)) (fun D3 h3 => ?_)
  have hF3 := hF2.tr h3.1
  rw [hF3 35 1 (by omega), bx.2]
  refine yBV (gn_ok (l := nmI n 3) h3.2 (by omega)) (fun D4 h4 => ?_)
  have hF4 := hF3.tr h4.1
  refine yBV (gn_ok (l := nmI n 4) h4.2 (by omega)) (fun D5 h5 => yRet ⟨hF4.tr h5.1, h5.2⟩)
abbrev SG (j k : Nat) : Prop := 25 ≤ j ∧ j ≤ 42
/-- how far letters have been tried -/
theorem goL_one {f : List Nd → Lt → List Nd × Bool} {N : List Nd} {xs : List Lt} {x : Lt} (h : (goL f N xs).2 = false) : goL f N (xs ++ [x]) = f (goL f N xs).1 x := by
  rw [goL_app, if_neg (by rw [h]; decide)]
  show (if (f (goL f N xs).1 x).2 = true then f (goL f N xs).1 x else ((f (goL f N xs).1 x).1, false)) = _
  by_cases c : (f (goL f N xs).1 x).2 = true
  · rw [if_pos c]
  · rw [if_neg c]
    have : (f (goL f N xs).1 x).2 = false := by simpa using c
    rw [← this]
theorem goL_hit {f : List Nd → Lt → List Nd × Bool} {N : List Nd} {xs ys : List Lt} (h : (goL f N xs).2 = true) : goL f N (xs ++ ys) = goL f N xs := by
  rw [goL_app, if_pos h]
/-- what stands while letters of node k are tried -/
def IV (G : Cf → Cf → Nat → Prop) (D0 : Dm) (k : Nat) (nd : Nd) (D : Dm) (N : List Nd) : Prop := okN G N ∧ k < N.length ∧ N.getD k nd0 = nd ∧ RC D N ∧ Fr SG D0 D ∧ getGo D 32 = nd.1.1 ∧ getGo D 34 = nd.1.2 ∧ NMs D (nmI nd 5)
