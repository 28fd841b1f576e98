theorem setGo_ne {D : Dm} {g j : Nat} {c : Cf} (h1 : j ≠ g) (h2 : j ≠ g + 1) : setGo D g c j = D j := by
  funext n
  rw [setGo_at, if_neg (fun q => h1 q.1), if_neg (fun q => h2 q.1), if_neg (fun q => h2 q.1)]
theorem setR_ne {D : Dm} {j : Nat} {c : Cf} (h1 : j ≠ 281) : setR D c j = D j := by
  funext n
  rw [setR_at, if_neg (fun q => h1 q.1), if_neg (fun q => h1 q.1), if_neg (fun q => h1 q.1)]
abbrev Tb : Type := (Nat → Int32) × (Nat → Int32) × (Nat → Int32)
abbrev Lt : Type := Int32 × Int32
def step (T : Tb) (c : Cf) (a : Lt) : Cf := mst T.1 T.2.1 T.2.2 c a.1 a.2
def run (T : Tb) (c : Cf) (w : List Lt) : Cf := w.foldl (step T) c
theorem run_nil {T : Tb} {c : Cf} : run T c [] = c := rfl
theorem run_cons {T : Tb} {c : Cf} {a : Lt} {w : List Lt} : run T c (a :: w) = run T (step T c a) w := rfl
theorem run_app {T : Tb} {c : Cf} {v w : List Lt} : run T c (v ++ w) = run T (run T c v) w := List.foldl_append
/-- letters n .. of two rows of numbers -/
def lts (f g : Nat → Int32) (i n : Nat) : List Lt := (List.range' i n).map (fun k => (f k, g k))
theorem lts_zero {f g : Nat → Int32} {i : Nat} : lts f g i 0 = [] := rfl
theorem lts_succ {f g : Nat → Int32} {i n : Nat} : lts f g i (n + 1) = (f i, g i) :: lts f g (i + 1) n := rfl
theorem lts_snoc {f g : Nat → Int32} {n : Nat} : lts f g 0 (n + 1) = lts f g 0 n ++ [(f n, g n)] := by
  simp [lts, List.range'_concat]
theorem lts_len {f g : Nat → Int32} {i n : Nat} : (lts f g i n).length = n := by simp [lts]
theorem lts_congr {f g f' g' : Nat → Int32} {i n : Nat} (h : ∀ k, i ≤ k → k < i + n → f k = f' k ∧ g k = g' k) : lts f g i n = lts f' g' i n := by
  unfold lts
  apply List.map_congr_left
  intro k hk
  rw [List.mem_range'_1] at hk
  rw [(h k hk.1 hk.2).1, (h k hk.1 hk.2).2]
def okSt (s : Int32) : Prop := s = -1 ∨ isSt s
theorem mst_ok {to keep drop : Nat → Int32} {c : Cf} {y nm : Int32} (hT : ∀ k, k < 30 → to k = -1 ∨ isSt (to k)) (hc : okSt c.1) (hy : isSy y) : okSt (mst to keep drop c y nm).1 := by
  unfold mst
  split
  · exact hc
  · rename_i h
    have hs : isSt c.1 := hc.resolve_left h
    have hb := mb_lt hs hy
    unfold mgo
    split
    · exact Or.inl rfl
    · rename_i h2
      have hk : mslot to c y nm < 30 := by
        unfold mslot
        split
        · omega
        · split <;> omega
      exact hT _ hk
theorem mst_congr {to keep drop to' keep' drop' : Nat → Int32} {c : Cf} {y nm : Int32} (h : ∀ k, k < 30 → to k = to' k ∧ keep k = keep' k ∧ drop k = drop' k) (hc : okSt c.1) (hy : isSy y) : mst to keep drop c y nm = mst to' keep' drop' c y nm := by
  unfold mst
  by_cases hl : c.1 = -1
  · rw [if_pos hl, if_pos hl]
  · rw [if_neg hl, if_neg hl]
    have hs : isSt c.1 := hc.resolve_left hl
    have hb := mb_lt hs hy
    have e : mslot to c y nm = mslot to' c y nm := by
      unfold mslot
      rw [(h (mbase c.1 y) (by omega)).1, (h (mbase c.1 y + 1) (by omega)).1]
    have hk : mslot to' c y nm < 30 := by
      unfold mslot
      split
      · omega
      · split <;> omega
    rw [e]
    unfold mgo
    obtain ⟨h1, h2, h3⟩ := h _ hk
    rw [h1, h2, h3]
def wfT (T : Tb) : Prop := ∀ k, k < 30 → (T.1 k = -1 ∨ isSt (T.1 k)) ∧ isRg (T.2.1 k) ∧ isRg (T.2.2 k)
theorem wfM.tb {nS nR nY acc : Int32} {to keep drop : Nat → Int32} (h : wfM nS nR nY acc to keep drop) : wfT (to, keep, drop) := by
  obtain ⟨h1, h2, -, -, hT⟩ := h
  intro k hk
  obtain ⟨a, b, c, -⟩ := hT k hk
  exact ⟨a.imp id (fun q => isSt_of q.1 (show (to k).toInt < 5 by omega)), isRg_of (b.imp id (fun q => ⟨q.1, show (keep k).toInt < 2 by omega⟩)), isRg_of (c.imp id (fun q => ⟨q.1, show (drop k).toInt < 2 by omega⟩))⟩
theorem run_ok {T : Tb} (hT : wfT T) : ∀ {w : List Lt} {c : Cf}, okSt c.1 → (∀ a ∈ w, isSy a.1) → okSt (run T c w).1
  | [], _, hc, _ => hc
  | a :: w, c, hc, hw => run_ok hT (w := w) (mst_ok (fun k hk => (hT k hk).1) hc (hw a List.mem_cons_self)) (fun b hb => hw b (List.mem_cons_of_mem _ hb))
theorem run_congr {T T' : Tb} (hT : wfT T) (h : ∀ k, k < 30 → T.1 k = T'.1 k ∧ T.2.1 k = T'.2.1 k ∧ T.2.2 k = T'.2.2 k) : ∀ {w : List Lt} {c : Cf}, okSt c.1 → (∀ a ∈ w, isSy a.1) → run T c w = run T' c w
  | [], _, _, _ => rfl
  | a :: w, c, hc, hw => by
    rw [run_cons, run_cons]
    have e : step T c a = step T' c a := mst_congr h hc (hw a List.mem_cons_self)
    rw [← e]
    exact run_congr hT h (mst_ok (fun k hk => (hT k hk).1) hc (hw a List.mem_cons_self)) (fun b hb => hw b (List.mem_cons_of_mem _ hb))
theorem nI_nle2 {a b : Nat} (h : a < b) (hb : b < 2 ^ 31) : ¬ nI b ≤ nI a := nI_ge h hb
theorem inB_nI {k n : Nat} (h : k < n) (hn : n < 2 ^ 31) : inB (nI k) n = true := by
  refine inB_of (k := k) ?_ (nI_clamp (by omega)) h
  exact nI_pos (by omega)
theorem FUs (n : Nat) (h : n < 100000) : ∃ m, FU = n + 1 + m := ⟨FU - (n + 1), by unfold FU; omega⟩
/-- the class's walk is the run -/
theorem walk_loop {D0 : Dm} {r g w : Nat} {x3 : Int32} {n : Nat} (hn : n ≤ 20) (hw : wfM (D0 r 0) (D0 r 1) (D0 r 2) (D0 r 3) (D0 (r + 1)) (D0 (r + 2)) (D0 (r + 3))) (hg : ∀ j, j ≤ 3 → r + j ≠ g ∧ r + j ≠ g + 1 ∧ w + j ≠ g ∧ w + j ≠ g + 1) (hy : ∀ k, k < n → isSy (D0 (w + 1) k)) (hlt : ∀ k, k < n → ¬ x3 ≤ nI k ∧ ¬ D0 w 3 ≤ nI k) (hge : x3 ≤ nI n ∨ D0 w 3 ≤ nI n) :
    ∀ (j i m : Nat) (c : Cf), i + j = n → okSt c.1 → f_X9_walk_m_7 (j + 1 + m) r g w x3 (nI i) (setGo D0 g c) = some (setGo D0 g (run (D0 (r + 1), D0 (r + 2), D0 (r + 3)) c (lts (D0 (w + 1)) (D0 (w + 2)) i j))) := by
  have e0 : ∀ c, setGo D0 g c r = D0 r := fun c => setGo_ne (hg 0 (by omega)).1 (hg 0 (by omega)).2.1
  have e1 : ∀ c, setGo D0 g c (r + 1) = D0 (r + 1) := fun c => setGo_ne (hg 1 (by omega)).1 (hg 1 (by omega)).2.1
  have e2 : ∀ c, setGo D0 g c (r + 2) = D0 (r + 2) := fun c => setGo_ne (hg 2 (by omega)).1 (hg 2 (by omega)).2.1
  have e3 : ∀ c, setGo D0 g c (r + 3) = D0 (r + 3) := fun c => setGo_ne (hg 3 (by omega)).1 (hg 3 (by omega)).2.1
  have w0 : ∀ c, setGo D0 g c w = D0 w := fun c => setGo_ne (hg 0 (by omega)).2.2.1 (hg 0 (by omega)).2.2.2
  have w1 : ∀ c, setGo D0 g c (w + 1) = D0 (w + 1) := fun c => setGo_ne (hg 1 (by omega)).2.2.1 (hg 1 (by omega)).2.2.2
  have w2 : ∀ c, setGo D0 g c (w + 2) = D0 (w + 2) := fun c => setGo_ne (hg 2 (by omega)).2.2.1 (hg 2 (by omega)).2.2.2
  intro j
  induction j with
  | zero =>
    intro i m c hi hc
    have hi : i = n := by omega
    subst hi
    rw [show 0 + 1 + m = m + 1 by omega]
    show f_X9_walk_m_7_b _ _ _ _ _ _ _ = _
    unfold f_X9_walk_m_7_b
    rw [w0, lts_zero, run_nil]
    by_cases hx : x3 ≤ nI i
    · rw [if_pos hx]
    · rw [if_neg hx, if_pos (hge.resolve_left hx)]
  | succ j ih =>
    intro i m c hi hc
    have hin : i < n := by omega
    rw [show j + 1 + 1 + m = (j + 1 + m) + 1 by omega]
    show f_X9_walk_m_7_b _ _ _ _ _ _ _ = _
    unfold f_X9_walk_m_7_b
    rw [w0, if_neg (hlt i hin).1, if_neg (hlt i hin).2, gd_t (inB_nI (by omega) (by omega)), gd_t (inB_nI (by omega) (by omega)), w1, w2, nI_clamp (by omega)]
    rw [adv_ok (by rw [e0, e1, e2, e3]; exact hw) (by rw [show setGo D0 g c g 0 = c.1 by simp [setGo_at]]; exact hc) (hy i hin) (fun q => (hg 3 (by omega)).2.1 q) (fun q => (hg 1 (by omega)).2.1 q), bV_d, lt_d, e1, e2, e3, getGo_set, setGo_set]
    rw [show nI i + 1 = nI (i + 1) from nI_1 i]
    rw [ih (i + 1) m _ (by omega) (mst_ok (fun k hk => (hw.tb k hk).1) hc (hy i hin)), lts_succ, run_cons]
    rfl
theorem walk_ok {D : Dm} {r g w a b : Nat} (ha : a ≤ 20) (hb : b ≤ 20) (hlen : D w 3 = nI b) (hw : wfM (D r 0) (D r 1) (D r 2) (D r 3) (D (r + 1)) (D (r + 2)) (D (r + 3))) (hg : ∀ j, j ≤ 3 → r + j ≠ g ∧ r + j ≠ g + 1 ∧ w + j ≠ g ∧ w + j ≠ g + 1) (hy : ∀ k, k < min a b → isSy (D (w + 1) k)) :
    f_X9_walk_m r g w (nI a) D = some (setGo D g (run (D (r + 1), D (r + 2), D (r + 3)) (0, -1, -1) (lts (D (w + 1)) (D (w + 2)) 0 (min a b)))) := by
  unfold f_X9_walk_m
  rw [go_start, bV_d]
  obtain ⟨m, hm⟩ := FUs (min a b) (by omega)
  rw [hm, show (0 : Int32) = nI 0 from nI_0.symm]
  have hge : nI a ≤ nI (min a b) ∨ D w 3 ≤ nI (min a b) := by
    rw [hlen]
    rcases Nat.le_total a b with h | h
    · exact Or.inl (nI_le (by omega) (by omega))
    · exact Or.inr (nI_le (by omega) (by omega))
  exact walk_loop (x3 := nI a) (n := min a b) (by omega) hw hg hy (fun k hk => ⟨nI_ge (by omega) (by omega), by rw [hlen]; exact nI_ge (by omega) (by omega)⟩) hge _ 0 m _ (by omega) (Or.inr (Or.inl nI_0))
