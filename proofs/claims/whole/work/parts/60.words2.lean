theorem clear_ok {D : Dm} {w : Nat} : f_X10_clear w D = some (ud (ud D w 3 0) w 4 0) := rfl
theorem clear_isW {D : Dm} {w : Nat} : isW (ud (ud D w 3 0) w 4 0) w 0 := by
  refine ⟨by omega, ?_, ?_, fun k hk => absurd hk (Nat.not_lt_zero k)⟩
  · rw [ud_at, if_neg (by omega), ud_at, if_pos ⟨rfl, rfl⟩, nI_0]
  · rw [ud_at, if_pos ⟨rfl, rfl⟩]
    show _ = nI 0
    rw [nI_0]
/-- what copying leaves: the word w is n letters long, with the given symbols and names, and nothing else changed -/
def cpW (D D' : Dm) (w n : Nat) (s nm : Nat → Int32) : Prop :=
  isW D' w n ∧ (∀ k, k < n → D' (w + 1) k = s k ∧ D' (w + 2) k = nm k) ∧ ∀ j k, (j < w ∨ w + 3 < j) → D' j k = D j k
theorem cpW_add {D D' : Dm} {w n : Nat} {s nm : Nat → Int32} (h : cpW D D' w n s nm) (hn : n < 20) : f_X10_add w (s n) (nm n) D' = some (adD D' w n (s n) (nm n)) ∧ cpW D (adD D' w n (s n) (nm n)) w (n + 1) s nm := by
  obtain ⟨a, b, c⟩ := h
  refine ⟨add_ok a hn, adD_isW a hn, fun k hk => ?_, fun j k hj => ?_⟩
  · rw [adD_s, adD_n]
    by_cases e : k = n
    · rw [if_pos e, if_pos e, e]; exact ⟨rfl, rfl⟩
    · rw [if_neg e, if_neg e]; exact b k (by omega)
  · rw [adD_ne hj]; exact c j k hj
theorem cpW_0 {D : Dm} {w : Nat} {s nm : Nat → Int32} : cpW D (ud (ud D w 3 0) w 4 0) w 0 s nm := by
  refine ⟨clear_isW, fun k hk => absurd hk (Nat.not_lt_zero k), fun j k hj => ?_⟩
  rw [ud_at, if_neg (by omega), ud_at, if_neg (by omega)]
theorem cp_loop {D : Dm} {w v n : Nat} (hv : D v 3 = nI n) (hn : n ≤ 20) (hd : v + 3 < w ∨ w + 3 < v) : ∀ (j i m : Nat) (D' : Dm), i + j = n → cpW D D' w i (D (v + 1)) (D (v + 2)) → ∃ D2, f_X10_copy_6 (j + 1 + m) w v (nI i) D' = some D2 ∧ cpW D D2 w n (D (v + 1)) (D (v + 2)) := by
  intro j
  induction j with
  | zero =>
    intro i m D' hi hc
    have hi : i = n := by omega
    subst hi
    refine ⟨D', ?_, hc⟩
    rw [show 0 + 1 + m = m + 1 by omega]
    show f_X10_copy_6_b _ _ _ _ _ = _
    unfold f_X10_copy_6_b
    rw [hc.2.2 v 3 (by omega), hv, if_pos (by rw [Int32.le_iff_toInt_le]; exact Int.le_refl _)]
  | succ j ih =>
    intro i m D' hi hc
    obtain ⟨a1, a2⟩ := cpW_add hc (by omega)
    obtain ⟨D2, b1, b2⟩ := ih (i + 1) m _ (by omega) a2
    refine ⟨D2, ?_, b2⟩
    rw [show j + 1 + 1 + m = (j + 1 + m) + 1 by omega]
    show f_X10_copy_6_b _ _ _ _ _ = _
    unfold f_X10_copy_6_b
    rw [hc.2.2 v 3 (by omega), hv, if_neg (nI_nle2 (by omega) (by omega)), gd_t (inB_nI (by omega) (by omega)), gd_t (inB_nI (by omega) (by omega)), nI_clamp (by omega), hc.2.2 (v + 1) i (by omega), hc.2.2 (v + 2) i (by omega), a1, bV_d, lt_d, nI_1]
    exact b1
theorem copy_ok {D : Dm} {w v n : Nat} (hv : D v 3 = nI n) (hn : n ≤ 20) (hd : v + 3 < w ∨ w + 3 < v) : ∃ D2, f_X10_copy w v D = some D2 ∧ cpW D D2 w n (D (v + 1)) (D (v + 2)) := by
  obtain ⟨q, hq⟩ := FUs n (by omega)
  obtain ⟨D2, a, b⟩ := cp_loop hv hn hd n 0 q _ (by omega) cpW_0
  rw [nI_0] at a
  refine ⟨D2, ?_, b⟩
  unfold f_X10_copy
  rw [clear_ok, bV_d, hq]
  exact a
theorem cl_loop {D : Dm} {w v n : Nat} (hv : D v 3 = nI n) (hn : n ≤ 20) (hd : v + 3 < w ∨ w + 3 < v) : ∀ (j i m : Nat) (D' : Dm), i + j = n → cpW D D' w i (D (v + 1)) (D (v + 3)) → ∃ D2, f_X10_copyLeast_6 (j + 1 + m) w v (nI i) D' = some D2 ∧ cpW D D2 w n (D (v + 1)) (D (v + 3)) := by
  intro j
  induction j with
  | zero =>
    intro i m D' hi hc
    have hi : i = n := by omega
    subst hi
    refine ⟨D', ?_, hc⟩
    rw [show 0 + 1 + m = m + 1 by omega]
    show f_X10_copyLeast_6_b _ _ _ _ _ = _
    unfold f_X10_copyLeast_6_b
    rw [hc.2.2 v 3 (by omega), hv, if_pos (by rw [Int32.le_iff_toInt_le]; exact Int.le_refl _)]
  | succ j ih =>
    intro i m D' hi hc
    obtain ⟨a1, a2⟩ := cpW_add hc (by omega)
    obtain ⟨D2, b1, b2⟩ := ih (i + 1) m _ (by omega) a2
    refine ⟨D2, ?_, b2⟩
    rw [show j + 1 + 1 + m = (j + 1 + m) + 1 by omega]
    show f_X10_copyLeast_6_b _ _ _ _ _ = _
    unfold f_X10_copyLeast_6_b
    rw [hc.2.2 v 3 (by omega), hv, if_neg (nI_nle2 (by omega) (by omega)), gd_t (inB_nI (by omega) (by omega)), gd_t (inB_nI (by omega) (by omega)), nI_clamp (by omega), hc.2.2 (v + 1) i (by omega), hc.2.2 (v + 3) i (by omega), a1, bV_d, lt_d, nI_1]
    exact b1
theorem copyLeast_ok {D : Dm} {w v n : Nat} (hv : D v 3 = nI n) (hn : n ≤ 20) (hd : v + 3 < w ∨ w + 3 < v) : ∃ D2, f_X10_copyLeast w v D = some D2 ∧ cpW D D2 w n (D (v + 1)) (D (v + 3)) := by
  obtain ⟨q, hq⟩ := FUs n (by omega)
  obtain ⟨D2, a, b⟩ := cl_loop hv hn hd n 0 q _ (by omega) cpW_0
  rw [nI_0] at a
  refine ⟨D2, ?_, b⟩
  unfold f_X10_copyLeast
  rw [clear_ok, bV_d, hq]
  exact a
/-- the flag of the reference's inner loop -/
def nwf (f : Nat → Int32) (nm : Int32) (i : Nat) : Nat := if fi f nm i < i then 0 else 1
theorem nwf_0 {f : Nat → Int32} {nm : Int32} {i : Nat} (h : fi f nm i < i) : nwf f nm i = 0 := if_pos h
theorem nwf_1 {f : Nat → Int32} {nm : Int32} {i : Nat} (h : ¬ fi f nm i < i) : nwf f nm i = 1 := if_neg h
theorem l36 {D : Dm} {self : Int32 → Dm → Option (Int32 × Dm)} {k4 : Int32 → Int32 → Int32 → Dm → Option (Int32 × Dm)} {x1 x2 : Int32} {x : Nat} (hx : x < 12) : ∀ (j i m : Nat), i + j = x → f_X12_leastOf_36 self k4 (j + 1 + m) x1 x2 (nI x) (nI (nwf (D 286) (D 286 x) i)) (nI i) D = k4 x1 (x2 + nI (nwf (D 286) (D 286 x) x)) (nI (x + 1)) D := by
  intro j
  induction j with
  | zero =>
    intro i m hi
    have hi : i = x := by omega
    subst hi
    rw [show 0 + 1 + m = m + 1 by omega]
    show f_X12_leastOf_36_b _ _ _ _ _ _ _ _ _ = _
    unfold f_X12_leastOf_36_b f_X12_leastOf_87
    rw [if_pos (by rw [Int32.le_iff_toInt_le]; exact Int.le_refl _)]
    by_cases c : fi (D 286) (D 286 i) i < i
    · rw [nwf_0 c, nI_0, if_pos rfl, lt_d, lt_d, nI_1]
    · rw [nwf_1 c, if_neg (by decide), lt_d, lt_d, nI_1]
      rfl
  | succ j ih =>
    intro i m hi
    rw [show j + 1 + 1 + m = (j + 1 + m) + 1 by omega]
    show f_X12_leastOf_36_b _ _ _ _ _ _ _ _ _ = _
    have e := ih (i + 1) m (by omega)
    unfold f_X12_leastOf_36_b f_X12_leastOf_67 f_X12_leastOf_68
    rw [if_neg (nI_nle2 (by omega) (by omega)), gd_t (inB_nI (by omega) (by omega)), gd_t (inB_nI (by omega) (by omega)), nI_clamp (by omega), nI_clamp (by omega), lt_d, lt_d, nI_1]
    by_cases c : fi (D 286) (D 286 x) i < i
    · have c2 : fi (D 286) (D 286 x) (i + 1) < i + 1 := by
        unfold fi
        rw [if_pos c]
        omega
      rw [nwf_0 c2, nI_0] at e
      rw [nwf_0 c, nI_0, if_pos rfl]
      exact e
    · rw [nwf_1 c, if_neg (show ¬ nI 1 = 0 by decide)]
      by_cases c3 : D 286 i = D 286 x
      · have c2 : fi (D 286) (D 286 x) (i + 1) < i + 1 := by
          unfold fi
          rw [if_neg c, if_pos c3]
          omega
        rw [nwf_0 c2, nI_0] at e
        rw [if_pos c3]
        exact e
      · have c2 : ¬ fi (D 286) (D 286 x) (i + 1) < i + 1 := by
          unfold fi
          rw [if_neg c, if_neg c3]
          omega
        rw [nwf_1 c2] at e
        rw [if_neg c3]
        exact e
theorem l4 {D : Dm} {self : Int32 → Dm → Option (Int32 × Dm)} {k : Nat} (hk : k < 12) (hs : ∀ i, i < k → (∀ q, q < i → D 286 q ≠ D 286 i) → D 286 i = D 286 k → self (nI i) D = some (nI (dsf (D 286) i), D)) : ∀ (j i m : Nat), i + j = k → (∀ q, q < i → D 286 q ≠ D 286 k) → f_X12_leastOf_4 self (j + 1 + m) (nI k) (nI (dsf (D 286) i)) (nI i) D = some (nI (lsf (D 286) k), D) := by
  intro j
  induction j with
  | zero =>
    intro i m hi hq
    have hi : i = k := by omega
    subst hi
    rw [show 0 + 1 + m = m + 1 by omega]
    show f_X12_leastOf_4_b _ _ _ _ _ _ = _
    unfold f_X12_leastOf_4_b
    rw [if_pos (by rw [Int32.le_iff_toInt_le]; exact Int.le_refl _), lsf_first hq]
  | succ j ih =>
    intro i m hi hq
    rw [show j + 1 + 1 + m = (j + 1 + m) + 1 by omega]
    show f_X12_leastOf_4_b _ _ _ _ _ _ = _
    unfold f_X12_leastOf_4_b
    rw [if_neg (nI_nle2 (by omega) (by omega)), gd_t (inB_nI (by omega) (by omega)), gd_t (inB_nI (by omega) (by omega)), nI_clamp (by omega), nI_clamp (by omega)]
    by_cases c : D 286 i = D 286 k
    · rw [if_pos c, hs i (by omega) (fun q hq2 => by rw [c]; exact hq q hq2) c, bI_d]
      unfold lsf
      rw [fi_uniq (by omega) hq (fun _ => c)]
    · rw [if_neg c]
      obtain ⟨q, hqq⟩ := FUs i (by omega)
      rw [hqq]
      have e := l36 (D := D) (self := self) (k4 := f_X12_leastOf_4 self (j + 1 + m)) (x1 := nI k) (x2 := nI (dsf (D 286) i)) (x := i) (by omega) i 0 q (by omega)
      rw [nwf_1 (Nat.not_lt_zero _), nI_0] at e
      have e2 := ih (i + 1) m (by omega) (fun q hq2 => by
        by_cases e : q = i
        · rw [e]; exact c
        · exact hq q (by omega))
      rw [show (1 : Int32) = nI 1 from rfl, e, nI_add]
      exact e2
theorem rl_first {D : Dm} {k d : Nat} (hk : k < 12) (hf : ∀ q, q < k → D 286 q ≠ D 286 k) : f_X12_leastOf (d + 1) (nI k) D = some (nI (dsf (D 286) k), D) := by
  show f_X12_leastOf_e _ _ _ = _
  unfold f_X12_leastOf_e
  obtain ⟨q, hq⟩ := FUs k (by omega)
  rw [hq]
  have e := l4 (D := D) (self := f_X12_leastOf d) hk (fun i hi _ h => absurd h (hf i hi)) k 0 q (by omega) (fun q hq => absurd hq (Nat.not_lt_zero q))
  rw [lsf_first hf] at e
  rw [show dsf (D 286) 0 = 0 from rfl, nI_0] at e
  exact e
theorem rl_ok {D : Dm} {k : Nat} (hk : k < 12) : f_X12_leastOf RF (nI k) D = some (nI (lsf (D 286) k), D) := by
  show f_X12_leastOf_e (f_X12_leastOf (14 + 1)) _ _ = _
  unfold f_X12_leastOf_e
  obtain ⟨q, hq⟩ := FUs k (by omega)
  rw [hq]
  have e := l4 (D := D) (self := f_X12_leastOf (14 + 1)) hk (fun i hi hf _ => rl_first (by omega) hf) k 0 q (by omega) (fun q hq => absurd hq (Nat.not_lt_zero q))
  rw [show dsf (D 286) 0 = 0 from rfl, nI_0] at e
  exact e
