/-- a word of a list: class at w, reference at place t of three rows -/
def RLw (D : Dm) (w r0 r1 r2 t n : Nat) : Prop :=
  isW D w n ∧ n ≤ 6 ∧ D r0 t = nI n ∧ dsf (D (w + 2)) n ≤ 3 ∧ ∀ k, k < n → D r1 (6 * t + k) = D (w + 1) k ∧ D r2 (6 * t + k) = D (w + 2) k ∧ isSy (D (w + 1) k) ∧ D (w + 3) k = D (w + 2) k
/-- the list of the shorts, with a of them, and that of the tests, with b -/
def RLs (D : Dm) (a : Nat) : Prop := 1 ≤ a ∧ a ≤ 10 ∧ D 43 4 = nI a ∧ D 281 27 = nI a ∧ ∀ u, u < a → ∃ n, RLw D (122 + 14 * u) 289 290 291 u n
def RLt (D : Dm) (b : Nat) : Prop := 1 ≤ b ∧ b ≤ 10 ∧ D 76 2 = nI b ∧ D 281 28 = nI b ∧ ∀ u, u < b → ∃ n, RLw D (82 + 4 * u) 292 293 294 u n
theorem ar44 : ∀ u, u < 10 → ar_44 u = 122 + 14 * u := by decide +kernel
theorem ar77 : ∀ u, u < 10 → ar_77 u = 82 + 4 * u := by decide +kernel
theorem brief_eq {D : Dm} {a : Nat} (h : RLs D a) (x1 x2 x3 : Int32) : ∃ r, f_X11_brief x1 x2 x3 D = some (r, D) ∧ f_X12_brief x1 x2 x3 D = some (r, ud D 281 0 0) := by
  obtain ⟨-, ha, h43, h281, hu⟩ := h
  unfold f_X11_brief f_X12_brief f_X3_isShort
  rw [h43, lt_d, show ud D 281 0 0 281 27 = nI a from h281, isInN rfl (by omega), bI_d]
  by_cases c : 0 ≤ x1.toInt ∧ x1.toInt < a
  · obtain ⟨u, hu2, rfl⟩ := clt c (by omega)
    obtain ⟨n, ⟨hn, h3, -⟩, hn6, hr, -, hk⟩ := hu u hu2
    refine ⟨lolv n (D (122 + 14 * u + 1)) (D (122 + 14 * u + 2)) x2 x3, ?_, ?_⟩
    · rw [if_neg (show ¬ nI u < 0 by rw [lt0]; omega), if_neg (nI_nle2 hu2 (by omega)), bI_d, if_neg (by decide : ¬ (1 : Int32) = 0), gd_t (inB_nI (by omega) (by omega)), nI_clamp (by omega), ar44 u (by omega), lol_ok h3 hn, bI_d]
    · rw [if_pos c, if_neg (by decide : ¬ (1 : Int32) = 0), told_ok (n := n) (by omega) (show ud D 281 0 0 289 u = nI n from hr) hn6, bI_d]
      exact congrArg (fun z => some (z, ud D 281 0 0)) (lolv_congr (fun k hk2 => ⟨(hk k hk2).1, (hk k hk2).2.1⟩))
  · refine ⟨-2, ?_, by rw [if_neg c, if_pos (rfl : (0 : Int32) = 0)]⟩
    by_cases d : x1 < 0
    · rw [if_pos d, bI_d, if_pos rfl]
    · rw [if_neg d, if_pos (show nI a ≤ x1 by rw [lt0] at d; rw [Int32.le_iff_toInt_le, nI_toInt (by omega)]; omega), bI_d, if_pos rfl]
theorem test_eq {D : Dm} {b : Nat} (h : RLt D b) (x1 x2 x3 : Int32) : ∃ r, f_X11_test x1 x2 x3 D = some (r, D) ∧ f_X12_test x1 x2 x3 D = some (r, ud D 281 0 0) := by
  obtain ⟨-, ha, h43, h281, hu⟩ := h
  unfold f_X11_test f_X12_test
  rw [h43, lt_d, show ud D 281 0 0 281 28 = nI b from h281, isInN rfl (by omega), bI_d]
  by_cases c : 0 ≤ x1.toInt ∧ x1.toInt < b
  · obtain ⟨u, hu2, rfl⟩ := clt c (by omega)
    obtain ⟨n, ⟨hn, h3, -⟩, hn6, hr, -, hk⟩ := hu u hu2
    refine ⟨lolv n (D (82 + 4 * u + 1)) (D (82 + 4 * u + 2)) x2 x3, ?_, ?_⟩
    · rw [if_neg (show ¬ nI u < 0 by rw [lt0]; omega), if_neg (nI_nle2 hu2 (by omega)), gd_t (inB_nI (by omega) (by omega)), nI_clamp (by omega), ar77 u (by omega), lol_ok h3 hn, bI_d]
    · rw [if_pos c, if_neg (by decide : ¬ (1 : Int32) = 0), told_ok (n := n) (by omega) (show ud D 281 0 0 292 u = nI n from hr) hn6, bI_d]
      exact congrArg (fun z => some (z, ud D 281 0 0)) (lolv_congr (fun k hk2 => ⟨(hk k hk2).1, (hk k hk2).2.1⟩))
  · refine ⟨-2, ?_, by rw [if_neg c, if_pos (rfl : (0 : Int32) = 0)]⟩
    by_cases d : x1 < 0
    · rw [if_pos d]
    · rw [if_neg d, if_pos (show nI b ≤ x1 by rw [lt0] at d; rw [Int32.le_iff_toInt_le, nI_toInt (by omega)]; omega)]
theorem fault_eq {D : Dm} (h1 : D 1 6 = D 281 10) (h2 : D 1 7 = D 281 11) (x1 : Int32) : ∃ r, f_X11_fault x1 D = some (r, D) ∧ f_X12_fault x1 D = some (r, ud D 281 0 0) := by
  unfold f_X11_fault f_X12_fault
  rw [lt_d, h1, h2]
  by_cases c : x1 = 0
  · exact ⟨_, if_pos c, if_pos c⟩
  · rw [if_neg c, if_neg c]
    by_cases d : x1 = 1
    · exact ⟨_, if_pos d, if_pos d⟩
    · exact ⟨_, if_neg d, if_neg d⟩
theorem begin_c {D : Dm} : f_X11_begin D = some (D 43 4 + D 76 2, anD D) := rfl
theorem begin_r {D : Dm} : f_X12_begin D = some (D 281 27 + D 281 28, rsD (ud D 281 0 0)) := by
  unfold f_X12_begin
  rw [lt_d, lt_d, resets_ok, bV_d]
  rfl
/-- a sum of a row -/
def sI (f : Nat → Int32) : Nat → Int32
  | 0 => 0
  | n + 1 => sI f n + f n
theorem sI_congr {f g : Nat → Int32} : ∀ {n : Nat}, (∀ k, k < n → f k = g k) → sI f n = sI g n
  | 0, _ => rfl
  | n + 1, h => by
    unfold sI
    rw [sI_congr (fun k hk => h k (by omega)), h n (by omega)]
theorem los_loop {D : Dm} {a : Nat} (ha : a ≤ 10) : ∀ (j i m : Nat), i + j = a → f_X11_lettersOf_s_4 (j + 1 + m) (nI a) (sI (fun u => D (122 + 14 * u) 3) i) (nI i) D = some (sI (fun u => D (122 + 14 * u) 3) a, D) := by
  intro j
  induction j with
  | zero =>
    intro i m hi
    have hi : i = a := by omega
    subst hi
    rw [show 0 + 1 + m = m + 1 by omega]
    show f_X11_lettersOf_s_4_b _ _ _ _ _ = _
    unfold f_X11_lettersOf_s_4_b
    rw [if_pos (by rw [Int32.le_iff_toInt_le]; exact Int.le_refl _)]
  | succ j ih =>
    intro i m hi
    rw [show j + 1 + 1 + m = (j + 1 + m) + 1 by omega]
    show f_X11_lettersOf_s_4_b _ _ _ _ _ = _
    unfold f_X11_lettersOf_s_4_b
    rw [if_neg (nI_nle2 (by omega) (by omega)), if_neg (show ¬ (10 : Int32) ≤ nI i from nI_nle2 (b := 10) (by omega) (by omega)), gd_t (inB_nI (by omega) (by omega)), lt_d, lt_d, nI_clamp (by omega), ar44 i (by omega), nI_1]
    exact ih (i + 1) m (by omega)
theorem los_ok {D : Dm} {a : Nat} (ha : a ≤ 10) : f_X11_lettersOf_s (nI a) D = some (sI (fun u => D (122 + 14 * u) 3) a, D) := by
  unfold f_X11_lettersOf_s
  obtain ⟨q, hq⟩ := FUs a (by omega)
  rw [hq]
  have e := los_loop (D := D) ha a 0 q (by omega)
  rw [nI_0] at e
  exact e
theorem lot_loop {D : Dm} {a : Nat} (ha : a ≤ 10) : ∀ (j i m : Nat), i + j = a → f_X11_lettersOf_t_4 (j + 1 + m) (nI a) (sI (fun u => D (82 + 4 * u) 3) i) (nI i) D = some (sI (fun u => D (82 + 4 * u) 3) a, D) := by
  intro j
  induction j with
  | zero =>
    intro i m hi
    have hi : i = a := by omega
    subst hi
    rw [show 0 + 1 + m = m + 1 by omega]
    show f_X11_lettersOf_t_4_b _ _ _ _ _ = _
    unfold f_X11_lettersOf_t_4_b
    rw [if_pos (by rw [Int32.le_iff_toInt_le]; exact Int.le_refl _)]
  | succ j ih =>
    intro i m hi
    rw [show j + 1 + 1 + m = (j + 1 + m) + 1 by omega]
    show f_X11_lettersOf_t_4_b _ _ _ _ _ = _
    unfold f_X11_lettersOf_t_4_b
    rw [if_neg (nI_nle2 (by omega) (by omega)), if_neg (show ¬ (10 : Int32) ≤ nI i from nI_nle2 (b := 10) (by omega) (by omega)), gd_t (inB_nI (by omega) (by omega)), lt_d, lt_d, nI_clamp (by omega), ar77 i (by omega), nI_1]
    exact ih (i + 1) m (by omega)
theorem lot_ok {D : Dm} {a : Nat} (ha : a ≤ 10) : f_X11_lettersOf_t (nI a) D = some (sI (fun u => D (82 + 4 * u) 3) a, D) := by
  unfold f_X11_lettersOf_t
  obtain ⟨q, hq⟩ := FUs a (by omega)
  rw [hq]
  have e := lot_loop (D := D) ha a 0 q (by omega)
  rw [nI_0] at e
  exact e
theorem rct_loop {D : Dm} {a : Nat} (ha : a ≤ 10) (h : D 281 28 = nI a) : ∀ (j i m : Nat), i + j = a → f_X12_count_68 (j + 1 + m) (sI (D 292) i) (nI i) D = some (sI (D 292) a, D) := by
  intro j
  induction j with
  | zero =>
    intro i m hi
    have hi : i = a := by omega
    subst hi
    rw [show 0 + 1 + m = m + 1 by omega]
    show f_X12_count_68_b _ _ _ _ = _
    unfold f_X12_count_68_b
    rw [h, if_pos (by rw [Int32.le_iff_toInt_le]; exact Int.le_refl _)]
  | succ j ih =>
    intro i m hi
    rw [show j + 1 + 1 + m = (j + 1 + m) + 1 by omega]
    show f_X12_count_68_b _ _ _ _ = _
    unfold f_X12_count_68_b
    rw [h, if_neg (nI_nle2 (by omega) (by omega)), gd_t (inB_nI (by omega) (by omega)), lt_d, lt_d, nI_clamp (by omega), nI_1]
    exact ih (i + 1) m (by omega)
theorem rct_ok {D : Dm} {a : Nat} (ha : a ≤ 10) (h : D 281 28 = nI a) : f_X12_count_68 FU 0 0 D = some (sI (D 292) a, D) := by
  obtain ⟨q, hq⟩ := FUs a (by omega)
  rw [hq]
  have e := rct_loop (D := D) ha h a 0 q (by omega)
  rw [nI_0] at e
  exact e
theorem rcs_loop {D : Dm} {a : Nat} (ha : a ≤ 10) (h : D 281 27 = nI a) : ∀ (j i m : Nat), i + j = a → f_X12_countAll_4 (j + 1 + m) 2 (sI (D 289) i) (nI i) D = some (sI (D 289) a, D) := by
  intro j
  induction j with
  | zero =>
    intro i m hi
    have hi : i = a := by omega
    subst hi
    rw [show 0 + 1 + m = m + 1 by omega]
    show f_X12_countAll_4_b _ _ _ _ _ = _
    unfold f_X12_countAll_4_b
    rw [h, if_pos (by rw [Int32.le_iff_toInt_le]; exact Int.le_refl _)]
  | succ j ih =>
    intro i m hi
    rw [show j + 1 + 1 + m = (j + 1 + m) + 1 by omega]
    show f_X12_countAll_4_b _ _ _ _ _ = _
    unfold f_X12_countAll_4_b f_X12_countAll_66
    rw [h, if_neg (nI_nle2 (by omega) (by omega)), if_pos (rfl : (2 : Int32) = 2), gd_t (inB_nI (by omega) (by omega)), lt_d, lt_d, nI_clamp (by omega), nI_1]
    exact ih (i + 1) m (by omega)
theorem rcs_ok {D : Dm} {a : Nat} (ha : a ≤ 10) (h : D 281 27 = nI a) : f_X12_countAll 2 D = some (sI (D 289) a, D) := by
  unfold f_X12_countAll
  obtain ⟨q, hq⟩ := FUs a (by omega)
  rw [hq]
  have e := rcs_loop (D := D) ha h a 0 q (by omega)
  rw [nI_0] at e
  exact e
/-- count, all but 4 and 6 -/
theorem count_eq {D : Dm} {a b : Nat} (h : RLs D a) (h2 : RLt D b) (ht : D 1 1 = D 281 7) (x1 : Int32) (c4 : x1 ≠ 4) (c6 : x1 ≠ 6) : ∃ r, f_X11_count x1 D = some (r, D) ∧ f_X12_count x1 D = some (r, ud D 281 0 0) := by
  obtain ⟨-, ha, ha1, ha2, hu⟩ := h
  obtain ⟨-, hb, hb1, hb2, hv⟩ := h2
  unfold f_X11_count f_X12_count
  rw [ha1, hb1, los_ok ha, lot_ok hb, lt_d, show ud D 281 0 0 281 27 = nI a from ha2, show ud D 281 0 0 281 28 = nI b from hb2, rct_ok (D := ud D 281 0 0) hb hb2, ht]
  by_cases c0 : x1 = 0
  · exact ⟨_, if_pos c0, if_pos c0⟩
  rw [if_neg c0, if_neg c0]
  by_cases c1 : x1 = 1
  · exact ⟨_, if_pos c1, if_pos c1⟩
  rw [if_neg c1, if_neg c1]
  by_cases c2 : x1 = 2
  · rw [if_pos c2, if_pos c2, c2, rcs_ok (D := ud D 281 0 0) ha ha2, bI_d, bI_d]
    refine ⟨_, rfl, congrArg (fun z => some (z, ud D 281 0 0)) (sI_congr (fun u hu2 => ?_))⟩
    obtain ⟨n, ⟨-, h3, -⟩, -, hr, -⟩ := hu u hu2
    rw [h3]
    exact hr
  rw [if_neg c2, if_neg c2]
  by_cases c3 : x1 = 3
  · rw [if_pos c3, if_pos c3, bI_d]
    refine ⟨_, rfl, congrArg (fun z => some (z, ud D 281 0 0)) (sI_congr (fun u hu2 => ?_))⟩
    obtain ⟨n, ⟨-, h3, -⟩, -, hr, -⟩ := hv u hu2
    rw [h3]
    exact hr
  rw [if_neg c3, if_neg c3, if_neg c4, if_neg c4]
  by_cases c5 : x1 = 5
  · exact ⟨_, if_pos c5, if_pos c5⟩
  rw [if_neg c5, if_neg c5, if_neg c6, if_neg c6]
  exact ⟨_, rfl, rfl⟩
