/-- two rows are 0 up to i -/
def zf (D : Dm) (a b i : Nat) : Dm := fun j k => if (j = a ∨ j = b) ∧ k < i then 0 else D j k
theorem zf_step {D : Dm} {a b i : Nat} : ud (ud (zf D a b i) a i 0) b i 0 = zf D a b (i + 1) := by
  funext j k
  simp only [ud_at, zf]
  by_cases h1 : j = b ∧ k = i
  · rw [if_pos h1, if_pos ⟨Or.inr h1.1, by omega⟩]
  · rw [if_neg h1]
    by_cases h2 : j = a ∧ k = i
    · rw [if_pos h2, if_pos ⟨Or.inl h2.1, by omega⟩]
    · rw [if_neg h2]
      by_cases h3 : (j = a ∨ j = b) ∧ k < i
      · rw [if_pos h3, if_pos ⟨h3.1, by omega⟩]
      · rw [if_neg h3, if_neg]
        intro ⟨h4, h5⟩
        rcases h4 with h4 | h4
        · exact (by by_cases hk : k = i; exact h2 ⟨h4, hk⟩; exact h3 ⟨Or.inl h4, by omega⟩)
        · exact (by by_cases hk : k = i; exact h1 ⟨h4, hk⟩; exact h3 ⟨Or.inr h4, by omega⟩)
theorem zf_0 {D : Dm} {a b : Nat} : zf D a b 0 = D := by
  funext j k
  simp [zf]
theorem rs54 {D : Dm} : ∀ (j i m : Nat), i + j = 80 → f_X12_resets_54 (j + 1 + m) (nI i) (zf D 297 298 i) = some (ud (zf D 297 298 80) 281 33 0) := by
  intro j
  induction j with
  | zero =>
    intro i m hi
    have hi : i = 80 := by omega
    subst hi
    rw [show 0 + 1 + m = m + 1 by omega]
    show f_X12_resets_54_b _ _ _ = _
    unfold f_X12_resets_54_b
    rw [if_pos (by decide), lt_d]
  | succ j ih =>
    intro i m hi
    rw [show j + 1 + 1 + m = (j + 1 + m) + 1 by omega]
    show f_X12_resets_54_b _ _ _ = _
    unfold f_X12_resets_54_b
    rw [if_neg (show ¬ (80 : Int32) ≤ nI i from nI_ge (b := 80) (by omega) (by decide)), gd_t (inB_nI (by omega) (by omega)), lt_d, gd_t (inB_nI (by omega) (by omega)), lt_d, lt_d, nI_clamp (by omega), nI_1, zf_step]
    exact ih (i + 1) m (by omega)
theorem rs26 {D : Dm} : ∀ (j i m : Nat), i + j = 10 → f_X12_resets_26 (j + 1 + m) (nI i) (zf D 295 296 i) = some (ud (zf (zf D 295 296 10) 297 298 80) 281 33 0) := by
  intro j
  induction j with
  | zero =>
    intro i m hi
    have hi : i = 10 := by omega
    subst hi
    rw [show 0 + 1 + m = m + 1 by omega]
    show f_X12_resets_26_b _ _ _ = _
    unfold f_X12_resets_26_b
    rw [if_pos (by decide)]
    obtain ⟨q, hq⟩ := FUs 80 (by omega)
    rw [hq]
    have e := rs54 (D := zf D 295 296 10) 80 0 q rfl
    rw [zf_0, nI_0] at e
    exact e
  | succ j ih =>
    intro i m hi
    rw [show j + 1 + 1 + m = (j + 1 + m) + 1 by omega]
    show f_X12_resets_26_b _ _ _ = _
    unfold f_X12_resets_26_b
    rw [if_neg (show ¬ (10 : Int32) ≤ nI i from nI_ge (b := 10) (by omega) (by decide)), gd_t (inB_nI (by omega) (by omega)), lt_d, gd_t (inB_nI (by omega) (by omega)), lt_d, lt_d, nI_clamp (by omega), nI_1, zf_step]
    exact ih (i + 1) m (by omega)
/-- the reference's learner begins anew -/
def rsD (D : Dm) : Dm := ud (zf (zf (ud (ud (ud (ud D 281 27 1) 281 28 1) 289 0 0) 292 0 0) 295 296 10) 297 298 80) 281 33 0
theorem rs_key (D : Dm) : f_X12_resets_26 FU 0 D = some (ud (zf (zf D 295 296 10) 297 298 80) 281 33 0) := by
  obtain ⟨q, hq⟩ := FUs 10 (by omega)
  rw [hq]
  have e := rs26 (D := D) 10 0 q rfl
  rw [zf_0, nI_0] at e
  exact e
theorem resets_ok {D : Dm} : f_X12_resets D = some (rsD D) := by
  unfold f_X12_resets
  rw [lt_d, lt_d, lt_d, lt_d, rs_key]
  unfold rsD
  rfl
/-- the class's learner begins anew -/
def anD (D : Dm) : Dm := ud (ud (ud (ud D 43 4 1) 76 2 1) 43 16 0) 43 17 0
theorem anew_ok {D : Dm} : f_X3_startAnew D = some (anD D) := rfl
theorem note_ok {D : Dm} {x : Int32} : f_X11_noteChange x D = some (if x = 0 then anD (ud D 0 10 0) else ud D 0 10 0) := by
  unfold f_X11_noteChange
  rw [lt_d]
  by_cases h : x = 0
  · rw [if_pos h, if_pos h, anew_ok, bV_d]
  · rw [if_neg h, if_neg h]
/-- a place of a machine: class and reference look alike -/
def plc (nS nR nY x2 x3 x4 : Int32) : Prop := (0 ≤ x2.toInt ∧ x2.toInt < nS.toInt) ∧ (0 ≤ x3.toInt ∧ x3.toInt < nY.toInt) ∧ (x4 = 2 ∨ (0 ≤ x4.toInt ∧ x4.toInt < nR.toInt))
theorem lt0 {x : Int32} : (x < 0) = (x.toInt < 0) := by rw [Int32.lt_iff_toInt_lt]; rfl
theorem hasPlace_ok {D : Dm} {r : Nat} {x2 x3 x4 : Int32} [Decidable (plc (D r 0) (D r 1) (D r 2) x2 x3 x4)] : f_X4_hasPlace r x2 x3 x4 D = some (if plc (D r 0) (D r 1) (D r 2) x2 x3 x4 then 1 else 0, D) := by
  unfold f_X4_hasPlace f_X4_hasPlace_43
  simp only [Int32.lt_iff_toInt_lt, Int32.le_iff_toInt_le, show (0 : Int32).toInt = 0 from rfl]
  by_cases c1 : x2.toInt < 0
  · rw [if_pos c1, if_neg (fun q => by have := q.1.1; omega)]
  rw [if_neg c1]
  by_cases c2 : (D r 0).toInt ≤ x2.toInt
  · rw [if_pos c2, if_neg (fun q => by have := q.1.2; omega)]
  rw [if_neg c2]
  by_cases c3 : x3.toInt < 0
  · rw [if_pos c3, if_neg (fun q => by have := q.2.1.1; omega)]
  rw [if_neg c3]
  by_cases c4 : x3.toInt < (D r 2).toInt
  · rw [if_pos c4]
    by_cases c5 : x4 = 2
    · rw [if_pos c5, if_pos ⟨⟨by omega, by omega⟩, ⟨by omega, c4⟩, Or.inl c5⟩]
    rw [if_neg c5]
    by_cases c6 : x4.toInt < 0
    · rw [if_pos c6, if_neg (fun q => by have := q.2.2.resolve_left c5; omega)]
    rw [if_neg c6]
    by_cases c7 : (D r 1).toInt ≤ x4.toInt
    · rw [if_pos c7, if_neg (fun q => by have := q.2.2.resolve_left c5; omega)]
    · rw [if_neg c7, if_pos ⟨⟨by omega, by omega⟩, ⟨by omega, c4⟩, Or.inr ⟨by omega, by omega⟩⟩]
  · rw [if_neg c4, if_neg (fun q => by have := q.2.1.2; omega)]
theorem isReg_ok {D : Dm} {x v : Int32} {m : Nat} {a : Int32} (hx : isMc x m) (ha : D 282 (94 * m + 1) = a) (hr : 0 ≤ a.toInt) : f_X12_isRegister x v D = some (if 0 ≤ v.toInt ∧ v.toInt < a.toInt then 1 else 0, D) := by
  unfold f_X12_isRegister
  rw [its_ok (k := 1) (q := 1) hx rfl (by omega), bI_d, ha, isIn_i (l := 0) (h := a.toInt - 1) rfl (t64 (sub1 hr)), bI_d]
  have e : (0 ≤ v.toInt ∧ v.toInt ≤ a.toInt - 1) = (0 ≤ v.toInt ∧ v.toInt < a.toInt) := by
    apply propext
    omega
  simp only [e]
  split
  · rw [gd_t (by decide)]
  · rw [gd_t (by decide)]
theorem isMove_ok {D : Dm} {x x2 x3 x4 a0 a1 a2 : Int32} {m : Nat} (hx : isMc x m) (h0 : D 282 (94 * m + 0) = a0) (h1 : D 282 (94 * m + 1) = a1) (h2 : D 282 (94 * m + 2) = a2) (p0 : 0 ≤ a0.toInt) (p1 : 0 ≤ a1.toInt) (p2 : 0 ≤ a2.toInt) [Decidable (plc a0 a1 a2 x2 x3 x4)] : f_X12_isMove x x2 x3 x4 D = some (if plc a0 a1 a2 x2 x3 x4 then 1 else 0, D) := by
  unfold f_X12_isMove f_X12_isMove_59
  rw [mc_r hx, bI_d, if_neg (by decide), its_ok (k := 0) (q := 0) hx rfl (by omega), bI_d, h0, isIn_i (l := 0) (h := a0.toInt - 1) rfl (t64 (sub1 p0)), bI_d]
  by_cases c1 : 0 ≤ x2.toInt ∧ x2.toInt ≤ a0.toInt - 1
  · rw [if_pos c1, if_neg (by decide), its_ok (k := 2) (q := 2) hx rfl (by omega), bI_d, h2, isIn_i (l := 0) (h := a2.toInt - 1) rfl (t64 (sub1 p2)), bI_d]
    by_cases c2 : 0 ≤ x3.toInt ∧ x3.toInt ≤ a2.toInt - 1
    · rw [if_pos c2, if_neg (by decide)]
      by_cases c3 : x4 = 2
      · rw [if_pos c3, if_pos ⟨⟨c1.1, by omega⟩, ⟨c2.1, by omega⟩, Or.inl c3⟩]
      · rw [if_neg c3, isReg_ok hx h1 p1, bI_d]
        by_cases c4 : 0 ≤ x4.toInt ∧ x4.toInt < a1.toInt
        · rw [if_pos c4, if_neg (by decide), if_pos ⟨⟨c1.1, by omega⟩, ⟨c2.1, by omega⟩, Or.inr c4⟩]
        · rw [if_neg c4, if_pos rfl, if_neg (fun q => c4 (q.2.2.resolve_left c3))]
    · rw [if_neg c2, if_pos rfl, if_neg (fun q => c2 ⟨q.2.1.1, by have := q.2.1.2; omega⟩)]
  · rw [if_neg c1, if_pos rfl, if_neg (fun q => c1 ⟨q.1.1, by have := q.1.2; omega⟩)]
theorem isSy_of {x : Int32} (h1 : 0 ≤ x.toInt) (h2 : x.toInt < 2) : isSy x := by
  have h : x.toInt = 0 ∨ x.toInt = 1 := by omega
  rcases h with h | h <;> rw [i32_of h] <;> decide
theorem plc_g {nS nR nY x2 x3 x4 : Int32} (hS : nS.toInt ≤ 5) (hR : nR.toInt ≤ 2) (hY : nY.toInt ≤ 2) (h : plc nS nR nY x2 x3 x4) : isSt x2 ∧ isSy x3 ∧ ∃ k, (x4 = 0 ∧ k = 0) ∨ (x4 = 1 ∧ k = 1) ∨ (x4 = 2 ∧ k = 2) := by
  obtain ⟨⟨a, b⟩, ⟨c, d⟩, e⟩ := h
  refine ⟨isSt_of a (by omega), isSy_of c (by omega), ?_⟩
  rcases e with e | ⟨e1, e2⟩
  · exact ⟨2, Or.inr (Or.inr ⟨e, rfl⟩)⟩
  · rcases isSy_of e1 (by omega) with h | h
    · exact ⟨0, Or.inl ⟨h, rfl⟩⟩
    · exact ⟨1, Or.inr (Or.inl ⟨h, rfl⟩)⟩
theorem moved_eq {D : Dm} (h0 : RM D 0) (h1 : RM D 1) (x1 x2 x3 x4 x5 : Int32) : ∃ r, f_X11_moved x1 x2 x3 x4 x5 D = some (r, D) ∧ ∀ D', (∀ k, D' 282 k = D 282 k) → f_X12_moved x1 x2 x3 x4 x5 D' = some (r, ud D' 281 0 0) := by
  classical
  unfold f_X11_moved f_X12_moved
  rcases mc_cases x1 with ⟨m, hm⟩ | hm
  · have hR : RM D m := by rcases hm with ⟨-, rfl⟩ | ⟨-, rfl⟩; exact h0; exact h1
    obtain ⟨⟨wS, wR, wY, -⟩, e0, e1, e2, e3, eT⟩ := hR
    rw [mc_c hm, bI_d, if_neg (by decide), gd_t (mc_in hm), mc_ar hm, hasPlace_ok, bI_d]
    have hM : ∀ D' : Dm, (∀ k, D' 282 k = D 282 k) → f_X12_isMove x1 x2 x3 x4 (ud D' 281 0 0) = some (if plc (D (9 + 4 * m) 0) (D (9 + 4 * m) 1) (D (9 + 4 * m) 2) x2 x3 x4 then 1 else 0, ud D' 281 0 0) := fun D' hD => isMove_ok hm (by rw [← e0, ← hD]; rfl) (by rw [← e1, ← hD]; rfl) (by rw [← e2, ← hD]; rfl) (by omega) (by omega) (by omega)
    by_cases hp : plc (D (9 + 4 * m) 0) (D (9 + 4 * m) 1) (D (9 + 4 * m) 2) x2 x3 x4
    · obtain ⟨hs, hy, k, hk⟩ := plc_g (by omega) (by omega) (by omega) hp
      have hb := mb_lt hs hy
      have hk2 : k ≤ 2 := by rcases hk with ⟨-, rfl⟩ | ⟨-, rfl⟩ | ⟨-, rfl⟩ <;> omega
      obtain ⟨i1, i2⟩ := mb_in hs hy hk
      have iR : ∀ (c : Int32) (q : Nat), c = Int32.ofNat q → q ≤ 2 → ∀ D' : Dm, f_X12_its x1 ((4 + (3 * (((6 * x2) + (3 * x3)) + x4))) + c) D' = some (D' 282 (94 * m + (4 + 3 * (mbase x2 x3 + k)) + q), D') := by
        intro c q hc hq D'
        have e : (4 + (3 * (((6 * x2) + (3 * x3)) + x4))) + c = Int32.ofNat (4 + 3 * (mbase x2 x3 + k) + q) := by
          rw [hc]
          clear i1 i2 hM hp
          have : q = 0 ∨ q = 1 ∨ q = 2 := by omega
          rcases hs with rfl | rfl | rfl | rfl | rfl <;> rcases hy with rfl | rfl <;> rcases hk with ⟨rfl, rfl⟩ | ⟨rfl, rfl⟩ | ⟨rfl, rfl⟩ <;> rcases this with rfl | rfl | rfl <;> decide
        rw [its_ok hm e (by omega)]
        rw [show 94 * m + (4 + 3 * (mbase x2 x3 + k) + q) = 94 * m + (4 + 3 * (mbase x2 x3 + k)) + q by omega]
      rw [if_pos hp, if_neg (by decide), gd_t (mc_in hm)]
      unfold f_X4_slot
      rw [bI_d, gd_t i1, gd_t i1, gd_t i1, i2]
      have hT := eT (mbase x2 x3 + k) (by omega)
      unfold rTo rKe rDr at hT
      by_cases c0 : x5 = 0
      · subst c0
        refine ⟨_, if_pos rfl, fun D' hD => ?_⟩
        rw [lt_d, hM D' hD, bI_d, if_pos hp, if_neg (by decide), isIn_i (l := 0) (h := 2) rfl rfl, bI_d, if_neg (by decide)]
        unfold f_X12_moveAt
        rw [bI_d, iR 0 0 rfl (by omega), bI_d, ← hT.1, ← hD]
        rfl
      by_cases c1 : x5 = 1
      · subst c1
        refine ⟨_, by rw [if_neg c0, if_pos rfl], fun D' hD => ?_⟩
        rw [lt_d, hM D' hD, bI_d, if_pos hp, if_neg (by decide), isIn_i (l := 0) (h := 2) rfl rfl, bI_d, if_neg (by decide)]
        unfold f_X12_moveAt
        rw [bI_d, iR 1 1 rfl (by omega), bI_d, ← hT.2.1, ← hD]
        rfl
      by_cases c2 : x5 = 2
      · subst c2
        refine ⟨_, by rw [if_neg c0, if_neg c1, if_pos rfl], fun D' hD => ?_⟩
        rw [lt_d, hM D' hD, bI_d, if_pos hp, if_neg (by decide), isIn_i (l := 0) (h := 2) rfl rfl, bI_d, if_neg (by decide)]
        unfold f_X12_moveAt
        rw [bI_d, iR 2 2 rfl (by omega), bI_d, ← hT.2.2, ← hD]
        rfl
      · refine ⟨_, by rw [if_neg c0, if_neg c1, if_neg c2], fun D' hD => ?_⟩
        have a0 := ne_toInt c0 (k := 0) rfl
        have a1 := ne_toInt c1 (k := 1) rfl
        have a2 := ne_toInt c2 (k := 2) rfl
        rw [lt_d, hM D' hD, bI_d, if_pos hp, if_neg (by decide), isIn_i (l := 0) (h := 2) rfl rfl, bI_d, if_neg (by omega : ¬ (0 ≤ x5.toInt ∧ x5.toInt ≤ 2)), if_pos rfl]
    · rw [if_neg hp]
      refine ⟨-2, if_pos rfl, fun D' hD => ?_⟩
      rw [lt_d, hM D' hD, bI_d, if_neg hp, if_pos rfl]
  · refine ⟨-2, by rw [mc_cn hm, bI_d, if_pos rfl], fun D' hD => ?_⟩
    unfold f_X12_isMove
    rw [lt_d, mc_rn hm, bI_d, if_pos rfl, bI_d, if_pos rfl]
