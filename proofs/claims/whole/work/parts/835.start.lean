/-! ===== the beginning ===== -/
theorem b_1 : D0i 9 0 = 1 ∧ D0i 9 1 = 0 ∧ D0i 9 2 = 1 ∧ D0i 9 3 = 0 ∧ D0i 13 0 = 1 ∧ D0i 13 1 = 0 ∧ D0i 13 2 = 1 ∧ D0i 13 3 = 0 := by decide +kernel
theorem b_2 : ∀ k, k < 30 → D0i 10 k = -1 ∧ D0i 11 k = -1 ∧ D0i 12 k = -1 := by decide +kernel
theorem b_3 : ∀ k, k < 30 → D0i 14 k = -1 ∧ D0i 15 k = -1 ∧ D0i 16 k = -1 := by decide +kernel
theorem b_4 : D0i 282 0 = 1 ∧ D0i 282 1 = 0 ∧ D0i 282 2 = 1 ∧ D0i 282 3 = 0 ∧ D0i 282 94 = 1 ∧ D0i 282 95 = 0 ∧ D0i 282 96 = 1 ∧ D0i 282 97 = 0 := by decide +kernel
theorem b_5 : ∀ k, k < 90 → D0i 282 (4 + k) = -1 ∧ D0i 282 (98 + k) = -1 := by decide +kernel
theorem b_6 : D0i 17 3 = 0 ∧ D0i 17 4 = 0 ∧ D0i 281 18 = 0 ∧ D0i 1 1 = 0 ∧ D0i 281 7 = 0 ∧ D0i 1 6 = D0i 281 10 ∧ D0i 1 7 = D0i 281 11 ∧ D0i 0 10 = 0 := by decide +kernel
theorem b_7 : D0i 82 3 = 0 ∧ D0i 82 4 = 0 ∧ D0i 122 3 = 0 ∧ D0i 122 4 = 0 ∧ D0i 43 4 = 1 ∧ D0i 76 2 = 1 ∧ D0i 43 16 = 0 ∧ D0i 43 17 = 0 := by decide +kernel
theorem b_8 : D0i 281 27 = 1 ∧ D0i 281 28 = 1 ∧ D0i 289 0 = 0 ∧ D0i 292 0 = 0 ∧ D0i 281 33 = 0 := by decide +kernel
theorem b_9 : ∀ k, k < 10 → D0i 295 k = 0 ∧ D0i 296 k = 0 := by decide +kernel
theorem b_10 : ∀ k, k < 80 → D0i 297 k = 0 ∧ D0i 298 k = 0 := by decide +kernel
theorem wf_0 {to ke dr : Nat → Int32} (h : ∀ k, k < 30 → to k = -1 ∧ ke k = -1 ∧ dr k = -1) : wfM 1 0 1 0 to ke dr := by
  have := MV_wf (S := 1) (R := 0) (Y := 1) (A := 0) (to := to) (ke := ke) (dr := dr) (by omega) (by omega) (by omega) (by omega) (fun k hk => Or.inl (h k hk))
  exact this
theorem rm_0 : RM D0i 0 := by
  obtain ⟨a0, a1, a2, a3, -⟩ := b_1
  obtain ⟨c0, c1, c2, c3, -⟩ := b_4
  unfold RM rTo rKe rDr
  rw [show 9 + 4 * 0 = 9 from rfl, a0, a1, a2, a3]
  refine ⟨wf_0 b_2, c0, c1, c2, c3, fun k hk => ?_⟩
  obtain ⟨q1, q2, q3⟩ := b_2 k hk
  have p1 := (b_5 (3 * k) (by omega)).1
  have p2 := (b_5 (3 * k + 1) (by omega)).1
  have p3 := (b_5 (3 * k + 2) (by omega)).1
  rw [show 94 * 0 + (4 + 3 * k) = 4 + 3 * k by omega, show 4 + 3 * k + 1 = 4 + (3 * k + 1) by omega, show 4 + 3 * k + 2 = 4 + (3 * k + 2) by omega, p1, p2, p3]
  exact ⟨q1.symm, q2.symm, q3.symm⟩
theorem rm_1 : RM D0i 1 := by
  obtain ⟨-, -, -, -, a0, a1, a2, a3⟩ := b_1
  obtain ⟨-, -, -, -, c0, c1, c2, c3⟩ := b_4
  unfold RM rTo rKe rDr
  rw [show 9 + 4 * 1 = 13 from rfl, a0, a1, a2, a3]
  refine ⟨wf_0 b_3, c0, c1, c2, c3, fun k hk => ?_⟩
  obtain ⟨q1, q2, q3⟩ := b_3 k hk
  have p1 := (b_5 (3 * k) (by omega)).2
  have p2 := (b_5 (3 * k + 1) (by omega)).2
  have p3 := (b_5 (3 * k + 2) (by omega)).2
  rw [show 94 * 1 + (4 + 3 * k) = 98 + 3 * k by omega, show 98 + 3 * k + 1 = 98 + (3 * k + 1) by omega, show 98 + 3 * k + 2 = 98 + (3 * k + 2) by omega, p1, p2, p3]
  exact ⟨q1.symm, q2.symm, q3.symm⟩
theorem isW_0 {D : Dm} {w : Nat} (h3 : D w 3 = 0) (h4 : D w 4 = 0) : isW D w 0 := ⟨by omega, by rw [h3, nI_0], by rw [h4]; exact nI_0.symm, fun k hk => absurd hk (Nat.not_lt_zero k)⟩
theorem inv_0 : Inv D0i := by
  obtain ⟨w3, w4, w18, t1, t7, f6, f7, c0⟩ := b_6
  obtain ⟨e1, e2, e3, e4, l1, l2, l3, l4⟩ := b_7
  obtain ⟨r1, r2, r3, r4, r5⟩ := b_8
  refine ⟨⟨rm_0, rm_1⟩, ⟨0, ⟨by omega, by rw [w3, nI_0], by rw [w18, nI_0], fun k hk => absurd hk (Nat.not_lt_zero k)⟩, isW_0 w3 w4⟩, TPE_0 t1 t7, ⟨f6, f7⟩, Or.inl c0, ?_⟩
  exact LRN.anew rm_0 ⟨isW_0 e1 e2, isW_0 e3 e4⟩ ⟨l1, l2, l3, l4, r1, r2, r3, r4, r5, b_9, b_10⟩
