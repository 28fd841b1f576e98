/-! ===== the calls of the learner ===== -/
section
variable {D D' : Dm}
theorem JNT.q {E D1 : Dm} {T : Tb} {acc : Int32} {ts ss : Tst} {b a Z : Nat} (h : JNT D E T acc ts b ss a Z) (hF : Fr SQC D D1) (hP : okPf D1 T acc ts b ss a) (h16 : D 43 16 = 1 → D1 43 16 = 1) : JNT D1 E T acc ts b ss a Z := by
  obtain ⟨hp, ⟨c1, c2, c3, c4, c5⟩, hR, hc⟩ := h
  have e : ∀ j k, ((9 ≤ j ∧ j ≤ 12) ∨ (j = 43 ∧ (k = 4 ∨ (13 ≤ k ∧ k ≤ 15) ∨ k = 17)) ∨ (56 ≤ j ∧ j ≤ 63) ∨ (68 ≤ j ∧ j ≤ 77) ∨ (82 ≤ j ∧ j ≤ 121) ∨ (122 ≤ j ∧ j ≤ 261 ∧ (j - 122) % 14 < 4)) → D1 j k = D j k := fun j k q => hF j k (by unfold SQC SPf SLk; omega)
  refine ⟨hp, ⟨c1.fr (fun j k q => e j k (by omega)), hP, c3.fr c1.2.2.1.2 (fun j k q1 q2 q3 => e j k (by omega)), c4.fr c1.2.1.1 (fun j k q1 q2 => e j k (by omega)), by rw [e _ _ (by omega)]; exact c5⟩, hR, ?_⟩
  rcases hc with ⟨q1, q2⟩ | ⟨H, AH, ⟨d1, d2, d3, d4, d5⟩, q2⟩
  · exact Or.inl ⟨by rw [e _ _ (by omega)]; exact q1, q2⟩
  · refine Or.inr ⟨H, AH, ⟨by rw [e _ _ (by omega)]; exact d1, h16 d2, ?_, d4.fr (fun j k q => e j k (by omega)), d5.fr (fun j k q => e j k (by omega))⟩, q2⟩
    rcases hP with q | q
    · rw [h16 d2] at q; exact absurd q (by decide)
    · exact q.2
/-- the tables of the first machine did not change -/
theorem LRN.of {T : Tb} {acc : Int32} {Z : Nat} (h : ∃ ts b ss a, JNT D' D' T acc ts b ss a Z) (hT : T = (D 10, D 11, D 12)) (ha : acc = D 9 3) (hZ : Z = Yn D 0) (hF : ∀ j k, 9 ≤ j → j ≤ 12 → D' j k = D j k) : LRN D' := by
  obtain ⟨ts, b, ss, a, h⟩ := h
  have e : ∀ j, 9 ≤ j → j ≤ 12 → D' j = D j := fun j q1 q2 => funext (fun k => hF j k q1 q2)
  refine ⟨ts, b, ss, a, ?_⟩
  unfold Yn
  rw [e 10 (by omega) (by omega), e 11 (by omega) (by omega), e 12 (by omega) (by omega), e 9 (by omega) (by omega)]
  rw [hT, ha, hZ] at h
  exact h
theorem Inv.eq1 {ts ss : Tst} {b a : Nat} {f g : Dm → Option (Int32 × Dm)} (h : Inv D) (hJ : JNT D D (D 10, D 11, D 12) (D 9 3) ts b ss a (Yn D 0)) (hE : EQ1 D (D 10, D 11, D 12) (D 9 3) ts b ss a f g) : ∃ r D1 D2, f D = some (r, D1) ∧ g D1 = some (r, D2) ∧ Inv D2 := by
  obtain ⟨r, D1, D2, e1, e2, F1, hP, F2, hR, h16, hK⟩ := hE
  refine ⟨r, D1, D2, e1, e2, ?_⟩
  have J1 := hJ.q F1 hP h16
  have J2 : JNT D1 D1 (D 10, D 11, D 12) (D 9 3) ts b ss a (Yn D 0) := J1.r94 (fun j k q => F1 j k (by unfold CRF at q; unfold SQC SPf SLk; omega))
  have J3 := J2.k hR (fun j k _ q => F2 j k q) hK
  have J4 : JNT D2 D2 (D 10, D 11, D 12) (D 9 3) ts b ss a (Yn D 0) := J3.c (fun j k q => F2 j k (by unfold SXR SXC; omega))
  have eK : ∀ j k, KN j k → D2 j k = D j k := fun j k q => by
    unfold KN at q
    rw [F2 j k (by unfold SXR SXC; omega), F1 j k (by unfold SQC SPf SLk; omega)]
  exact h.lrn eK (LRN.of ⟨ts, b, ss, a, J4⟩ rfl rfl rfl (fun j k q1 q2 => eK j k (by unfold KN; omega)))
theorem s_remembered : St_remembered Inv := fun D h => by
  obtain ⟨n, hW, hI⟩ := h.2.1
  obtain ⟨ts, b, ss, a, hJ⟩ := h.2.2.2.2.2
  exact h.eq1 hJ (remembered_eq hJ.2.1.1 hJ.2.2.1.1 hJ.2.1.2.1 hW hI)
theorem s_alike : St_alike Inv := fun D h x1 => by
  obtain ⟨n, hW, hI⟩ := h.2.1
  obtain ⟨ts, b, ss, a, hJ⟩ := h.2.2.2.2.2
  exact h.eq1 hJ (alike_eq hJ.2.1.1 hJ.2.2.1.1 hJ.2.1.2.1 hW hI x1)
theorem s_registers : St_registers Inv := fun D h x1 => by
  obtain ⟨ts, b, ss, a, hJ⟩ := h.2.2.2.2.2
  exact h.eq1 hJ (registers_eq hJ.2.1.1 hJ.2.2.1.1 hJ.2.1.2.1 x1)
theorem s_goes : St_goes Inv := fun D h x1 x2 x3 => by
  obtain ⟨ts, b, ss, a, hJ⟩ := h.2.2.2.2.2
  exact h.eq1 hJ (goes_eq hJ.2.1.1 hJ.2.2.1.1 hJ.2.1.2.1 hJ.2.1.2.2.2.2 hJ.2.2.1.2 hJ.1.2.2 x1 x2 x3)
theorem s_count : St_count Inv := fun D h x1 => by
  obtain ⟨ts, b, ss, a, hJ⟩ := h.2.2.2.2.2
  by_cases c4 : x1 = 4
  · rw [c4]
    exact h.eq1 hJ (count4_eq hJ.2.1.1 hJ.2.2.1.1 hJ.2.1.2.1 hJ.2.1.2.2.2.2 hJ.2.2.1.2)
  · by_cases c6 : x1 = 6
    · rw [c6]
      exact h.eq1 hJ (count6_eq hJ.2.1.1 hJ.2.2.1.1 hJ.2.1.2.1)
    · obtain ⟨c, n, -, t1, t2, -⟩ := h.2.2.1
      obtain ⟨r, e1, e2⟩ := count_eq (lists hJ).1 (lists hJ).2 (by rw [t1, t2]) x1 c4 c6
      exact ⟨r, D, _, e1, e2, h.z⟩
theorem Inv.lq {f g : Dm → Option (Int32 × Dm)} (h : Inv D) (hQ : LRQ D (D 10, D 11, D 12) (D 9 3) (Yn D 0) f g) : ∃ r D1 D2, f D = some (r, D1) ∧ g D1 = some (r, D2) ∧ Inv D2 := by
  obtain ⟨r, D1, D2, e1, e2, F1, F2, hJ⟩ := hQ
  have eK : ∀ j k, KN j k → D2 j k = D j k := fun j k q => by
    unfold KN at q
    rw [F2 j k (by unfold SRS; omega), ud_at, if_neg (by omega), F1 j k (by unfold SCS; omega)]
  exact ⟨r, D1, D2, e1, e2, h.lrn eK (LRN.of hJ rfl rfl rfl (fun j k q1 q2 => eK j k (by unfold KN; omega)))⟩
theorem s_step : St_step Inv := fun D h => by
  obtain ⟨ts, b, ss, a, hJ⟩ := h.2.2.2.2.2
  exact h.lq (step_eq hJ)
theorem s_learn : St_learn Inv := fun D h => by
  obtain ⟨ts, b, ss, a, hJ⟩ := h.2.2.2.2.2
  exact h.lq (learn_eq hJ)
theorem s_stands : St_stands Inv := fun D h => by
  obtain ⟨ts, b, ss, a, hJ⟩ := h.2.2.2.2.2
  exact h.lq (stands_eq hJ)
theorem s_guess : St_guess Inv := fun D h => by
  obtain ⟨n, hW, -⟩ := h.2.1
  obtain ⟨ts, b, ss, a, hJ⟩ := h.2.2.2.2.2
  exact h.lq (guess_eq hJ hW)
theorem s_guessed : St_guessed Inv := fun D h x1 x2 => by
  obtain ⟨n, hW, -⟩ := h.2.1
  obtain ⟨ts, b, ss, a, hJ⟩ := h.2.2.2.2.2
  exact h.lq (guessed_eq hJ hW x1 x2)
theorem s_refutes : St_refutes Inv := fun D h x1 x2 => by
  obtain ⟨ts, b, ss, a, hJ⟩ := h.2.2.2.2.2
  exact h.lq (refutes_eq hJ x1 x2)
theorem s_splits : St_splits Inv := fun D h => by
  obtain ⟨ts, b, ss, a, hJ⟩ := h.2.2.2.2.2
  exact h.lq (splits_eq hJ)
theorem s_spare : St_spare Inv := fun D h => by
  obtain ⟨ts, b, ss, a, hJ⟩ := h.2.2.2.2.2
  exact h.lq (spare_eq hJ h.1.1.2.2.1)
end
