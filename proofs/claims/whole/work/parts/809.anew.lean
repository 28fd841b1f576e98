/-! ===== what the learner depends on; the learner anew ===== -/
section
variable {D D' E E' H : Dm} {T : Tb} {acc AH : Int32} {ts ss : Tst} {b a Z : Nat}
abbrev CRF (j k : Nat) : Prop := (j = 282 ∧ k < 94) ∨ (289 ≤ j ∧ j ≤ 298) ∨ (306 ≤ j ∧ j ≤ 309) ∨ (j = 281 ∧ (k = 27 ∨ k = 28 ∨ k = 33 ∨ (55 ≤ k ∧ k ≤ 65)))
theorem MR.f94 (h : MR E 0 T acc) (hF : ∀ k, k < 94 → E' 282 k = E 282 k) : MR E' 0 T acc := by
  refine ⟨h.1, fun k hk => ?_, by rw [hF _ (by omega)]; exact h.2.2⟩
  have := h.2.1 k hk
  unfold rTo rKe rDr at this ⊢
  rw [hF _ (by omega), hF _ (by omega), hF _ (by omega)]
  exact this
theorem RS.f94 (h : RS E T acc ts b ss a) (hF : ∀ j k, CRF j k → E' j k = E j k) : RS E' T acc ts b ss a := by
  obtain ⟨h1, h2, h3, h4, h5⟩ := h
  refine ⟨h1.f94 (fun k hk => hF _ _ (by unfold CRF; omega)), h2.fr (hF _ _ (by unfold CRF; omega)) (fun j k q1 q2 => hF _ _ (by unfold CRF; omega)), h3.fr (hF _ _ (by unfold CRF; omega)) (fun j k q1 q2 => hF _ _ (by unfold CRF; omega)), ⟨fun u hu => ?_, fun u q1 q2 => ?_⟩, fun u hu y hy k hk => ?_⟩
  · rw [hF _ _ (by unfold CRF; omega), hF _ _ (by unfold CRF; omega)]; exact h4.1 u hu
  · obtain ⟨z1, z2, z3⟩ := h4.2 u q1 q2
    refine ⟨by rw [hF _ _ (by unfold CRF; omega)]; exact z1, by rw [hF _ _ (by unfold CRF; omega)]; exact z2, fun k hk => ?_⟩
    rw [hF _ _ (by unfold CRF; omega), hF _ _ (by unfold CRF; omega)]; exact z3 k hk
  · rw [hF _ _ (by unfold CRF; omega), hF _ _ (by unfold CRF; omega)]; exact h5 u hu y hy k hk
theorem LAI.f94 (h : LAI E T acc ts b ss a Z H AH) (hF : ∀ j k, CRF j k → E' j k = E j k) : LAI E' T acc ts b ss a Z H AH := by
  refine ⟨by rw [hF _ _ (by unfold CRF; omega)]; exact h.1, ?_⟩
  have g6 : ∀ k, 55 ≤ k → k ≤ 65 → E' 281 k = E 281 k := fun k q1 q2 => hF _ _ (by unfold CRF; omega)
  rcases h.2 with ⟨r1, u, y, i, e, r2, r3, r4, r5, r6, r7, r8⟩ | ⟨r1, r2, u, y, i, r3, r4, r5, r6, r7, r8⟩ | ⟨⟨s1, s2, s3, s4, s5⟩, r2⟩
  · exact Or.inl ⟨by rw [g6 _ (by omega) (by omega)]; exact r1, u, y, i, e, r2, r3, r4, by rw [g6 _ (by omega) (by omega)]; exact r5, by rw [g6 _ (by omega) (by omega)]; exact r6, by rw [g6 _ (by omega) (by omega)]; exact r7, by rw [g6 _ (by omega) (by omega)]; exact r8⟩
  · exact Or.inr (Or.inl ⟨by rw [g6 _ (by omega) (by omega)]; exact r1, r2, u, y, i, r3, r4, r5, by rw [g6 _ (by omega) (by omega)]; exact r6, by rw [g6 _ (by omega) (by omega)]; exact r7, by rw [g6 _ (by omega) (by omega)]; exact r8⟩)
  · refine Or.inr (Or.inr ⟨⟨s1.f94 hF, by rw [hF _ _ (by unfold CRF; omega)]; exact s2, s3, fun u y i hv => ?_, fun u y i hv => ?_⟩, ?_⟩)
    · rw [hF _ _ (by unfold CRF; omega), hF _ _ (by unfold CRF; omega)]; exact s4 u y i hv
    · obtain ⟨v, z1, z2, z3⟩ := s5 u y i hv
      exact ⟨v, z1, by rw [hF _ _ (by unfold CRF; omega)]; exact z2, by rw [hF _ _ (by unfold CRF; omega)]; exact z3⟩
    · rcases r2 with ⟨q1, q2, q3, q4⟩ | ⟨q1, q2, ⟨q3, q4, q5⟩, s, q6, q7, q8⟩
      · exact Or.inl ⟨q1, by rw [g6 _ (by omega) (by omega)]; exact q2, by rw [g6 _ (by omega) (by omega)]; exact q3, by rw [g6 _ (by omega) (by omega)]; exact q4⟩
      · refine Or.inr ⟨q1, by rw [g6 _ (by omega) (by omega)]; exact q2, ⟨q3, by rw [g6 _ (by omega) (by omega)]; exact q4, fun p hp => ?_⟩, s, q6, q7, by rw [g6 _ (by omega) (by omega)]; exact q8⟩
        rw [hF 308 _ (by unfold CRF; omega), hF 309 _ (by unfold CRF; omega)]; exact q5 p hp
theorem JNT.r94 (h : JNT D E T acc ts b ss a Z) (hF : ∀ j k, CRF j k → E' j k = E j k) : JNT D E' T acc ts b ss a Z := by
  obtain ⟨hp, hC, hR, hc⟩ := h
  refine ⟨hp, hC, ⟨hR.1.f94 hF, by rw [hF _ _ (by unfold CRF; omega)]; exact hR.2⟩, ?_⟩
  rcases hc with ⟨q1, q2⟩ | ⟨H, AH, q1, q2⟩
  · exact Or.inl ⟨q1, by rw [hF _ _ (by unfold CRF; omega)]; exact q2⟩
  · refine Or.inr ⟨H, AH, q1, ?_⟩
    rcases q2 with q2 | q2
    · exact Or.inl (by rw [hF _ _ (by unfold CRF; omega)]; exact q2)
    · exact Or.inr (q2.f94 hF)
/-- all of it over one memory -/
theorem JNT.one (h : JNT D D T acc ts b ss a Z) (hD : ∀ j k, ((9 ≤ j ∧ j ≤ 12) ∨ (43 ≤ j ∧ j ≤ 261) ∨ CRF j k) → D' j k = D j k) : JNT D' D' T acc ts b ss a Z :=
  (h.c (fun j k q => hD j k (by rcases q with q | q; exact Or.inl q; exact Or.inr (Or.inl q)))).r94 (fun j k q => hD j k (Or.inr (Or.inr q)))
/-- the first test and the first short word are empty -/
def EMP (D : Dm) : Prop := isW D 82 0 ∧ isW D 122 0
theorem JNT.emp (h : JNT D E T acc ts b ss a Z) : EMP D := by
  obtain ⟨hp, ⟨hL, -, -, hT, -⟩, -, -⟩ := h
  constructor
  · have := (hT.2 0 (by have := hT.1.1; omega)).1
    rw [hT.1.2] at this
    exact this
  · obtain ⟨n, q1, q2, q3, -⟩ := hL.2.2.2.2 0 (by have := hL.2.2.1; omega)
    have en : n = 0 := by
      have := congrArg List.length q3
      rw [hp.1, lts_len] at this
      exact this.symm
    rw [en] at q2
    exact q2
def ts0 : Tst := fun _ => ([], 0)
theorem MC_of (h : RM D 0) : MC D (D 10, D 11, D 12) (D 9 3) := ⟨h.1, rfl, rfl⟩
theorem MR_of (h : RM D 0) : MR D 0 (D 10, D 11, D 12) (D 9 3) := by
  obtain ⟨h1, h2, h3, h4, h5, h6⟩ := h
  exact ⟨(MC_of ⟨h1, h2, h3, h4, h5, h6⟩).wfT, fun k hk => h6 k hk, h5⟩
theorem jnt_0 (hM : RM D 0) (hZ : D 9 2 = nI Z) (hZ1 : 1 ≤ Z) (hZ2 : Z ≤ 2) (hE : EMP D) (c1 : D 43 4 = 1) (c2 : D 76 2 = 1) (c3 : D 43 16 = 0) (c4 : D 43 17 = 0) (r1 : D 281 27 = 1) (r2 : D 281 28 = 1) (r3 : D 289 0 = 0) (r4 : D 292 0 = 0) (r5 : D 281 33 = 0) (r6 : ∀ k, k < 10 → D 295 k = 0 ∧ D 296 k = 0) (r7 : ∀ k, k < 80 → D 297 k = 0 ∧ D 298 k = 0) : JNT D D (D 10, D 11, D 12) (D 9 3) ts0 1 ts0 1 Z := by
  have e82 : D 282 2 = nI Z := by rw [← hZ]; exact hM.2.2.2.1
  have n1 : (1 : Int32) = nI 1 := rfl
  refine ⟨⟨rfl, hZ1, hZ2⟩, ⟨⟨MC_of hM, ⟨by omega, by rw [c2, n1], fun t ht => ?_⟩, ⟨by omega, by omega⟩, by rw [c1, n1], fun u hu => ?_⟩, Or.inl c3, fun u hu k hk => absurd hk (Nat.not_lt_zero k), ⟨⟨by omega, rfl⟩, fun t ht => ?_⟩, hZ⟩, ⟨⟨MR_of hM, ⟨by omega, by rw [r2, n1], fun t ht => ?_⟩, ⟨⟨by omega, by omega⟩, by rw [r1, n1], fun u hu => ?_⟩, ⟨fun u hu => ?_, fun u q1 q2 => ?_⟩, fun u hu y hy k hk => ?_⟩, e82⟩, Or.inl ⟨c4, r5⟩⟩
  · have : t = 0 := by omega
    subst this
    exact ⟨0, by omega, hE.1.2.1, hE.1.2.2.1, by decide, rfl, fun k hk => absurd hk (Nat.not_lt_zero k)⟩
  · have : u = 0 := by omega
    subst this
    exact ⟨0, by omega, hE.2, rfl, rfl, by decide, fun k hk => absurd hk (Nat.not_lt_zero k)⟩
  · have : t = 0 := by omega
    subst this
    exact ⟨hE.1, by decide, fun k hk => absurd hk (Nat.not_lt_zero k)⟩
  · have : t = 0 := by omega
    subst this
    exact ⟨0, by omega, by rw [r4, nI_0], rfl, by decide, fun k hk => absurd hk (Nat.not_lt_zero k), rfl⟩
  · have : u = 0 := by omega
    subst this
    exact ⟨0, by omega, by rw [r3, nI_0], rfl, by decide, fun k hk => absurd hk (Nat.not_lt_zero k), rfl⟩
  · obtain ⟨q1, q2⟩ := r6 u (by omega)
    exact ⟨0, by omega, by rw [q2, nI_0], by rw [q1, kpN_0]; rfl⟩
  · obtain ⟨z1, z2⟩ := r6 u q2
    exact ⟨z1, z2, fun k hk => r7 _ (by omega)⟩
  · have hk : k ≤ 0 := hk
    obtain ⟨q1, q2⟩ := r7 (8 * u + 4 * y + k) (by omega)
    exact ⟨0, by omega, by rw [q2, nI_0], by rw [q1, kpN_0]; rfl⟩
end
