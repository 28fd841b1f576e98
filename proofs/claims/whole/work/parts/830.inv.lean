/-! ===== what always holds ===== -/
section
variable {D D' : Dm}
theorem RM.f1 {m : Nat} (h : RM D m) (hF : ∀ j k, 9 + 4 * m ≤ j → j ≤ 9 + 4 * m + 3 → D' j k = D j k) (hE : ∀ k, 94 * m ≤ k → k < 94 * m + 94 → D' 282 k = D 282 k) : RM D' m := by
  obtain ⟨h1, h2, h3, h4, h5, h6⟩ := h
  have e : ∀ j, 9 + 4 * m ≤ j → j ≤ 9 + 4 * m + 3 → D' j = D j := fun j q1 q2 => funext (fun k => hF j k q1 q2)
  unfold rTo rKe rDr at h6
  unfold RM rTo rKe rDr
  rw [e (9 + 4 * m) (by omega) (by omega), e (9 + 4 * m + 1) (by omega) (by omega), e (9 + 4 * m + 2) (by omega) (by omega), e (9 + 4 * m + 3) (by omega) (by omega)]
  refine ⟨h1, by rw [hE _ (by omega) (by omega)]; exact h2, by rw [hE _ (by omega) (by omega)]; exact h3, by rw [hE _ (by omega) (by omega)]; exact h4, by rw [hE _ (by omega) (by omega)]; exact h5, fun k hk => ?_⟩
  rw [hE _ (by omega) (by omega), hE _ (by omega) (by omega), hE _ (by omega) (by omega)]
  exact h6 k hk
def Yn (D : Dm) (m : Nat) : Nat := (D (9 + 4 * m) 2).toNatClampNeg
theorem Yn_ok {m : Nat} (h : RM D m) : D (9 + 4 * m) 2 = nI (Yn D m) ∧ 1 ≤ Yn D m ∧ Yn D m ≤ 2 := by
  have w := h.1.2.2.1
  obtain ⟨y, hy, e⟩ := clt (x := D (9 + 4 * m) 2) (n := 3) (by omega) (by omega)
  unfold Yn
  rw [e, nI_cl (by omega)]
  rw [e, nI_toInt (by omega)] at w
  exact ⟨rfl, by omega, by omega⟩
def SMD (D : Dm) : List Nd × Bool := SM (D 10, D 11, D 12) (D 14, D 15, D 16) (D 9 3) (D 13 3) (Yn D 0) (Yn D 1)
theorem MM_of (h0 : RM D 0) (h1 : RM D 1) : MM D (D 10, D 11, D 12) (D 14, D 15, D 16) (D 9 3) (D 13 3) (Yn D 0) (Yn D 1) := by
  obtain ⟨a1, a2, a3⟩ := Yn_ok h0
  obtain ⟨b1, b2, b3⟩ := Yn_ok h1
  exact ⟨h0, h1, rfl, rfl, rfl, rfl, a1, b1, ⟨a2, a3⟩, ⟨b2, b3⟩⟩
def LRN (D : Dm) : Prop := ∃ ts b ss a, JNT D D (D 10, D 11, D 12) (D 9 3) ts b ss a (Yn D 0)
def WRD (D : Dm) : Prop := ∃ n, RW D n ∧ isW D 17 n
def TPE (D : Dm) : Prop := ∃ c h, TPR D D c h
def FLT (D : Dm) : Prop := D 1 6 = D 281 10 ∧ D 1 7 = D 281 11
def Inv (D : Dm) : Prop := (RM D 0 ∧ RM D 1) ∧ WRD D ∧ TPE D ∧ FLT D ∧ CI D (SMD D) ∧ LRN D
/-- the cells of what is not the learner's -/
abbrev KN (j k : Nat) : Prop := (j = 0 ∧ (k = 10 ∨ k = 11 ∨ k = 12)) ∨ (j = 1 ∧ (k = 1 ∨ k = 6 ∨ k = 7)) ∨ j = 2 ∨ (9 ≤ j ∧ j ≤ 20) ∨ (262 ≤ j ∧ j ≤ 265) ∨ (j = 281 ∧ (k = 7 ∨ k = 10 ∨ k = 11 ∨ k = 18)) ∨ j = 282 ∨ (284 ≤ j ∧ j ≤ 286)
theorem WRD.fr (h : WRD D) (hF : ∀ j k, ((17 ≤ j ∧ j ≤ 20) ∨ j = 285 ∨ j = 286 ∨ (j = 281 ∧ k = 18)) → D' j k = D j k) : WRD D' := by
  obtain ⟨n, h1, h2⟩ := h
  obtain ⟨g1, g2, -⟩ := RWfr h1 hF
  exact ⟨n, g1, g2 h2⟩
theorem TPE.fr (h : TPE D) (hF : ∀ j k, ((j = 1 ∧ k = 1) ∨ j = 2 ∨ (j = 281 ∧ k = 7) ∨ j = 284) → D' j k = D j k) : TPE D' := by
  obtain ⟨c, n, h1, h2, h3, h4⟩ := h
  refine ⟨c, n, h1, by rw [hF _ _ (by omega)]; exact h2, by rw [hF _ _ (by omega)]; exact h3, fun k hk => ?_⟩
  rw [hF _ _ (by omega), hF _ _ (by omega)]; exact h4 k hk
theorem FLT.fr (h : FLT D) (hF : ∀ j k, ((j = 1 ∧ (k = 6 ∨ k = 7)) ∨ (j = 281 ∧ (k = 10 ∨ k = 11))) → D' j k = D j k) : FLT D' := by
  unfold FLT
  rw [hF _ _ (by omega), hF _ _ (by omega), hF _ _ (by omega), hF _ _ (by omega)]; exact h
theorem CI_fr {R : List Nd × Bool} (h : CI D R) (hF : ∀ j k, ((j = 0 ∧ (k = 10 ∨ k = 11 ∨ k = 12)) ∨ (262 ≤ j ∧ j ≤ 265)) → D' j k = D j k) : CI D' R := by
  rcases h with q | ⟨q1, q2, q3, q4, q5⟩
  · exact Or.inl (by rw [hF _ _ (by omega)]; exact q)
  · refine Or.inr ⟨by rw [hF _ _ (by omega)]; exact q1, by rw [hF _ _ (by omega)]; exact q2, by rw [hF _ _ (by omega)]; exact q3, fun e => ?_, fun e => ?_⟩
    · obtain ⟨w1, w2⟩ := q4 e
      refine ⟨isW_congr w1 (hF _ _ (by omega)) (hF _ _ (by omega)) (fun k _ => hF _ _ (by omega)) (fun k _ => hF _ _ (by omega)), fun p hp => ?_⟩
      rw [hF _ _ (by omega), hF _ _ (by omega)]; exact w2 p hp
    · exact isW_congr (q5 e) (hF _ _ (by omega)) (hF _ _ (by omega)) (fun k _ => hF _ _ (by omega)) (fun k _ => hF _ _ (by omega))
theorem SMD_fr (hF : ∀ j k, (9 ≤ j ∧ j ≤ 16) → D' j k = D j k) : SMD D' = SMD D := by
  have e : ∀ j, 9 ≤ j → j ≤ 16 → D' j = D j := fun j q1 q2 => funext (fun k => hF j k ⟨q1, q2⟩)
  unfold SMD Yn
  rw [e 10 (by omega) (by omega), e 11 (by omega) (by omega), e 12 (by omega) (by omega), e 14 (by omega) (by omega), e 15 (by omega) (by omega), e 16 (by omega) (by omega), e 9 (by omega) (by omega), e 13 (by omega) (by omega)]
theorem LRN.fr (h : LRN D) (hF : ∀ j k, ((9 ≤ j ∧ j ≤ 12) ∨ (43 ≤ j ∧ j ≤ 261) ∨ CRF j k) → D' j k = D j k) : LRN D' := by
  obtain ⟨ts, b, ss, a, h⟩ := h
  have e : ∀ j, 9 ≤ j → j ≤ 12 → D' j = D j := fun j q1 q2 => funext (fun k => hF j k (Or.inl ⟨q1, q2⟩))
  refine ⟨ts, b, ss, a, ?_⟩
  have := h.one hF
  unfold Yn at this ⊢
  rw [e 10 (by omega) (by omega), e 11 (by omega) (by omega), e 12 (by omega) (by omega), e 9 (by omega) (by omega)]
  exact this
/-- the learner's part anew, all else kept -/
theorem Inv.lrn (h : Inv D) (hF : ∀ j k, KN j k → D' j k = D j k) (hL : LRN D') : Inv D' := by
  obtain ⟨⟨h0, h1⟩, h2, h3, h4, h5, -⟩ := h
  refine ⟨⟨h0.fr (by omega) (fun j k q => hF j k (by unfold KN; omega)), h1.fr (by omega) (fun j k q => hF j k (by unfold KN; omega))⟩, h2.fr (fun j k q => hF j k (by unfold KN; omega)), h3.fr (fun j k q => hF j k (by unfold KN; omega)), h4.fr (fun j k q => hF j k (by unfold KN; omega)), ?_, hL⟩
  rw [SMD_fr (fun j k q => hF j k (by unfold KN; omega))]
  exact CI_fr h5 (fun j k q => hF j k (by unfold KN; omega))
abbrev KS (j k : Nat) : Prop := KN j k ∨ (43 ≤ j ∧ j ≤ 261) ∨ CRF j k
theorem Inv.fr (h : Inv D) (hF : ∀ j k, KS j k → D' j k = D j k) : Inv D' :=
  h.lrn (fun j k q => hF j k (Or.inl q)) (h.2.2.2.2.2.fr (fun j k q => hF j k (by
    rcases q with q | q | q
    · exact Or.inl (Or.inr (Or.inr (Or.inr (Or.inl ⟨q.1, by omega⟩))))
    · exact Or.inr (Or.inl q)
    · exact Or.inr (Or.inr q))))
end
