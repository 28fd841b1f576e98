/-! ===== the class tries its hypothesis: what it takes, the search ===== -/
def ahN (g : Nat → Bool) : Nat → Nat
  | 0 => 0
  | n + 1 => ahN g n + if g n = true then 2 ^ n else 0
theorem ahN_lt {g : Nat → Bool} : ∀ n, ahN g n < 2 ^ n
  | 0 => by simp [ahN]
  | n + 1 => by
    have := ahN_lt (g := g) n
    have e : 2 ^ (n + 1) = 2 ^ n + 2 ^ n := by rw [Nat.pow_succ]; omega
    unfold ahN
    rw [e]
    split <;> omega
theorem ahN_bit {g : Nat → Bool} {u : Nat} : ∀ {n}, u < n → (ahN g n).testBit u = g u
  | 0, h => absurd h (Nat.not_lt_zero u)
  | n + 1, h => by
    have hl := ahN_lt (g := g) n
    unfold ahN
    by_cases e : u = n
    · subst e
      cases hg : g u with
      | true =>
        rw [if_pos rfl, Nat.add_comm, Nat.testBit_two_pow_add_eq, Nat.testBit_lt_two_pow hl]; rfl
      | false => rw [if_neg (by decide), Nat.add_zero, Nat.testBit_lt_two_pow hl]
    · have hu : u < n := by omega
      have ih := ahN_bit (g := g) hu
      cases hg : g n with
      | true => rw [if_pos rfl, Nat.add_comm, Nat.testBit_two_pow_add_gt hu]; exact ih
      | false => rw [if_neg (by decide), Nat.add_zero]; exact ih
theorem tk_bit : ∀ A, A < 1024 → ∀ u, u < 10 → decide (¬ ((nI A >>> (nI u &&& 31)) &&& 1) = 0) = A.testBit u := by decide +kernel
theorem or_bit : ∀ u, u < 10 → ∀ A, A < 2 ^ u → (nI A ||| (1 <<< (nI u &&& 31))) = nI (A + 2 ^ u) := by decide +kernel
section
variable {D0 : Dm} {T : Tb} {acc : Int32} {ts ss : Tst} {b a Z : Nat}
def gdS (T : Tb) (acc : Int32) (ss : Tst) (u : Nat) : Bool := tk acc (cu T ss u)
theorem AHB_ok (ha : a ≤ 10) : AHB (nI (ahN (gdS T acc ss) a)) T acc ss a := by
  intro u hu r
  have hl : ahN (gdS T acc ss) a < 1024 := Nat.lt_of_lt_of_le (ahN_lt a) (Nat.pow_le_pow_right (by omega) ha)
  show (decide (¬ nI u = -1) && decide (¬ ((nI (ahN (gdS T acc ss) a) >>> (nI u &&& 31)) &&& 1) = 0)) = _
  rw [tk_bit _ hl u (by omega), ahN_bit hu, decide_eq_true (nI_n1 (by omega)), Bool.true_and]
  rfl
/-- what the class does after it marked what it takes -/
def thEnd (D : Dm) : Option Dm := bI (f_X8_find_h (D 9 2) 60 D) fun y4 D2 => if y4 = 0 then (some D2) else (lt (ud D2 43 13 3) fun D6 => bI (f_X3_takesMixed 0 D6) fun y10 D8 => f_X3_tryHypothesis_85 FU y10 0 D8)
theorem th2 (h : LCs D0 T acc ts b ss a) (hP : PS D0 T acc ts b ss a) {Q : Dm → Prop} (hk : ∀ D, Fr (fun j k => j = 56 ∧ k = 3) D0 D → D 56 3 = nI (ahN (gdS T acc ss) a) → Y (thEnd D) Q) : ∀ (j i m : Nat) (D : Dm), i + j = a → Fr (fun j k => j = 56 ∧ k = 3) D0 D → D 56 3 = nI (ahN (gdS T acc ss) i) → Y (f_X3_tryHypothesis_2 (j + 1 + m) (nI i) D) Q := by
  have ha := h.2.2.1
  intro j
  induction j with
  | zero =>
    intro i m D hi hF hA
    have hi : i = a := by omega
    rw [show 0 + 1 + m = m + 1 by omega]
    show Y (f_X3_tryHypothesis_2_b _ _ _) _
    unfold f_X3_tryHypothesis_2_b
    rw [hi] at hA ⊢
    rw [hF 43 4 (by omega), h.2.2.2.1]
    exact yPos (nI_le (Nat.le_refl _) (by omega)) (hk D hF hA)
  | succ j ih =>
    intro i m D hi hF hA
    have hD : LCs D T acc ts b ss a := h.fr (fun j k q => hF j k (by omega))
    have hPD : PS D T acc ts b ss a := hP.fr ha.2 (fun j k q1 q2 q3 => hF j k (by omega))
    rw [show j + 1 + 1 + m = (j + 1 + m) + 1 by omega]
    show Y (f_X3_tryHypothesis_2_b _ _ _) _
    unfold f_X3_tryHypothesis_2_b f_X3_tryHypothesis_37
    rw [hD.2.2.2.1]
    refine yNeg (nI_nle2 (by omega) (by omega)) (yGd (inB_nI (by omega) (by omega)) ?_)
    rw [nI_clamp (by omega), ar45 i (by omega), hD.1.takes, bI_d, (hPD i (by omega)).h.1]
    simp only [lt_d, nI_1]
    cases hg : tk acc (cu T ss i) with
    | false =>
      refine yPos rfl (ih (i + 1) m D (by omega) hF ?_)
      rw [hA]
      show _ = nI (ahN (gdS T acc ss) i + if tk acc (cu T ss i) = true then 2 ^ i else 0)
      rw [hg, if_neg (by decide), Nat.add_zero]
    | true =>
      refine yNeg (by decide) ?_
      unfold f_X2_takeAt
      rw [lt_d, bV_d, hA, or_bit i (by omega) _ (ahN_lt i)]
      refine ih (i + 1) m _ (by omega) (hF.ud (by omega)) ?_
      rw [ud_at, if_pos ⟨rfl, rfl⟩]
      show _ = nI (ahN (gdS T acc ss) i + if tk acc (cu T ss i) = true then 2 ^ i else 0)
      rw [hg, if_pos rfl]
/-- the class seeks a wrong answer of the hypothesis -/
theorem cfind_h {E : Dm} (h : LCs D0 T acc ts b ss a) (hS : SR E ss a) (hA : ALL T acc ts b ss a Z) (hB : TBL D0 T acc ts b ss a Z (fun _ _ _ => True)) (hZ : Z ≤ 2) (h0 : (ss 0).1 = []) {AH : Int32} (hAH : D0 56 3 = AH) : Y (f_X8_find_h (nI Z) 60 D0) (fun r => fnd D0 r.2 60 (SH T acc D0 AH Z) r.1 ∧ okN (GH (kaN T acc ts b ss) a) (SH T acc D0 AH Z).1) := by
  have ha := hS.1
  have hT := h.1.wfT
  have hFx : ∀ j k, ¬ (j = 60 ∧ (k = 3 ∨ k = 4)) → ud (ud D0 60 3 0) 60 4 0 j k = D0 j k := fun j k q => by
    rw [ud_at, if_neg (by omega), ud_at, if_neg (by omega)]
  have hM : MC (ud (ud D0 60 3 0) 60 4 0) T acc := h.1.fr (fun j k q1 q2 => hFx j k (by omega))
  exact find_h_ok (G := GH (kaN T acc ts b ss) a) (T := T) (acc := acc) (sB := hst (hyp D0)) (tB := tk AH) (Z := Z) hM (w := 60) (by omega)
    (fun D A B n y nm hF hG hb hy => by
      obtain ⟨-, ⟨u, hu, hc, -⟩, -⟩ := hG
      have eh : hyp D = hyp D0 := by
        unfold hyp
        have e : ∀ j, 57 ≤ j → j ≤ 59 → D j = D0 j := fun j q1 q2 => funext (fun k => by rw [hF j k (by unfold SG; omega), hFx j k (by omega)])
        rw [e 57 (by omega) (by omega), e 58 (by omega) (by omega), e 59 (by omega) (by omega)]
      have := adv_h (D := D) (g := 38) (y := y) (nm := nm) (Or.inr ⟨u, by omega, by rw [← hc, ← hb]; rfl⟩) hy (Or.inr (by omega))
      rw [eh, hb] at this
      exact this)
    (fun D hF => by
      have := tak_h (D := D) (g := 38)
      rw [hF 56 3 (by unfold SG; omega), hFx 56 3 (by omega), hAH] at this
      exact this)
    (GH_cl hS hT hZ hA hB) hZ (GH_P ha.2) GH_C (fun N hN => GH_room hS hT N hN) (GH_0 ha.1 h0) rfl
end
