/-! ===== accept, move, machine, word, feed ===== -/
section
variable {D D' X Dc Y : Dm}
theorem RM_X {m : Nat} (h : RM2 Dc Y m) (hm : m < 2) (hX : ∀ j k, X j k = if j ≤ 280 then Dc j k else Y j k) : RM X m := by
  obtain ⟨h1, h2, h3, h4, h5, h6⟩ := h
  have e : ∀ j, j ≤ 280 → X j = Dc j := fun j q => funext (fun k => by rw [hX, if_pos q])
  have e2 : X 282 = Y 282 := funext (fun k => by rw [hX, if_neg (by omega)])
  unfold rTo rKe rDr at h6
  unfold RM rTo rKe rDr
  rw [e (9 + 4 * m) (by omega), e (9 + 4 * m + 1) (by omega), e (9 + 4 * m + 2) (by omega), e (9 + 4 * m + 3) (by omega), e2]
  exact ⟨h1, h2, h3, h4, h5, h6⟩
theorem inv_ch3 {x1 : Int32} {m : Nat} (h : Inv D) (hm : isMc x1 m) (hX : ∀ j k, X j k = if j ≤ 280 then Dc j k else Y j k) (hDc : ∀ j k, j ≤ 280 → ¬ SCA j k → ¬ (9 + 4 * m ≤ j ∧ j ≤ 9 + 4 * m + 3) → Dc j k = D j k) (hYr : ∀ j k, 281 ≤ j → ¬ SRA j k → ¬ (j = 282 ∧ (94 * m ≤ k ∧ k < 94 * m + 94)) → Y j k = D j k) (hY : ∀ j k, j ≤ 280 → Y j k = chC x1 Dc j k) (hR : RM2 Dc Y m) (hT : TPE X) (hFl : FLT X) : Inv (chR x1 Y) := by
  have hm2 : m < 2 := by rcases hm with ⟨-, rfl⟩ | ⟨-, rfl⟩ <;> omega
  have ex : ∀ j k, ¬ SCA j k → ¬ (9 + 4 * m ≤ j ∧ j ≤ 9 + 4 * m + 3) → ¬ SRA j k → ¬ (j = 282 ∧ (94 * m ≤ k ∧ k < 94 * m + 94)) → X j k = D j k := fun j k q1 q2 q3 q4 => by
    rw [hX]
    by_cases c : j ≤ 280
    · rw [if_pos c, hDc j k c q1 q2]
    · rw [if_neg c, hYr j k (by omega) q3 q4]
  have rm : RM X m := RM_X hR hm2 hX
  have ro : ∀ m', m' < 2 → m' ≠ m → RM D m' → RM X m' := fun m' q1 q2 q3 => q3.f1 (fun j k z1 z2 => ex j k (by unfold SCA; omega) (by omega) (by unfold SRA; omega) (by omega)) (fun k z1 z2 => ex _ _ (by unfold SCA; omega) (by omega) (by unfold SRA; omega) (by omega))
  have r0 : RM X 0 := by
    by_cases e : m = 0
    · rw [e] at rm; exact rm
    · exact ro 0 (by omega) (by omega) h.1.1
  have r1 : RM X 1 := by
    by_cases e : m = 1
    · rw [e] at rm; exact rm
    · exact ro 1 (by omega) (by omega) h.1.2
  refine inv_ch2 hm hX hY r0 r1 (h.2.1.fr (fun j k q => ex j k (by unfold SCA; omega) (by omega) (by unfold SRA; omega) (by omega))) hT hFl (h.emp.fr (fun j k q => ex j k (by unfold SCA; omega) (by omega) (by unfold SRA; omega) (by omega))) (fun e => ?_)
  subst e
  exact h.2.2.2.2.2.fr (fun j k q => by
    unfold CRF at q
    exact ex j k (by unfold SCA; omega) (by omega) (by unfold SRA; omega) (by omega))
theorem glue (A B : Dm) : ∃ X : Dm, ∀ j k, X j k = if j ≤ 280 then A j k else B j k := ⟨fun j k => if j ≤ 280 then A j k else B j k, fun _ _ => rfl⟩
theorem s_accept : St_accept Inv := fun D h x1 x2 x3 => by
  rcases accept_eq h.1.1 h.1.2 x1 x2 x3 with ⟨r, e1, e2⟩ | ⟨r, m, v, hm, hv, e1, e2⟩
  · exact ⟨r, D, _, e1, e2 D (fun _ => rfl), h.z⟩
  · have hm2 : m < 2 := by rcases hm with ⟨-, rfl⟩ | ⟨-, rfl⟩ <;> omega
    have hR : RM D m := by rcases hm with ⟨-, rfl⟩ | ⟨-, rfl⟩; exact h.1.1; exact h.1.2
    refine ⟨r, _, _, e1, e2 _ (fun k => by rw [chC_at (by omega) (by omega) (by omega), ud_at, if_neg (by omega)]), ?_⟩
    obtain ⟨X, hX⟩ := glue (ud D (9 + 4 * m) 3 v) (ud (ud (chC x1 (ud D (9 + 4 * m) 3 v)) 281 0 0) 282 (94 * m + 3) v)
    have eY : ∀ j k, 281 ≤ j → ¬ (j = 281 ∧ k = 0) → ¬ (j = 282 ∧ k = 94 * m + 3) → (ud (ud (chC x1 (ud D (9 + 4 * m) 3 v)) 281 0 0) 282 (94 * m + 3) v) j k = D j k := fun j k q1 q2 q3 => by
      rw [ud_at, if_neg q3, ud_at, if_neg q2, chC_at (by omega) (by omega) (by omega), ud_at, if_neg (by omega)]
    have eC : ∀ j k, ¬ (j = 9 + 4 * m ∧ k = 3) → (ud D (9 + 4 * m) 3 v) j k = D j k := fun j k q => by rw [ud_at, if_neg q]
    have ex : ∀ j k, ¬ (j = 9 + 4 * m ∧ k = 3) → ¬ (j = 281 ∧ k = 0) → ¬ (j = 282 ∧ k = 94 * m + 3) → X j k = D j k := fun j k q1 q2 q3 => by
      rw [hX]
      by_cases c : j ≤ 280
      · rw [if_pos c, eC j k q1]
      · rw [if_neg c, eY j k (by omega) q2 q3]
    refine inv_ch3 h hm hX (fun j k q1 q2 q3 => eC j k (by omega)) (fun j k q1 q2 q3 => eY j k q1 (by unfold SRA at q2; omega) (by omega)) (fun j k q => by rw [ud_at, if_neg (by omega), ud_at, if_neg (by omega)]) ?_ (h.2.2.1.fr (fun j k q => ex j k (by omega) (by omega) (by omega))) (h.2.2.2.1.fr (fun j k q => ex j k (by omega) (by omega) (by omega)))
    obtain ⟨⟨w1, w2, w3, -, w5⟩, g2, g3, g4, g5, g6⟩ := hR
    have d1 : (ud D (9 + 4 * m) 3 v) (9 + 4 * m + 1) = D (9 + 4 * m + 1) := funext (fun k => eC _ k (by omega))
    have d2 : (ud D (9 + 4 * m) 3 v) (9 + 4 * m + 2) = D (9 + 4 * m + 2) := funext (fun k => eC _ k (by omega))
    have d3 : (ud D (9 + 4 * m) 3 v) (9 + 4 * m + 3) = D (9 + 4 * m + 3) := funext (fun k => eC _ k (by omega))
    unfold rTo rKe rDr at g6
    unfold RM2 rTo rKe rDr
    rw [d1, d2, d3, eC (9 + 4 * m) 0 (by omega), eC (9 + 4 * m) 1 (by omega), eC (9 + 4 * m) 2 (by omega), show (ud D (9 + 4 * m) 3 v) (9 + 4 * m) 3 = v by rw [ud_at, if_pos ⟨rfl, rfl⟩]]
    refine ⟨⟨w1, w2, w3, hv, w5⟩, by rw [eY _ _ (by omega) (by omega) (by omega)]; exact g2, by rw [eY _ _ (by omega) (by omega) (by omega)]; exact g3, by rw [eY _ _ (by omega) (by omega) (by omega)]; exact g4, by rw [ud_at, if_pos ⟨rfl, rfl⟩], fun k hk => ?_⟩
    rw [eY _ _ (by omega) (by omega) (by omega), eY _ _ (by omega) (by omega) (by omega), eY _ _ (by omega) (by omega) (by omega)]
    exact g6 k hk
theorem s_move : St_move Inv := fun D h x1 x2 x3 x4 x5 x6 x7 => by
  rcases move_eq h.1.1 h.1.2 x1 x2 x3 x4 x5 x6 x7 with ⟨r, e1, e2⟩ | ⟨r, m, i, t, ke, dr, hm, hi, hok, e1, e2⟩
  · exact ⟨r, D, _, e1, e2 D (fun _ => rfl), h.z⟩
  · have hm2 : m < 2 := by rcases hm with ⟨-, rfl⟩ | ⟨-, rfl⟩ <;> omega
    have hR : RM D m := by rcases hm with ⟨-, rfl⟩ | ⟨-, rfl⟩; exact h.1.1; exact h.1.2
    have eC : ∀ j k, ¬ ((9 + 4 * m + 1 ≤ j ∧ j ≤ 9 + 4 * m + 3) ∧ k = i) → mvC D m i t ke dr j k = D j k := fun j k q => by
      unfold mvC
      rw [ud_at, if_neg (by omega), ud_at, if_neg (by omega), ud_at, if_neg (by omega)]
    refine ⟨r, _, _, e1, e2 _ (fun k => by rw [chC_at (by omega) (by omega) (by omega), eC _ _ (by omega)]), ?_⟩
    obtain ⟨X, hX⟩ := glue (mvC D m i t ke dr) (mvR (ud (chC x1 (mvC D m i t ke dr)) 281 0 0) m i t ke dr)
    have eM : ∀ (Z : Dm) j k, ¬ (j = 282 ∧ (94 * m + (4 + 3 * i) ≤ k ∧ k ≤ 94 * m + (4 + 3 * i) + 2)) → mvR Z m i t ke dr j k = Z j k := fun Z j k q => by
      unfold mvR
      rw [ud_at, if_neg (by omega), ud_at, if_neg (by omega), ud_at, if_neg (by omega)]
    have eY : ∀ j k, 281 ≤ j → ¬ (j = 281 ∧ k = 0) → ¬ (j = 282 ∧ (94 * m + (4 + 3 * i) ≤ k ∧ k ≤ 94 * m + (4 + 3 * i) + 2)) → mvR (ud (chC x1 (mvC D m i t ke dr)) 281 0 0) m i t ke dr j k = D j k := fun j k q1 q2 q3 => by
      rw [eM _ j k q3, ud_at, if_neg q2, chC_at (by omega) (by omega) (by omega), eC j k (by omega)]
    have ex : ∀ j k, ¬ (9 + 4 * m + 1 ≤ j ∧ j ≤ 9 + 4 * m + 3) → ¬ (j = 281 ∧ k = 0) → ¬ (j = 282) → X j k = D j k := fun j k q1 q2 q3 => by
      rw [hX]
      by_cases c : j ≤ 280
      · rw [if_pos c, eC j k (by omega)]
      · rw [if_neg c, eY j k (by omega) q2 (by omega)]
    refine inv_ch3 h hm hX (fun j k q1 q2 q3 => eC j k (by omega)) (fun j k q1 q2 q3 => eY j k q1 (by unfold SRA at q2; omega) (by omega)) (fun j k q => by rw [eM _ j k (by omega), ud_at, if_neg (by omega)]) ?_ (h.2.2.1.fr (fun j k q => ex j k (by omega) (by omega) (by omega))) (h.2.2.2.1.fr (fun j k q => ex j k (by omega) (by omega) (by omega)))
    obtain ⟨⟨w1, w2, w3, w4, w5⟩, g2, g3, g4, g5, g6⟩ := hR
    have p1 : ∀ k, mvC D m i t ke dr (9 + 4 * m + 1) k = if k = i then t else D (9 + 4 * m + 1) k := fun k => by
      unfold mvC
      rw [ud_at, if_neg (by omega), ud_at, if_neg (by omega), ud_at]
      by_cases e : k = i
      · rw [if_pos ⟨rfl, e⟩, if_pos e]
      · rw [if_neg (fun z => e z.2), if_neg e]
    have p2 : ∀ k, mvC D m i t ke dr (9 + 4 * m + 2) k = if k = i then ke else D (9 + 4 * m + 2) k := fun k => by
      unfold mvC
      rw [ud_at, if_neg (by omega), ud_at]
      by_cases e : k = i
      · rw [if_pos ⟨rfl, e⟩, if_pos e]
      · rw [if_neg (fun z => e z.2), if_neg e, ud_at, if_neg (by omega)]
    have p3 : ∀ k, mvC D m i t ke dr (9 + 4 * m + 3) k = if k = i then dr else D (9 + 4 * m + 3) k := fun k => by
      unfold mvC
      rw [ud_at]
      by_cases e : k = i
      · rw [if_pos ⟨rfl, e⟩, if_pos e]
      · rw [if_neg (fun z => e z.2), if_neg e, ud_at, if_neg (by omega), ud_at, if_neg (by omega)]
    unfold rTo rKe rDr at g6
    unfold RM2 rTo rKe rDr
    rw [eC (9 + 4 * m) 0 (by omega), eC (9 + 4 * m) 1 (by omega), eC (9 + 4 * m) 2 (by omega), eC (9 + 4 * m) 3 (by omega)]
    refine ⟨⟨w1, w2, w3, w4, fun k hk => ?_⟩, by rw [eY _ _ (by omega) (by omega) (by omega)]; exact g2, by rw [eY _ _ (by omega) (by omega) (by omega)]; exact g3, by rw [eY _ _ (by omega) (by omega) (by omega)]; exact g4, by rw [eY _ _ (by omega) (by omega) (by omega)]; exact g5, fun k hk => ?_⟩
    · rw [p1, p2, p3]
      by_cases e : k = i
      · rw [if_pos e, if_pos e, if_pos e, e]
        obtain ⟨o1, o2, o3, o4, o5, o6, o7⟩ := hok
        exact ⟨o1, o2, o3, o4, fun z1 z2 => absurd z2 (o5 z1), fun z => absurd z o6, fun z => absurd z o7⟩
      · rw [if_neg e, if_neg e, if_neg e]
        exact w5 k hk
    · rw [p1, p2, p3]
      by_cases e : k = i
      · rw [if_pos e, if_pos e, if_pos e, e]
        unfold mvR
        refine ⟨?_, ?_, ?_⟩
        · rw [ud_at, if_neg (by omega), ud_at, if_neg (by omega), ud_at, if_pos ⟨rfl, rfl⟩]
        · rw [ud_at, if_neg (by omega), ud_at, if_pos ⟨rfl, rfl⟩]
        · rw [ud_at, if_pos ⟨rfl, rfl⟩]
      · rw [if_neg e, if_neg e, if_neg e, eY _ _ (by omega) (by omega) (by omega), eY _ _ (by omega) (by omega) (by omega), eY _ _ (by omega) (by omega) (by omega)]
        exact g6 k hk
theorem TPR.e {E E' : Dm} {c : Nat → Nat} {n : Nat} (h : TPR D E c n) (hF : ∀ j k, ((j = 281 ∧ k = 7) ∨ j = 284) → E' j k = E j k) : TPR D E' c n :=
  ⟨h.1, h.2.1, by rw [hF _ _ (by omega)]; exact h.2.2.1, fun k hk => by rw [hF _ _ (by omega)]; exact h.2.2.2 k hk⟩
theorem MCQ_c {x1 : Int32} {E D' E' : Dm} (h : MCQ x1 D E D' E') : ∀ j k, 281 ≤ j → D' j k = D j k := fun j k q => by
  rcases h with ⟨rfl, -⟩ | ⟨F, -, -⟩ | ⟨m, Dc, Ec, hm, rfl, -, F, -⟩
  · rfl
  · exact F j k (by unfold SCA; omega)
  · have hm2 : m < 2 := by rcases hm with ⟨-, rfl⟩ | ⟨-, rfl⟩ <;> omega
    rw [chC_at (by omega) (by omega) (by omega), F j k (by unfold SCA; omega)]
theorem TPE_0 (h1 : D 1 1 = 0) (h7 : D 281 7 = 0) : TPE D := ⟨fun _ => 0, 0, by omega, by rw [h1, nI_0], by rw [h7, nI_0], fun k hk => absurd hk (Nat.not_lt_zero k)⟩
theorem s_machine : St_machine Inv := fun D h x1 x2 => by
  obtain ⟨c, n, hT⟩ := h.2.2.1
  obtain ⟨r, D1, E0, e1, -, q0⟩ := machine_j hT x1 x2
  have hc := MCQ_c q0
  obtain ⟨r', D1', D2, e1', e2, q⟩ := machine_j (hT.e (E' := D1) (fun j k z => hc j k (by omega))) x1 x2
  rw [e1] at e1'
  cases e1'
  refine ⟨r, D1, D2, e1, e2, ?_⟩
  rcases q with ⟨rfl, rfl⟩ | ⟨F, G, t1, t7, t6, t8⟩ | ⟨m, Dc, Ec, hm, rfl, rfl, F, G, ⟨t1, t7, t6, t8⟩, hR⟩
  · exact h.z
  · have e : ∀ j k, ¬ SCA j k → ¬ SRA j k → D2 j k = D j k := fun j k q1 q2 => by rw [G j k q2, F j k q1]
    have g : ∀ k, D2 1 k = D1 1 k := fun k => G _ _ (by unfold SRA; omega)
    obtain ⟨⟨a0, a1⟩, a2, -, -, a5, a6⟩ := h
    refine ⟨⟨a0.fr (by omega) (fun j k q => e j k (by unfold SCA; omega) (by unfold SRA; omega)), a1.fr (by omega) (fun j k q => e j k (by unfold SCA; omega) (by unfold SRA; omega))⟩, a2.fr (fun j k q => e j k (by unfold SCA; omega) (by unfold SRA; omega)), TPE_0 (by rw [g]; exact t1) t7, ⟨by rw [g]; exact t6, by rw [g]; exact t8⟩, ?_, a6.fr (fun j k q => e j k (by unfold CRF at q; unfold SCA; omega) (by unfold CRF at q; unfold SRA; omega))⟩
    rw [SMD_fr (fun j k q => e j k (by unfold SCA; omega) (by unfold SRA; omega))]
    exact CI_fr a5 (fun j k q => e j k (by unfold SCA; omega) (by unfold SRA; omega))
  · have hm2 : m < 2 := by rcases hm with ⟨-, rfl⟩ | ⟨-, rfl⟩ <;> omega
    obtain ⟨X, hX⟩ := glue Dc Ec
    refine inv_ch3 h hm hX (fun j k q1 q2 q3 => F j k (fun z => z.elim q2 q3)) (fun j k q1 q2 q3 => ?_) (fun j k q => ?_) hR ?_ ?_
    · rw [G j k (fun z => z.elim q2 q3), chC_at (by omega) (by omega) (by omega), F j k (by unfold SCA; omega)]
    · exact G j k (by unfold SRA; omega)
    · exact TPE_0 (by rw [hX, if_pos (by omega)]; exact t1) (by rw [hX, if_neg (by omega)]; exact t7)
    · unfold FLT
      rw [hX, hX, hX, hX, if_pos (by omega), if_neg (by omega), if_pos (by omega), if_neg (by omega)]
      exact ⟨t6, t8⟩
theorem WDQ_c {E D' E' : Dm} (h : WDQ D E D' E') : ∀ j k, 281 ≤ j → D' j k = D j k := fun j k q => by
  rcases h with ⟨rfl, -⟩ | ⟨F, -, -⟩ | ⟨n, -, F, -⟩
  · rfl
  · exact F j k (by unfold SCB; omega)
  · exact F j k (by unfold SCB; omega)
theorem s_word : St_word Inv := fun D h x1 => by
  obtain ⟨c, n, hT⟩ := h.2.2.1
  obtain ⟨r, D1, E0, e1, -, q0⟩ := word_j hT x1
  have hc := WDQ_c q0
  obtain ⟨r', D1', D2, e1', e2, q⟩ := word_j (hT.e (E' := D1) (fun j k z => hc j k (by omega))) x1
  rw [e1] at e1'
  cases e1'
  refine ⟨r, D1, D2, e1, e2, ?_⟩
  have fin : ∀ S S' : Nat → Nat → Prop, Fr S D D1 → Fr S' D1 D2 → (∀ j k, S j k → SCB j k ∨ (17 ≤ j ∧ j ≤ 20)) → (∀ j k, S' j k → SRB j k ∨ j = 285 ∨ j = 286 ∨ (j = 281 ∧ k = 18)) → TFL D1 D2 → WRD D2 → Inv D2 := fun S S' F G hS hS' ⟨t1, t7, t6, t8⟩ hW => by
    have e : ∀ j k, ¬ (SCB j k ∨ (17 ≤ j ∧ j ≤ 20)) → ¬ (SRB j k ∨ j = 285 ∨ j = 286 ∨ (j = 281 ∧ k = 18)) → D2 j k = D j k := fun j k q1 q2 => by rw [G j k (fun z => q2 (hS' j k z)), F j k (fun z => q1 (hS j k z))]
    have g : ∀ k, D2 1 k = D1 1 k := fun k => G _ _ (fun z => by have := hS' _ _ z; unfold SRB at this; omega)
    obtain ⟨⟨a0, a1⟩, -, -, -, a5, a6⟩ := h
    refine ⟨⟨a0.fr (by omega) (fun j k q => e j k (by unfold SCB; omega) (by unfold SRB; omega)), a1.fr (by omega) (fun j k q => e j k (by unfold SCB; omega) (by unfold SRB; omega))⟩, hW, TPE_0 (by rw [g]; exact t1) t7, ⟨by rw [g]; exact t6, by rw [g]; exact t8⟩, ?_, a6.fr (fun j k q => e j k (by unfold CRF at q; unfold SCB; omega) (by unfold CRF at q; unfold SRB; omega))⟩
    rw [SMD_fr (fun j k q => e j k (by unfold SCB; omega) (by unfold SRB; omega))]
    exact CI_fr a5 (fun j k q => e j k (by unfold SCB; omega) (by unfold SRB; omega))
  rcases q with ⟨rfl, rfl⟩ | ⟨F, G, t⟩ | ⟨i, hi, F, G, t, w1, w2, w3⟩
  · exact h.z
  · refine fin SCB SRB F G (fun j k z => Or.inl z) (fun j k z => Or.inl z) t (h.2.1.fr (fun j k q => ?_))
    rw [G j k (by unfold SRB; omega), F j k (by unfold SCB; omega)]
  · refine fin _ _ F G (fun j k z => z) (fun j k z => z) t ⟨i, ⟨hi, ?_, w2, fun k hk => ?_⟩, ?_⟩
    · rw [G 17 3 (by unfold SRB; omega)]; exact w1.2.1
    · rw [G 18 k (by unfold SRB; omega), G 19 k (by unfold SRB; omega)]; exact w3 k hk
    · exact isW_congr w1 (G _ _ (by unfold SRB; omega)) (G _ _ (by unfold SRB; omega)) (fun k _ => G _ _ (by unfold SRB; omega)) (fun k _ => G _ _ (by unfold SRB; omega))
theorem s_feed : St_feed Inv := fun D h x1 x2 x3 x4 x5 => by
  obtain ⟨c, n, hT⟩ := h.2.2.1
  obtain ⟨r, D1, E0, c0, n0, e1, -, F0, -, -⟩ := feed_j hT x1 x2 x3 x4 x5
  obtain ⟨r', D1', D2, c', n', e1', e2, F, G, hT2⟩ := feed_j (hT.e (E' := D1) (fun j k z => F0 j k (by omega))) x1 x2 x3 x4 x5
  rw [e1] at e1'
  cases e1'
  refine ⟨r, D1, D2, e1, e2, ?_⟩
  have e : ∀ j k, ¬ ((j = 1 ∧ k = 1) ∨ j = 2) → ¬ ((j = 281 ∧ (k = 0 ∨ k = 7)) ∨ j = 284) → D2 j k = D j k := fun j k q1 q2 => by rw [G j k q2, F j k q1]
  obtain ⟨⟨a0, a1⟩, a2, -, a4, a5, a6⟩ := h
  refine ⟨⟨a0.fr (by omega) (fun j k q => e j k (by omega) (by omega)), a1.fr (by omega) (fun j k q => e j k (by omega) (by omega))⟩, a2.fr (fun j k q => e j k (by omega) (by omega)), ⟨c', n', hT2.1, by rw [G _ _ (by omega)]; exact hT2.2.1, hT2.2.2.1, fun k hk => by rw [G 2 k (by omega)]; exact hT2.2.2.2 k hk⟩, a4.fr (fun j k q => e j k (by omega) (by omega)), ?_, a6.fr (fun j k q => e j k (by unfold CRF at q; omega) (by unfold CRF at q; omega))⟩
  rw [SMD_fr (fun j k q => e j k (by omega) (by omega))]
  exact CI_fr a5 (fun j k q => e j k (by omega) (by omega))
theorem step_all : StepOK Inv := ⟨s_feed, s_machine, s_word, s_fault, s_accept, s_move, s_of, s_moved, s_ask, s_behind, s_many, s_share, s_differ, s_differs, s_couples, s_letter, s_remembered, s_alike, s_begin, s_step, s_learn, s_brief, s_test, s_registers, s_goes, s_stands, s_guess, s_guessed, s_refutes, s_splits, s_spare, s_count⟩
end
