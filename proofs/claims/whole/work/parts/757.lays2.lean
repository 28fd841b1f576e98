/-! ===== the reference lays: the loops ===== -/
def bInj (l : List Nat) : Bool := (List.range 3).all (fun i => (List.range 3).all (fun j => !(decide (i < l.length) && decide (j < l.length) && decide (l.getD i 0 = l.getD j 0)) || decide (i = j)))
theorem hss_inj0 : ∀ M, M < 5 → ∀ l ∈ hss M, bInj l = true := by decide +kernel
theorem hss_inj (M : Nat) (hM : M < 5) (l : List Nat) (hl : l ∈ hss M) (i : Nat) (hi : i < 3) (j : Nat) (hj : j < 3) (h : i < l.length ∧ j < l.length ∧ l.getD i 0 = l.getD j 0) : i = j := by
  have q := hss_inj0 M hM l hl
  unfold bInj at q
  rw [List.all_eq_true] at q
  have q := q i (List.mem_range.mpr hi)
  rw [List.all_eq_true] at q
  have q := q j (List.mem_range.mpr hj)
  rw [decide_eq_true h.1, decide_eq_true h.2.1, decide_eq_true h.2.2] at q
  exact of_decide_eq_true q
section
variable {D0 : Dm} {T : Tb} {acc : Int32} {ts ss : Tst} {b a Z : Nat}
theorem kcr {D : Dm} (h : SR D ss a) (hT : wfT T) {u : Nat} (hu : u < a) : (ss u).2 ≤ 3 ∧ kpN T acc ts b (cu T ss u) ∈ hss (ss u).2 ∧ (kpN T acc ts b (cu T ss u)).length ≤ 2 := by
  have hd := (h.sy hu).1
  have k := kpN_in (T := T) (acc := acc) (ts := ts) (b := b) (show (ss u).2 < 5 by omega) (h.cu hT hu).2
  exact ⟨hd, k, (hss_in _ (show (ss u).2 < 5 by omega) _ k).1⟩
theorem nmi_inj {D : Dm} (h : SR D ss a) (hT : wfT T) {u i i' : Nat} (hu : u < a) (h1 : i ≤ (kpN T acc ts b (cu T ss u)).length) (h2 : i' ≤ (kpN T acc ts b (cu T ss u)).length) (e : nmi T acc ts b ss u i = nmi T acc ts b ss u i') : i = i' := by
  obtain ⟨hd, k, kl⟩ := kcr (acc := acc) (ts := ts) (b := b) h hT hu
  have lt := hss_lt1 _ (show (ss u).2 < 5 by omega) _ k
  unfold nmi at e
  by_cases c1 : i < (kpN T acc ts b (cu T ss u)).length
  · have l1 := lt (i + 1) (by omega) (by omega)
    rw [Nat.add_sub_cancel] at l1
    rw [if_pos c1] at e
    by_cases c2 : i' < (kpN T acc ts b (cu T ss u)).length
    · rw [if_pos c2] at e
      exact hss_inj _ (show (ss u).2 < 5 by omega) _ k i (by omega) i' (by omega) ⟨c1, c2, e⟩
    · rw [if_neg c2] at e; omega
  · rw [if_neg c1] at e
    by_cases c2 : i' < (kpN T acc ts b (cu T ss u)).length
    · have l1 := lt (i' + 1) (by omega) (by omega)
      rw [Nat.add_sub_cancel] at l1
      rw [if_pos c2] at e; omega
    · omega
theorem atn_inj {D : Dm} (h : SR D ss a) (hT : wfT T) {u y i u' y' i' : Nat} (hZ : Z ≤ 2) (h1 : vld T acc ts b ss a Z u y i) (h2 : vld T acc ts b ss a Z u' y' i') (e : atn T acc ts b ss u y i = atn T acc ts b ss u' y' i') : u = u' ∧ y = y' ∧ i = i' := by
  have n1 := nmi_le2 (acc := acc) (ts := ts) (b := b) (T := T) h hT (i := i) h1.1
  have n2 := nmi_le2 (acc := acc) (ts := ts) (b := b) (T := T) h hT (i := i') h2.1
  have d1 := (h.sy h1.1).1
  have d2 := (h.sy h2.1).1
  obtain ⟨a1, a2, a3⟩ := h1
  obtain ⟨b1, b2, b3⟩ := h2
  unfold atn at e
  have eu : u = u' := by omega
  have ey : y = y' := by omega
  subst eu; subst ey
  exact ⟨rfl, rfl, nmi_inj h hT a1 a3 b3 (by omega)⟩
/-- the first pass so far: nothing is forgotten -/
def F1 (D0 D : Dm) (T : Tb) (acc : Int32) (ts : Tst) (b : Nat) (ss : Tst) (a Z u y i : Nat) : Prop := RS D T acc ts b ss a ∧ Fr SLY D0 D ∧ ∀ u' y' i', vld T acc ts b ss a Z u' y' i' → erl u' y' i' u y i → fgO T acc ts b ss u' y' i' = none ∧ D 298 (atn T acc ts b ss u' y' i') = nI b ∧ D 296 u' = nI b
/-- a name is forgotten -/
def O1 (D0 D : Dm) (T : Tb) (acc : Int32) (ts : Tst) (b : Nat) (ss : Tst) (a Z : Nat) : Prop := RS D T acc ts b ss a ∧ Fr SLY D0 D ∧ ∃ u y i e, vld T acc ts b ss a Z u y i ∧ fgO T acc ts b ss u y i = some e ∧ (∀ u' y' i', vld T acc ts b ss a Z u' y' i' → erl u' y' i' u y i → fgO T acc ts b ss u' y' i' = none) ∧ D 281 56 = nI u ∧ D 281 57 = nI y ∧ D 281 58 = nI (nmi T acc ts b ss u i) ∧ D 281 59 = nI ((hsN (clo T acc ts b ss u y i)).getD e 0)
theorem F1.sx {D D' : Dm} {u y i : Nat} (h : F1 D0 D T acc ts b ss a Z u y i) (hR : RS D' T acc ts b ss a) (hF : Fr SLY D D') (hk : ∀ u' y' i', vld T acc ts b ss a Z u' y' i' → erl u' y' i' u y i → D' 298 (atn T acc ts b ss u' y' i') = D 298 (atn T acc ts b ss u' y' i')) (hb : ∀ k, D 296 k = nI b → D' 296 k = nI b) : F1 D0 D' T acc ts b ss a Z u y i :=
  ⟨hR, h.2.1.tr hF, fun u' y' i' h1 h2 => ⟨(h.2.2 u' y' i' h1 h2).1, by rw [hk _ _ _ h1 h2]; exact (h.2.2 u' y' i' h1 h2).2.1, hb _ (h.2.2 u' y' i' h1 h2).2.2⟩⟩
theorem erl_y {u' y' i' u y : Nat} (h1 : vld T acc ts b ss a Z u' y' i') (h2 : erl u' y' i' u (y + 1) 0) : erl u' y' i' u y ((kpN T acc ts b (cu T ss u)).length + 1) := by
  unfold erl at h2 ⊢
  obtain ⟨-, -, h3⟩ := h1
  by_cases eu : u' = u
  · subst eu; omega
  · omega
theorem erl_u {u' y' i' u : Nat} (h1 : vld T acc ts b ss a Z u' y' i') (h2 : erl u' y' i' (u + 1) 0 0) : erl u' y' i' u Z 0 := by
  unfold erl at h2 ⊢
  obtain ⟨-, h3, -⟩ := h1
  omega
theorem sxLY {D D' : Dm} (h : Fr SXC D D') : Fr SLY D D' := h.mono (fun j k q => Or.inl q)
theorem ly52 (hZ : Z ≤ 2) {k30 : Int32 → Dm → Option Dm} {k40 : Int32 → Int32 → Dm → Option Dm} {Q : Dm → Prop} {u y : Nat} (hu : u < a) (hy : y < Z)
    (hk : ∀ D, F1 D0 D T acc ts b ss a Z u (y + 1) 0 → Y (k40 (nI u) (nI (y + 1)) D) Q) (hO : ∀ D, O1 D0 D T acc ts b ss a Z → Q D) : ∀ (j i m : Nat) (D : Dm), i + j = (kpN T acc ts b (cu T ss u)).length + 1 → F1 D0 D T acc ts b ss a Z u y i → Y (f_X12_lays_52 k30 k40 (j + 1 + m) (nI u) (nI y) (nI i) D) Q := by
  intro j
  induction j with
  | zero =>
    intro i m D hi hD
    have hR := hD.1
    have ha := hR.2.2.1.1
    obtain ⟨hd, k2, kl⟩ := kcr (T := T) (acc := acc) (ts := ts) (b := b) hR.2.2.1 hR.1.1 hu
    have hi : i = (kpN T acc ts b (cu T ss u)).length + 1 := by omega
    rw [show 0 + 1 + m = m + 1 by omega]
    show Y (f_X12_lays_52_b _ _ _ _ _ _ _) _
    unfold f_X12_lays_52_b
    refine yBI (hasShort_ok hR hu) (fun r D1 h1 => ?_)
    dsimp only at h1
    obtain ⟨er, hR1, hF1, h296, hk1⟩ := h1
    have hD1 := hD.sx hR1 (sxLY hF1) (fun _ _ _ _ _ => hk1 _ _ (Or.inr (Or.inl rfl))) (fun k q => (hk1 296 k (Or.inr (Or.inr (Or.inr (Or.inr (Or.inr ⟨rfl, q⟩)))))).trans q)
    rw [er, bits_l (show (ss u).2 < 5 by omega) k2, bI_d, lt_d, nI_1]
    refine yPos (by rw [hi]; exact nI_lt (by omega) (by omega)) (hk D1 ⟨hD1.1, hD1.2.1, fun u' y' i' q1 q2 => hD1.2.2 u' y' i' q1 (by rw [hi]; exact erl_y q1 q2)⟩)
  | succ j ih =>
    intro i m D hi hD
    have hR := hD.1
    have ha := hR.2.2.1.1
    obtain ⟨hd, k2, kl⟩ := kcr (T := T) (acc := acc) (ts := ts) (b := b) hR.2.2.1 hR.1.1 hu
    rw [show j + 1 + 1 + m = (j + 1 + m) + 1 by omega]
    show Y (f_X12_lays_52_b _ _ _ _ _ _ _) _
    unfold f_X12_lays_52_b
    refine yBI (hasShort_ok hR hu) (fun r D1 h1 => ?_)
    dsimp only at h1
    obtain ⟨er, hR1, hF1, h296, hk1⟩ := h1
    have hD1 := hD.sx hR1 (sxLY hF1) (fun _ _ _ _ _ => hk1 _ _ (Or.inr (Or.inl rfl))) (fun k q => (hk1 296 k (Or.inr (Or.inr (Or.inr (Or.inr (Or.inr ⟨rfl, q⟩)))))).trans q)
    rw [er, bits_l (show (ss u).2 < 5 by omega) k2, bI_d]
    refine yNeg (nI_nlt (by omega) (by omega)) ?_
    have hv : vld T acc ts b ss a Z u y i := ⟨hu, hy, by omega⟩
    refine yBI (longName_ok hR1 hu hv.2.2) (fun r2 D2 h2 => ?_)
    dsimp only at h2
    obtain ⟨er2, hR2, hF2, -, hk2⟩ := h2
    have hD2 := hD1.sx hR2 (sxLY hF2) (fun _ _ _ _ _ => hk2 _ _ (Or.inr (Or.inl rfl))) (fun k q => (hk2 296 k (Or.inr (Or.inr ⟨rfl, q⟩))).trans q)
    rw [er2]
    refine yBI (forgets_ok hR2 (i := i) hu (show y < 2 by omega)) (fun r3 D3 h3 => ?_)
    dsimp only at h3
    obtain ⟨er3, hR3, hF3, v296, v298, o298, o296, -, p56, p57, p58, p59⟩ := h3
    have hD3 : F1 D0 D3 T acc ts b ss a Z u y i := hD2.sx hR3 hF3 (fun u' y' i' q1 q2 => o298 _ (fun e => by
      obtain ⟨rfl, rfl, rfl⟩ := atn_inj hR.2.2.1 hR.1.1 hZ q1 hv e
      unfold erl at q2; omega)) o296
    rw [er3]
    cases hf : fgO T acc ts b ss u y i with
    | none =>
      refine yPos rfl ?_
      rw [lt_d, nI_1]
      exact ih (i + 1) m D3 (by omega) ⟨hR3, hD3.2.1, fun u' y' i' q1 q2 => by
        rcases erl_next.mp q2 with q | ⟨rfl, rfl, rfl⟩
        · exact hD3.2.2 _ _ _ q1 q
        · exact ⟨hf, v298, v296⟩⟩
    | some e =>
      refine yNeg (by show ¬ ((1 : Int32) = 0); decide) (yRet (hO D3 ⟨hR3, hD3.2.1, u, y, i, e, hv, hf, fun u' y' i' q1 q2 => (hD3.2.2 _ _ _ q1 q2).1, p56, p57, p58, p59 e hf⟩))
theorem ly40 (hZ : Z ≤ 2) (hY : D0 282 2 = nI Z) {k30 : Int32 → Dm → Option Dm} {Q : Dm → Prop} {u : Nat} (hu : u < a)
    (hk : ∀ D, F1 D0 D T acc ts b ss a Z (u + 1) 0 0 → Y (k30 (nI (u + 1)) D) Q) (hO : ∀ D, O1 D0 D T acc ts b ss a Z → Q D) : ∀ (j y m : Nat) (D : Dm), y + j = Z → F1 D0 D T acc ts b ss a Z u y 0 → Y (f_X12_lays_40 k30 (j + 1 + m) (nI u) (nI y) D) Q := by
  intro j
  induction j with
  | zero =>
    intro y m D hy hD
    have hy : y = Z := by omega
    have iY : f_X12_its 0 2 D = some (nI Z, D) := by rw [its_ok (k := 2) (q := 2) mc0 rfl (by omega), show D 282 (94 * 0 + 2) = nI Z by rw [hD.2.1 282 (94 * 0 + 2) (by unfold SLY SXC; omega)]; exact hY]
    rw [show 0 + 1 + m = m + 1 by omega]
    show Y (f_X12_lays_40_b _ _ _ _ _) _
    unfold f_X12_lays_40_b
    rw [iY, bI_d, lt_d, nI_1]
    refine yPos (by rw [hy]; exact nI_le (Nat.le_refl _) (by omega)) (hk D ⟨hD.1, hD.2.1, fun u' y' i' q1 q2 => hD.2.2 u' y' i' q1 (by rw [hy]; exact erl_u q1 q2)⟩)
  | succ j ih =>
    intro y m D hy hD
    have hR := hD.1
    obtain ⟨hd, k2, kl⟩ := kcr (T := T) (acc := acc) (ts := ts) (b := b) hR.2.2.1 hR.1.1 hu
    have iY : f_X12_its 0 2 D = some (nI Z, D) := by rw [its_ok (k := 2) (q := 2) mc0 rfl (by omega), show D 282 (94 * 0 + 2) = nI Z by rw [hD.2.1 282 (94 * 0 + 2) (by unfold SLY SXC; omega)]; exact hY]
    rw [show j + 1 + 1 + m = (j + 1 + m) + 1 by omega]
    show Y (f_X12_lays_40_b _ _ _ _ _) _
    unfold f_X12_lays_40_b
    rw [iY, bI_d]
    refine yNeg (nI_nle2 (by omega) (by omega)) ?_
    obtain ⟨z, hz⟩ := FUs ((kpN T acc ts b (cu T ss u)).length + 1) (by omega)
    have := ly52 (k30 := k30) (k40 := f_X12_lays_40 k30 (j + 1 + m)) (Q := Q) hZ hu (show y < Z by omega) (fun D1 h1 => ih (y + 1) m D1 (by omega) h1) hO ((kpN T acc ts b (cu T ss u)).length + 1) 0 z D (by omega) hD
    rw [nI_0] at this
    rw [hz]
    exact this
theorem ly30 (hZ : Z ≤ 2) (hY : D0 282 2 = nI Z) {Q : Dm → Prop}
    (hk : ∀ D, F1 D0 D T acc ts b ss a Z a 0 0 → Y (f_X12_lays_105 FU 0 (ud D 281 55 2)) Q) (hO : ∀ D, O1 D0 D T acc ts b ss a Z → Q D) : ∀ (j u m : Nat) (D : Dm), u + j = a → F1 D0 D T acc ts b ss a Z u 0 0 → Y (f_X12_lays_30 (j + 1 + m) (nI u) D) Q := by
  intro j
  induction j with
  | zero =>
    intro u m D hu hD
    have ha := hD.1.2.2.1.1
    have hu : u = a := by omega
    rw [show 0 + 1 + m = m + 1 by omega]
    show Y (f_X12_lays_30_b _ _ _) _
    unfold f_X12_lays_30_b
    rw [hD.1.2.2.1.2.1, lt_d]
    rw [hu] at hD ⊢
    exact yPos (nI_le (Nat.le_refl _) (by omega)) (hk D hD)
  | succ j ih =>
    intro u m D hu hD
    have ha := hD.1.2.2.1.1
    rw [show j + 1 + 1 + m = (j + 1 + m) + 1 by omega]
    show Y (f_X12_lays_30_b _ _ _) _
    unfold f_X12_lays_30_b
    rw [hD.1.2.2.1.2.1]
    refine yNeg (nI_nle2 (by omega) (by omega)) ?_
    obtain ⟨z, hz⟩ := FUs Z (by omega)
    have := ly40 (k30 := f_X12_lays_30 (j + 1 + m)) (Q := Q) hZ hY (show u < a by omega) (fun D1 h1 => ih (u + 1) m D1 (by omega) h1) hO Z 0 z D (by omega) hD
    rw [nI_0] at this
    rw [hz]
    exact this
end
