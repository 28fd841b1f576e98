/-! ===== the class decides: the long words ===== -/
def erl (u' y' i' u y i : Nat) : Prop := u' < u ∨ (u' = u ∧ (y' < y ∨ (y' = y ∧ i' < i)))
section
variable {D0 : Dm} {T : Tb} {acc : Int32} {ts ss : Tst} {b a Z : Nat}
def vld (T : Tb) (acc : Int32) (ts : Tst) (b : Nat) (ss : Tst) (a Z u y i : Nat) : Prop := u < a ∧ y < Z ∧ i ≤ (kpN T acc ts b (cu T ss u)).length
/-- moves stand for all of which P says so -/
def TBL (D : Dm) (T : Tb) (acc : Int32) (ts : Tst) (b : Nat) (ss : Tst) (a Z : Nat) (P : Nat → Nat → Nat → Prop) : Prop :=
  (∀ u y i v, vld T acc ts b ss a Z u y i → P u y i → lkO T acc ts b ss a u y i = some v → D 57 (hsn T acc ts b ss u y i) = nI v ∧ D 58 (hsn T acc ts b ss u y i) = flO T acc ts b ss u y i v 0 ∧ D 59 (hsn T acc ts b ss u y i) = flO T acc ts b ss u y i v 1) ∧
  ∀ s, s < 60 → (∀ u y i, vld T acc ts b ss a Z u y i → s ≠ hsn T acc ts b ss u y i) → D 57 s = -1
def DI (D0 D : Dm) (T : Tb) (acc : Int32) (ts : Tst) (b : Nat) (ss : Tst) (a Z u y i : Nat) : Prop :=
  Fr SLW D0 D ∧ (∀ u' y' i', vld T acc ts b ss a Z u' y' i' → erl u' y' i' u y i → fgO T acc ts b ss u' y' i' = none) ∧ TBL D T acc ts b ss a Z (fun u' y' i' => erl u' y' i' u y i) ∧
  ((D 43 13 = 0 ∧ ∀ u' y' i', vld T acc ts b ss a Z u' y' i' → erl u' y' i' u y i → lkO T acc ts b ss a u' y' i' ≠ none) ∨
   (D 43 13 = 2 ∧ ∃ u0 y0 i0, vld T acc ts b ss a Z u0 y0 i0 ∧ lkO T acc ts b ss a u0 y0 i0 = none ∧ (∀ u' y' i', vld T acc ts b ss a Z u' y' i' → erl u' y' i' u0 y0 i0 → lkO T acc ts b ss a u' y' i' ≠ none) ∧ PWd D (lgw T acc ts b ss u0 y0 i0)))
def D1K (D0 D : Dm) (T : Tb) (acc : Int32) (ts : Tst) (b : Nat) (ss : Tst) (a Z : Nat) : Prop :=
  Fr SLW D0 D ∧ D 43 13 = 1 ∧ ∃ u y i e x, vld T acc ts b ss a Z u y i ∧ fgO T acc ts b ss u y i = some e ∧ shE1 T acc ts (clo T acc ts b ss u y i) b e = some x ∧ (∀ u' y' i', vld T acc ts b ss a Z u' y' i' → erl u' y' i' u y i → fgO T acc ts b ss u' y' i' = none) ∧ PWd D (prL ts (clo T acc ts b ss u y i) y (nmi T acc ts b ss u i) x)
theorem kcle (h : SC D0 ss a) (hT : wfT T) {u : Nat} (hu : u < a) : (kpN T acc ts b (cu T ss u)).length ≤ 2 := by
  have hd := (h.sy hu).1
  exact (hss_in _ (show (ss u).2 < 5 by omega) _ (kpN_in (T := T) (acc := acc) (ts := ts) (b := b) (show (ss u).2 < 5 by omega) (h.cu hT hu).2)).1
theorem hsn_inj (h : SC D0 ss a) (hT : wfT T) (hZ : Z ≤ 2) {u y i u' y' i' : Nat} (h1 : vld T acc ts b ss a Z u y i) (h2 : vld T acc ts b ss a Z u' y' i') (e : hsn T acc ts b ss u y i = hsn T acc ts b ss u' y' i') : u = u' ∧ y = y' ∧ i = i' := by
  have k1 := kcle (acc := acc) (ts := ts) (b := b) (T := T) h hT h1.1
  have k2 := kcle (acc := acc) (ts := ts) (b := b) (T := T) h hT h2.1
  obtain ⟨a1, a2, a3⟩ := h1
  obtain ⟨b1, b2, b3⟩ := h2
  unfold hsn at e
  have g1 : (if i < (kpN T acc ts b (cu T ss u)).length then i else 2) < 3 := by split <;> omega
  have g2 : (if i' < (kpN T acc ts b (cu T ss u')).length then i' else 2) < 3 := by split <;> omega
  have eu : u = u' := by omega
  have ey : y = y' := by omega
  subst eu; subst ey
  refine ⟨rfl, rfl, ?_⟩
  have : (if i < (kpN T acc ts b (cu T ss u)).length then i else 2) = (if i' < (kpN T acc ts b (cu T ss u)).length then i' else 2) := by omega
  split at this <;> split at this <;> omega
theorem erl_next {u' y' i' u y i : Nat} : erl u' y' i' u y (i + 1) ↔ erl u' y' i' u y i ∨ (u' = u ∧ y' = y ∧ i' = i) := by
  unfold erl; omega
theorem di_step (h : LCs D0 T acc ts b ss a) (hZ : Z ≤ 2) {D D' : Dm} {u y i : Nat} (hv : vld T acc ts b ss a Z u y i) (hD : DI D0 D T acc ts b ss a Z u y i) (hF : Fr SLW D D') (hL : LLW D D' T acc ts b ss a u y i) : DI D0 D' T acc ts b ss a Z u y (i + 1) ∨ D1K D0 D' T acc ts b ss a Z := by
  obtain ⟨d1, d2, ⟨d3, d4⟩, d5⟩ := hD
  have hF' := d1.tr hF
  have nn : ∀ u' y' i', vld T acc ts b ss a Z u' y' i' → fgO T acc ts b ss u y i = none → erl u' y' i' u y (i + 1) → fgO T acc ts b ss u' y' i' = none := fun u' y' i' h1 h2 h3 => by
    rcases erl_next.mp h3 with q | ⟨rfl, rfl, rfl⟩
    · exact d2 _ _ _ h1 q
    · exact h2
  have self : erl u y i u y (i + 1) := erl_next.mpr (Or.inr ⟨rfl, rfl, rfl⟩)
  rcases hL with ⟨e, x, l1, l2, l3, l4⟩ | ⟨l1, l2, l3, v, hva, l4, l5⟩ | ⟨l1, l2, lt, l3⟩
  · exact Or.inr ⟨hF', l3, u, y, i, e, x, hv, l1, l2, d2, l4⟩
  · left
    refine ⟨hF', fun u' y' i' h1 h3 => nn _ _ _ h1 l1 h3, ⟨fun u' y' i' v' h1 h3 h4 => ?_, fun s hs hne => ?_⟩, ?_⟩
    · by_cases e : hsn T acc ts b ss u' y' i' = hsn T acc ts b ss u y i
      · obtain ⟨rfl, rfl, rfl⟩ := hsn_inj h.2.2 h.1.wfT hZ h1 hv e
        rw [l4] at h4
        cases h4
        obtain ⟨q1, q2, q3⟩ := l5 (hsn T acc ts b ss u' y' i')
        rw [if_pos rfl] at q1 q2 q3
        exact ⟨q1, q2, q3⟩
      · obtain ⟨q1, q2, q3⟩ := l5 (hsn T acc ts b ss u' y' i')
        rw [if_neg e] at q1 q2 q3
        rw [q1, q2, q3]
        rcases erl_next.mp h3 with q | ⟨rfl, rfl, rfl⟩
        · exact d3 _ _ _ _ h1 q h4
        · exact absurd rfl e
    · obtain ⟨q1, -, -⟩ := l5 s
      rw [q1, if_neg (hne u y i hv)]
      exact d4 s hs hne
    · rcases d5 with ⟨k, all⟩ | ⟨k, u0, y0, i0, v0, n0, m0, p0⟩
      · refine Or.inl ⟨by rw [l2]; exact k, fun u' y' i' h1 h3 => ?_⟩
        rcases erl_next.mp h3 with q | ⟨rfl, rfl, rfl⟩
        · exact all _ _ _ h1 q
        · rw [l4]; simp
      · exact Or.inr ⟨by rw [l2]; exact k, u0, y0, i0, v0, n0, m0, p0.fr l3⟩
  · left
    refine ⟨hF', fun u' y' i' h1 h3 => nn _ _ _ h1 l1 h3, ⟨fun u' y' i' v' h1 h3 h4 => ?_, fun s hs hne => ?_⟩, ?_⟩
    · rw [lt _ _ (by omega) (by omega), lt _ _ (by omega) (by omega), lt _ _ (by omega) (by omega)]
      rcases erl_next.mp h3 with q | ⟨rfl, rfl, rfl⟩
      · exact d3 _ _ _ _ h1 q h4
      · rw [l2] at h4; cases h4
    · rw [lt _ _ (by omega) (by omega)]; exact d4 s hs hne
    · rcases l3 with ⟨k0, k2, p⟩ | ⟨k0, k2, p⟩
      · rcases d5 with ⟨k, all⟩ | ⟨k, -⟩
        · exact Or.inr ⟨k2, u, y, i, hv, l2, all, p⟩
        · rw [k] at k0; exact absurd k0 (by decide)
      · rcases d5 with ⟨k, all⟩ | ⟨k, u0, y0, i0, v0, n0, m0, p0⟩
        · exact absurd k k0
        · exact Or.inr ⟨by rw [k2]; exact k, u0, y0, i0, v0, n0, m0, p0.fr p⟩
theorem di_y (h : SC D0 ss a) (hT : wfT T) {D : Dm} {u y : Nat} (hD : DI D0 D T acc ts b ss a Z u y ((kpN T acc ts b (cu T ss u)).length + 1)) : DI D0 D T acc ts b ss a Z u (y + 1) 0 := by
  have e : ∀ u' y' i', vld T acc ts b ss a Z u' y' i' → (erl u' y' i' u (y + 1) 0 → erl u' y' i' u y ((kpN T acc ts b (cu T ss u)).length + 1)) := fun u' y' i' h1 h2 => by
    unfold erl at h2 ⊢
    obtain ⟨-, -, h3⟩ := h1
    by_cases eu : u' = u
    · subst eu; omega
    · omega
  obtain ⟨d1, d2, ⟨d3, d4⟩, d5⟩ := hD
  refine ⟨d1, fun u' y' i' h1 h2 => d2 _ _ _ h1 (e _ _ _ h1 h2), ⟨fun u' y' i' v h1 h2 h3 => d3 _ _ _ _ h1 (e _ _ _ h1 h2) h3, d4⟩, ?_⟩
  rcases d5 with ⟨k, all⟩ | q
  · exact Or.inl ⟨k, fun u' y' i' h1 h2 => all _ _ _ h1 (e _ _ _ h1 h2)⟩
  · exact Or.inr q
theorem di_u {D : Dm} {u : Nat} (hD : DI D0 D T acc ts b ss a Z u Z 0) : DI D0 D T acc ts b ss a Z (u + 1) 0 0 := by
  have e : ∀ u' y' i', vld T acc ts b ss a Z u' y' i' → (erl u' y' i' (u + 1) 0 0 → erl u' y' i' u Z 0) := fun u' y' i' h1 h2 => by
    unfold erl at h2 ⊢
    obtain ⟨-, h3, -⟩ := h1
    omega
  obtain ⟨d1, d2, ⟨d3, d4⟩, d5⟩ := hD
  refine ⟨d1, fun u' y' i' h1 h2 => d2 _ _ _ h1 (e _ _ _ h1 h2), ⟨fun u' y' i' v h1 h2 h3 => d3 _ _ _ _ h1 (e _ _ _ h1 h2) h3, d4⟩, ?_⟩
  rcases d5 with ⟨k, all⟩ | q
  · exact Or.inl ⟨k, fun u' y' i' h1 h2 => all _ _ _ h1 (e _ _ _ h1 h2)⟩
  · exact Or.inr q
/-- what stands at each place of the three loops -/
def DS (D0 D : Dm) (T : Tb) (acc : Int32) (ts : Tst) (b : Nat) (ss : Tst) (a Z u y i : Nat) : Prop := DI D0 D T acc ts b ss a Z u y i ∨ D1K D0 D T acc ts b ss a Z
theorem DS.fr {D : Dm} {u y i : Nat} (h : DS D0 D T acc ts b ss a Z u y i) : Fr SLW D0 D := h.elim (fun q => q.1) (fun q => q.1)
theorem DS.k1 {D : Dm} {u y i : Nat} (h : DS D0 D T acc ts b ss a Z u y i) : (D 43 13 = 1 ∧ D1K D0 D T acc ts b ss a Z) ∨ (D 43 13 ≠ 1 ∧ DI D0 D T acc ts b ss a Z u y i) := by
  rcases h with q | q
  · refine Or.inr ⟨?_, q⟩
    rcases q.2.2.2 with ⟨k, -⟩ | ⟨k, -⟩ <;> rw [k] <;> decide
  · exact Or.inl ⟨q.2.1, q⟩
theorem LCs.w {D : Dm} (h : LCs D0 T acc ts b ss a) (hF : Fr SLW D0 D) : LCs D T acc ts b ss a := h.fr (fun j k q => hF j k (by unfold SLW SLk; omega))
theorem dec75 (h : LCs D0 T acc ts b ss a) (hP : PS D0 T acc ts b ss a) (h6 : ∀ t, t < b → (ts t).1.length ≤ 6) (hSL : SLf D0 ss a) (hZ : Z ≤ 2) {k36 : Int32 → Dm → Option Dm} {k54 : Int32 → Int32 → Dm → Option Dm} {Q : Dm → Prop} {u y : Nat} (hu : u < a) (hy : y < Z)
    (hk : ∀ D, DS D0 D T acc ts b ss a Z u (y + 1) 0 → Y (k54 (nI u) (nI (y + 1)) D) Q) : ∀ (j i m : Nat) (D : Dm), i + j = (kpN T acc ts b (cu T ss u)).length + 1 → DS D0 D T acc ts b ss a Z u y i → Y (f_X3_decide_75 k36 k54 (j + 1 + m) (nI u) (nI y) (nI i) D) Q := by
  have ha := h.2.2.1
  have hkc := kcle (acc := acc) (ts := ts) (b := b) (T := T) h.2.2 h.1.wfT hu
  intro j
  induction j with
  | zero =>
    intro i m D hi hD
    have hi : i = (kpN T acc ts b (cu T ss u)).length + 1 := by omega
    have hPD : PS D T acc ts b ss a := hP.fr ha.2 (fun j k q1 q2 q3 => hD.fr j k (by unfold SLW SLk; omega))
    rw [show 0 + 1 + m = m + 1 by omega]
    show Y (f_X3_decide_75_b _ _ _ _ _ _ _) _
    unfold f_X3_decide_75_b f_X3_decide_109
    rw [nI_clamp (by omega), ar45 u (by omega), (hPD u hu).k.1, lt_d, nI_1]
    refine yGd (inB_nI (by omega) (by omega)) (yPos (by rw [hi]; exact nI_lt (by omega) (by omega)) (hk D ?_))
    rcases hD with q | q
    · rw [hi] at q; exact Or.inl (di_y h.2.2 h.1.wfT q)
    · exact Or.inr q
  | succ j ih =>
    intro i m D hi hD
    have hPD : PS D T acc ts b ss a := hP.fr ha.2 (fun j k q1 q2 q3 => hD.fr j k (by unfold SLW SLk; omega))
    rw [show j + 1 + 1 + m = (j + 1 + m) + 1 by omega]
    show Y (f_X3_decide_75_b _ _ _ _ _ _ _) _
    unfold f_X3_decide_75_b f_X3_decide_109
    rw [nI_clamp (by omega), ar45 u (by omega), (hPD u hu).k.1]
    simp only [lt_d, nI_1]
    refine yGd (inB_nI (by omega) (by omega)) (yNeg (nI_nlt (by omega) (by omega)) ?_)
    rcases hD.k1 with ⟨k1, q⟩ | ⟨k1, q⟩
    · exact yPos k1 (hk D (Or.inr q))
    · refine yNeg k1 (yBV (llw_ok (h.w hD.fr) hPD h6 (fun u' hu' k hk' => ?_) hu (show y < 2 by omega) (show i ≤ _ by omega)) (fun D1 h1 => ih (i + 1) m D1 (by omega) (di_step h hZ ⟨hu, hy, by omega⟩ q h1.1 h1.2)))
      have e : D (122 + 14 * u' + 2) = D0 (122 + 14 * u' + 2) := funext (fun k => hD.fr _ _ (by unfold SLW SLk; omega))
      rw [e]; exact hSL u' hu' k hk'
theorem dec54 (h : LCs D0 T acc ts b ss a) (hP : PS D0 T acc ts b ss a) (h6 : ∀ t, t < b → (ts t).1.length ≤ 6) (hSL : SLf D0 ss a) (hZ : Z ≤ 2) (hY : D0 9 2 = nI Z) {k36 : Int32 → Dm → Option Dm} {Q : Dm → Prop} {u : Nat} (hu : u < a)
    (hk : ∀ D, DS D0 D T acc ts b ss a Z (u + 1) 0 0 → Y (k36 (nI (u + 1)) D) Q) : ∀ (j y m : Nat) (D : Dm), y + j = Z → DS D0 D T acc ts b ss a Z u y 0 → Y (f_X3_decide_54 k36 (j + 1 + m) (nI u) (nI y) D) Q := by
  have ha := h.2.2.1
  have hkc := kcle (acc := acc) (ts := ts) (b := b) (T := T) h.2.2 h.1.wfT hu
  intro j
  induction j with
  | zero =>
    intro y m D hy hD
    have hy : y = Z := by omega
    rw [show 0 + 1 + m = m + 1 by omega]
    show Y (f_X3_decide_54_b _ _ _ _ _) _
    unfold f_X3_decide_54_b f_X3_decide_115
    rw [hD.fr 9 2 (by unfold SLW SLk; omega), hY, lt_d, nI_1]
    refine yPos (by rw [hy]; exact nI_le (Nat.le_refl _) (by omega)) (hk D ?_)
    rcases hD with q | q
    · rw [hy] at q; exact Or.inl (di_u q)
    · exact Or.inr q
  | succ j ih =>
    intro y m D hy hD
    rw [show j + 1 + 1 + m = (j + 1 + m) + 1 by omega]
    show Y (f_X3_decide_54_b _ _ _ _ _) _
    unfold f_X3_decide_54_b f_X3_decide_115
    rw [hD.fr 9 2 (by unfold SLW SLk; omega), hY, lt_d, nI_1]
    refine yNeg (nI_nle2 (by omega) (by omega)) ?_
    rcases hD.k1 with ⟨k1, q⟩ | ⟨k1, q⟩
    · exact yPos k1 (hk D (Or.inr q))
    · refine yNeg k1 ?_
      obtain ⟨z, hz⟩ := FUs ((kpN T acc ts b (cu T ss u)).length + 1) (by omega)
      have := dec75 (k36 := k36) (k54 := f_X3_decide_54 k36 (j + 1 + m)) (Q := Q) h hP h6 hSL hZ hu (show y < Z by omega) (fun D1 h1 => ih (y + 1) m D1 (by omega) h1) ((kpN T acc ts b (cu T ss u)).length + 1) 0 z D (by omega) (Or.inl q)
      rw [nI_0] at this
      rw [hz]
      exact this
theorem dec36 (h : LCs D0 T acc ts b ss a) (hP : PS D0 T acc ts b ss a) (h6 : ∀ t, t < b → (ts t).1.length ≤ 6) (hSL : SLf D0 ss a) (hZ : Z ≤ 2) (hY : D0 9 2 = nI Z) {Q : Dm → Prop}
    (hk : ∀ D, DS D0 D T acc ts b ss a Z a 0 0 → Y (f_X3_decide_121 D) Q) : ∀ (j u m : Nat) (D : Dm), u + j = a → DS D0 D T acc ts b ss a Z u 0 0 → Y (f_X3_decide_36 (j + 1 + m) (nI u) D) Q := by
  have ha := h.2.2.1
  intro j
  induction j with
  | zero =>
    intro u m D hu hD
    have hu : u = a := by omega
    rw [show 0 + 1 + m = m + 1 by omega]
    show Y (f_X3_decide_36_b _ _ _) _
    unfold f_X3_decide_36_b
    rw [(h.w hD.fr).2.2.2.1]
    rw [hu] at hD ⊢
    exact yPos (nI_le (Nat.le_refl _) (by omega)) (hk D hD)
  | succ j ih =>
    intro u m D hu hD
    rw [show j + 1 + 1 + m = (j + 1 + m) + 1 by omega]
    show Y (f_X3_decide_36_b _ _ _) _
    unfold f_X3_decide_36_b
    rw [(h.w hD.fr).2.2.2.1]
    refine yNeg (nI_nle2 (by omega) (by omega)) ?_
    rcases hD.k1 with ⟨k1, q⟩ | ⟨k1, q⟩
    · exact yPos k1 (hk D (Or.inr q))
    · refine yNeg k1 ?_
      obtain ⟨z, hz⟩ := FUs Z (by omega)
      have := dec54 (k36 := f_X3_decide_36 (j + 1 + m)) (Q := Q) h hP h6 hSL hZ hY (show u < a by omega) (fun D1 h1 => ih (u + 1) m D1 (by omega) h1) Z 0 z D (by omega) (Or.inl q)
      rw [nI_0] at this
      rw [hz]
      exact this
end
