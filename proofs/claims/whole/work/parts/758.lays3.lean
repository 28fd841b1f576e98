/-! ===== the reference lays: the second pass ===== -/
section
variable {D0 : Dm} {T : Tb} {acc : Int32} {ts ss : Tst} {b a Z : Nat}
/-- where a long word goes on to, as the reference keeps it -/
def GOS (D : Dm) (T : Tb) (acc : Int32) (ts : Tst) (b : Nat) (ss : Tst) (a u y i : Nat) : Prop := ∃ v, lkO T acc ts b ss a u y i = some v ∧ D 306 (atn T acc ts b ss u y i) = nI v ∧ D 307 (atn T acc ts b ss u y i) = wyL T acc ts b (clo T acc ts b ss u y i) (kpN T acc ts b (clo T acc ts b ss u y i)) (cu T ss v) (kpN T acc ts b (cu T ss v))
def F2 (D0 D : Dm) (T : Tb) (acc : Int32) (ts : Tst) (b : Nat) (ss : Tst) (a Z u y i : Nat) : Prop := RS D T acc ts b ss a ∧ Fr SLY D0 D ∧ (∀ u' y' i', vld T acc ts b ss a Z u' y' i' → D 298 (atn T acc ts b ss u' y' i') = nI b ∧ D 296 u' = nI b) ∧ ∀ u' y' i', vld T acc ts b ss a Z u' y' i' → erl u' y' i' u y i → GOS D T acc ts b ss a u' y' i'
/-- a long word is like none -/
def O2 (D0 D : Dm) (T : Tb) (acc : Int32) (ts : Tst) (b : Nat) (ss : Tst) (a Z : Nat) : Prop := RS D T acc ts b ss a ∧ Fr SLY D0 D ∧ ∃ u y i, vld T acc ts b ss a Z u y i ∧ lkO T acc ts b ss a u y i = none ∧ (∀ u' y' i', vld T acc ts b ss a Z u' y' i' → erl u' y' i' u y i → lkO T acc ts b ss a u' y' i' ≠ none) ∧ D 281 56 = nI u ∧ D 281 57 = nI y ∧ D 281 58 = nI (nmi T acc ts b ss u i)
theorem F2.sx {D D' : Dm} {u y i : Nat} (h : F2 D0 D T acc ts b ss a Z u y i) (hR : RS D' T acc ts b ss a) (hF : Fr SXC D D') (hk : ∀ k, D' 298 k = D 298 k) (hb : ∀ k, D 296 k = nI b → D' 296 k = nI b) : F2 D0 D' T acc ts b ss a Z u y i :=
  ⟨hR, h.2.1.tr (sxLY hF), fun u' y' i' h1 => ⟨by rw [hk]; exact (h.2.2.1 _ _ _ h1).1, hb _ (h.2.2.1 _ _ _ h1).2⟩, fun u' y' i' h1 h2 => by
    obtain ⟨v, q1, q2, q3⟩ := h.2.2.2 _ _ _ h1 h2
    exact ⟨v, q1, by rw [hF _ _ (by unfold SXC; omega)]; exact q2, by rw [hF _ _ (by unfold SXC; omega)]; exact q3⟩⟩
theorem ly127 (hZ : Z ≤ 2) {k105 : Int32 → Dm → Option Dm} {k115 : Int32 → Int32 → Dm → Option Dm} {Q : Dm → Prop} {u y : Nat} (hu : u < a) (hy : y < Z)
    (hk : ∀ D, F2 D0 D T acc ts b ss a Z u (y + 1) 0 → Y (k115 (nI u) (nI (y + 1)) D) Q) (hO : ∀ D, O2 D0 D T acc ts b ss a Z → Q D) : ∀ (j i m : Nat) (D : Dm), i + j = (kpN T acc ts b (cu T ss u)).length + 1 → F2 D0 D T acc ts b ss a Z u y i → Y (f_X12_lays_127 k105 k115 (j + 1 + m) (nI u) (nI y) (nI i) D) Q := by
  intro j
  induction j with
  | zero =>
    intro i m D hi hD
    have hR := hD.1
    have ha := hR.2.2.1.1
    obtain ⟨hd, k2, kl⟩ := kcr (T := T) (acc := acc) (ts := ts) (b := b) hR.2.2.1 hR.1.1 hu
    have hi : i = (kpN T acc ts b (cu T ss u)).length + 1 := by omega
    rw [show 0 + 1 + m = m + 1 by omega]
    show Y (f_X12_lays_127_b _ _ _ _ _ _ _) _
    unfold f_X12_lays_127_b
    refine yBI (hasShort_ok hR hu) (fun r D1 h1 => ?_)
    dsimp only at h1
    obtain ⟨er, hR1, hF1, h296, hk1⟩ := h1
    have hD1 := hD.sx hR1 hF1 (fun k => hk1 _ _ (Or.inr (Or.inl rfl))) (fun k q => (hk1 296 k (Or.inr (Or.inr (Or.inr (Or.inr (Or.inr ⟨rfl, q⟩)))))).trans q)
    rw [er, bits_l (show (ss u).2 < 5 by omega) k2, bI_d, lt_d, nI_1]
    refine yPos (by rw [hi]; exact nI_lt (by omega) (by omega)) (hk D1 ⟨hD1.1, hD1.2.1, hD1.2.2.1, fun u' y' i' q1 q2 => hD1.2.2.2 u' y' i' q1 (by rw [hi]; exact erl_y q1 q2)⟩)
  | succ j ih =>
    intro i m D hi hD
    have hR := hD.1
    have ha := hR.2.2.1.1
    obtain ⟨hd, k2, kl⟩ := kcr (T := T) (acc := acc) (ts := ts) (b := b) hR.2.2.1 hR.1.1 hu
    rw [show j + 1 + 1 + m = (j + 1 + m) + 1 by omega]
    show Y (f_X12_lays_127_b _ _ _ _ _ _ _) _
    unfold f_X12_lays_127_b
    refine yBI (hasShort_ok hR hu) (fun r D1 h1 => ?_)
    dsimp only at h1
    obtain ⟨er, hR1, hF1, h296, hk1⟩ := h1
    have hD1 := hD.sx hR1 hF1 (fun k => hk1 _ _ (Or.inr (Or.inl rfl))) (fun k q => (hk1 296 k (Or.inr (Or.inr (Or.inr (Or.inr (Or.inr ⟨rfl, q⟩)))))).trans q)
    rw [er, bits_l (show (ss u).2 < 5 by omega) k2, bI_d]
    refine yNeg (nI_nlt (by omega) (by omega)) ?_
    have hv : vld T acc ts b ss a Z u y i := ⟨hu, hy, by omega⟩
    refine yBI (longName_ok hR1 hu hv.2.2) (fun r2 D2 h2 => ?_)
    dsimp only at h2
    obtain ⟨er2, hR2, hF2, -, hk2⟩ := h2
    have hD2 := hD1.sx hR2 hF2 (fun k => hk2 _ _ (Or.inr (Or.inl rfl))) (fun k q => (hk2 296 k (Or.inr (Or.inr ⟨rfl, q⟩))).trans q)
    rw [er2]
    refine yBI (goesOn_ok hR2 (i := i) hu (show y < 2 by omega)) (fun r3 D3 h3 => ?_)
    dsimp only at h3
    obtain ⟨er3, hR3, hF3, v298, oth, o296, p56, p57, p58, pv⟩ := h3
    have t298 : ∀ u' y' i', vld T acc ts b ss a Z u' y' i' → D3 298 (atn T acc ts b ss u' y' i') = nI b ∧ D3 296 u' = nI b := fun u' y' i' q1 => by
      refine ⟨?_, o296 _ (hD2.2.2.1 _ _ _ q1).2⟩
      by_cases e : atn T acc ts b ss u' y' i' = atn T acc ts b ss u y i
      · rw [e]; exact v298
      · rw [(oth _ e).1]; exact (hD2.2.2.1 _ _ _ q1).1
    have told : ∀ u' y' i', vld T acc ts b ss a Z u' y' i' → erl u' y' i' u y i → GOS D3 T acc ts b ss a u' y' i' := fun u' y' i' q1 q2 => by
      obtain ⟨v, w1, w2, w3⟩ := hD2.2.2.2 _ _ _ q1 q2
      have e : atn T acc ts b ss u' y' i' ≠ atn T acc ts b ss u y i := fun e => by
        obtain ⟨rfl, rfl, rfl⟩ := atn_inj hR.2.2.1 hR.1.1 hZ q1 hv e
        unfold erl at q2; omega
      exact ⟨v, w1, by rw [(oth _ e).2.1]; exact w2, by rw [(oth _ e).2.2]; exact w3⟩
    rw [er3]
    cases hf : lkO T acc ts b ss a u y i with
    | none =>
      refine yPos rfl (yRet (hO D3 ⟨hR3, hD2.2.1.tr hF3, u, y, i, hv, hf, fun u' y' i' q1 q2 => ?_, p56, p57, p58⟩))
      obtain ⟨v, w1, -⟩ := told _ _ _ q1 q2
      rw [w1]; simp
    | some v =>
      refine yNeg (by show ¬ ((1 : Int32) = 0); decide) ?_
      rw [lt_d, nI_1]
      exact ih (i + 1) m D3 (by omega) ⟨hR3, hD2.2.1.tr hF3, t298, fun u' y' i' q1 q2 => by
        rcases erl_next.mp q2 with q | ⟨rfl, rfl, rfl⟩
        · exact told _ _ _ q1 q
        · exact ⟨v, hf, (pv v hf).1, (pv v hf).2⟩⟩
theorem ly115 (hZ : Z ≤ 2) (hY : D0 282 2 = nI Z) {k105 : Int32 → Dm → Option Dm} {Q : Dm → Prop} {u : Nat} (hu : u < a)
    (hk : ∀ D, F2 D0 D T acc ts b ss a Z (u + 1) 0 0 → Y (k105 (nI (u + 1)) D) Q) (hO : ∀ D, O2 D0 D T acc ts b ss a Z → Q D) : ∀ (j y m : Nat) (D : Dm), y + j = Z → F2 D0 D T acc ts b ss a Z u y 0 → Y (f_X12_lays_115 k105 (j + 1 + m) (nI u) (nI y) D) Q := by
  intro j
  induction j with
  | zero =>
    intro y m D hy hD
    have hy : y = Z := by omega
    have iY : f_X12_its 0 2 D = some (nI Z, D) := by rw [its_ok (k := 2) (q := 2) mc0 rfl (by omega), show D 282 (94 * 0 + 2) = nI Z by rw [hD.2.1 282 (94 * 0 + 2) (by unfold SLY SXC; omega)]; exact hY]
    rw [show 0 + 1 + m = m + 1 by omega]
    show Y (f_X12_lays_115_b _ _ _ _ _) _
    unfold f_X12_lays_115_b
    rw [iY, bI_d, lt_d, nI_1]
    refine yPos (by rw [hy]; exact nI_le (Nat.le_refl _) (by omega)) (hk D ⟨hD.1, hD.2.1, hD.2.2.1, fun u' y' i' q1 q2 => hD.2.2.2 u' y' i' q1 (by rw [hy]; exact erl_u q1 q2)⟩)
  | succ j ih =>
    intro y m D hy hD
    have hR := hD.1
    obtain ⟨hd, k2, kl⟩ := kcr (T := T) (acc := acc) (ts := ts) (b := b) hR.2.2.1 hR.1.1 hu
    have iY : f_X12_its 0 2 D = some (nI Z, D) := by rw [its_ok (k := 2) (q := 2) mc0 rfl (by omega), show D 282 (94 * 0 + 2) = nI Z by rw [hD.2.1 282 (94 * 0 + 2) (by unfold SLY SXC; omega)]; exact hY]
    rw [show j + 1 + 1 + m = (j + 1 + m) + 1 by omega]
    show Y (f_X12_lays_115_b _ _ _ _ _) _
    unfold f_X12_lays_115_b
    rw [iY, bI_d]
    refine yNeg (nI_nle2 (by omega) (by omega)) ?_
    obtain ⟨z, hz⟩ := FUs ((kpN T acc ts b (cu T ss u)).length + 1) (by omega)
    have := ly127 (k105 := k105) (k115 := f_X12_lays_115 k105 (j + 1 + m)) (Q := Q) hZ hu (show y < Z by omega) (fun D1 h1 => ih (y + 1) m D1 (by omega) h1) hO ((kpN T acc ts b (cu T ss u)).length + 1) 0 z D (by omega) hD
    rw [nI_0] at this
    rw [hz]
    exact this
/-- what the reference does once all long words go on -/
def lyEnd (D : Dm) : Option Dm := bV (f_X12_findsWrong D) fun D2 => if (D2 281 64) = (-1) then (f_X12_lays_191 0 D2) else (f_X12_lays_191 3 D2)
theorem ly105 (hZ : Z ≤ 2) (hY : D0 282 2 = nI Z) {Q : Dm → Prop}
    (hk : ∀ D, F2 D0 D T acc ts b ss a Z a 0 0 → Y (lyEnd D) Q) (hO : ∀ D, O2 D0 D T acc ts b ss a Z → Q D) : ∀ (j u m : Nat) (D : Dm), u + j = a → F2 D0 D T acc ts b ss a Z u 0 0 → Y (f_X12_lays_105 (j + 1 + m) (nI u) D) Q := by
  intro j
  induction j with
  | zero =>
    intro u m D hu hD
    have ha := hD.1.2.2.1.1
    have hu : u = a := by omega
    rw [show 0 + 1 + m = m + 1 by omega]
    show Y (f_X12_lays_105_b _ _ _) _
    unfold f_X12_lays_105_b
    rw [hD.1.2.2.1.2.1]
    rw [hu] at hD ⊢
    exact yPos (nI_le (Nat.le_refl _) (by omega)) (hk D hD)
  | succ j ih =>
    intro u m D hu hD
    have ha := hD.1.2.2.1.1
    rw [show j + 1 + 1 + m = (j + 1 + m) + 1 by omega]
    show Y (f_X12_lays_105_b _ _ _) _
    unfold f_X12_lays_105_b
    rw [hD.1.2.2.1.2.1]
    refine yNeg (nI_nle2 (by omega) (by omega)) ?_
    obtain ⟨z, hz⟩ := FUs Z (by omega)
    have := ly115 (k105 := f_X12_lays_105 (j + 1 + m)) (Q := Q) hZ hY (show u < a by omega) (fun D1 h1 => ih (u + 1) m D1 (by omega) h1) hO Z 0 z D (by omega) hD
    rw [nI_0] at this
    rw [hz]
    exact this
/-- all long words forget nothing and go on -/
def ALL (T : Tb) (acc : Int32) (ts : Tst) (b : Nat) (ss : Tst) (a Z : Nat) : Prop := ∀ u y i, vld T acc ts b ss a Z u y i → fgO T acc ts b ss u y i = none ∧ lkO T acc ts b ss a u y i ≠ none
end
