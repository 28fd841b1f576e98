/-! ===== the reference lays, as a whole ===== -/
section
variable {D H : Dm} {T : Tb} {acc AH : Int32} {ts ss : Tst} {b a Z : Nat}
def RK1 (D : Dm) (T : Tb) (acc : Int32) (ts : Tst) (b : Nat) (ss : Tst) (a Z : Nat) : Prop := D 281 55 = 1 ∧ ∃ u y i e, vld T acc ts b ss a Z u y i ∧ fgO T acc ts b ss u y i = some e ∧ (∀ u' y' i', vld T acc ts b ss a Z u' y' i' → erl u' y' i' u y i → fgO T acc ts b ss u' y' i' = none) ∧ D 281 56 = nI u ∧ D 281 57 = nI y ∧ D 281 58 = nI (nmi T acc ts b ss u i) ∧ D 281 59 = nI ((hsN (clo T acc ts b ss u y i)).getD e 0)
def RK2 (D : Dm) (T : Tb) (acc : Int32) (ts : Tst) (b : Nat) (ss : Tst) (a Z : Nat) : Prop := D 281 55 = 2 ∧ (∀ u y i, vld T acc ts b ss a Z u y i → fgO T acc ts b ss u y i = none) ∧ ∃ u y i, vld T acc ts b ss a Z u y i ∧ lkO T acc ts b ss a u y i = none ∧ (∀ u' y' i', vld T acc ts b ss a Z u' y' i' → erl u' y' i' u y i → lkO T acc ts b ss a u' y' i' ≠ none) ∧ D 281 56 = nI u ∧ D 281 57 = nI y ∧ D 281 58 = nI (nmi T acc ts b ss u i)
def RK3 (D : Dm) (T : Tb) (acc : Int32) (ts : Tst) (b : Nat) (ss : Tst) (a Z : Nat) (H : Dm) (AH : Int32) : Prop := STN D T acc ts b ss a Z ∧
  (((SH T acc H AH Z).2 = false ∧ D 281 55 = 0 ∧ D 281 64 = -1 ∧ D 281 65 = -1) ∨
  ((SH T acc H AH Z).2 = true ∧ D 281 55 = 3 ∧ WR D (wrW T acc H AH Z) ∧ ∃ s, spS H T acc ts b ss (wrW T acc H AH Z) = some s ∧ s < (wrW T acc H AH Z).length ∧ D 281 65 = nI s))
abbrev SLA (j k : Nat) : Prop := SLY j k ∨ SRE j k ∨ (j = 281 ∧ (k = 33 ∨ k = 55 ∨ k = 64 ∨ k = 65))
theorem lays_ok (h : RS D T acc ts b ss a) (hY : D 282 2 = nI Z) (hZ : Z ≤ 2) (hZ1 : 1 ≤ Z) (h0 : (ss 0).1 = []) (h33 : D 281 33 = 0) (hB : ALL T acc ts b ss a Z → TBL H T acc ts b ss a Z (fun _ _ _ => True) ∧ AHB AH T acc ss a) : Y (f_X12_lays D) (fun D' => Fr SLA D D' ∧ RS D' T acc ts b ss a ∧ D' 281 33 = 1 ∧ (RK1 D' T acc ts b ss a Z ∨ RK2 D' T acc ts b ss a Z ∨ RK3 D' T acc ts b ss a Z H AH)) := by
  have ha := h.2.2.1.1
  unfold f_X12_lays
  refine yPos h33 ?_
  rw [lt_d, lt_d, lt_d, lt_d]
  generalize hE : ud (ud (ud (ud D 281 33 1) 281 64 (-1)) 281 65 (-1)) 281 55 1 = E
  have oE : ∀ j k, ¬ (j = 281 ∧ (k = 33 ∨ k = 55 ∨ k = 64 ∨ k = 65)) → E j k = D j k := fun j k q => by
    rw [← hE, ud_at, if_neg (by omega), ud_at, if_neg (by omega), ud_at, if_neg (by omega), ud_at, if_neg (by omega)]
  have e33 : E 281 33 = 1 := by rw [← hE]; simp [ud_at]
  have e55 : E 281 55 = 1 := by rw [← hE]; simp [ud_at]
  have e64 : E 281 64 = -1 := by rw [← hE]; simp [ud_at]
  have e65 : E 281 65 = -1 := by rw [← hE]; simp [ud_at]
  have hRE : RS E T acc ts b ss a := h.fr (fun j k q => oE j k (by omega))
  have hYE : E 282 2 = nI Z := by rw [oE _ _ (by omega)]; exact hY
  have frD : ∀ D', Fr SLY E D' → Fr SLA D D' := fun D' hF j k q => by
    unfold SLA at q
    rw [hF j k (fun z => q (Or.inl z)), oE j k (fun z => q (Or.inr (Or.inr z)))]
  obtain ⟨z, hz⟩ := FUs a (by omega)
  have key := ly30 (D0 := E) (T := T) (acc := acc) (ts := ts) (ss := ss) (b := b) (a := a) (Z := Z) (Q := fun D' => Fr SLA D D' ∧ RS D' T acc ts b ss a ∧ D' 281 33 = 1 ∧ (RK1 D' T acc ts b ss a Z ∨ RK2 D' T acc ts b ss a Z ∨ RK3 D' T acc ts b ss a Z H AH)) hZ hYE (fun D1 h1 => ?_) (fun D1 h1 => ?_) a 0 z E (by omega) ⟨hRE, Fr.refl, fun u' y' i' _ q => by unfold erl at q; omega⟩
  · rw [nI_0] at key
    rw [hz]
    exact key
  · obtain ⟨hR1, hF1, all1⟩ := h1
    have all1 : ∀ u y i, vld T acc ts b ss a Z u y i → fgO T acc ts b ss u y i = none ∧ D1 298 (atn T acc ts b ss u y i) = nI b ∧ D1 296 u = nI b := fun u y i hv => all1 u y i hv (by have := hv.1; unfold erl; omega)
    generalize hG : ud D1 281 55 2 = G
    have oG : ∀ j k, ¬ (j = 281 ∧ k = 55) → G j k = D1 j k := fun j k q => by rw [← hG, ud_at, if_neg (by omega)]
    have g55 : G 281 55 = 2 := by rw [← hG, ud_at, if_pos ⟨rfl, rfl⟩]
    have hRG : RS G T acc ts b ss a := hR1.fr (fun j k q => oG j k (by omega))
    have hYG : G 282 2 = nI Z := by rw [oG _ _ (by omega), hF1 _ _ (by unfold SLY SXC; omega)]; exact hYE
    have g33 : G 281 33 = 1 := by rw [oG _ _ (by omega), hF1 _ _ (by unfold SLY SXC; omega)]; exact e33
    have g64 : G 281 64 = -1 := by rw [oG _ _ (by omega), hF1 _ _ (by unfold SLY SXC; omega)]; exact e64
    have g65 : G 281 65 = -1 := by rw [oG _ _ (by omega), hF1 _ _ (by unfold SLY SXC; omega)]; exact e65
    have frG : ∀ D', Fr SLY G D' → Fr SLA D D' := fun D' hF j k q => by
      unfold SLA at q
      rw [hF j k (fun z => q (Or.inl z)), oG j k (fun z => q (Or.inr (Or.inr (by omega)))), hF1 j k (fun z => q (Or.inl z)), oE j k (fun z => q (Or.inr (Or.inr z)))]
    obtain ⟨z2, hz2⟩ := FUs a (by omega)
    have key := ly105 (D0 := G) (T := T) (acc := acc) (ts := ts) (ss := ss) (b := b) (a := a) (Z := Z) (Q := fun D' => Fr SLA D D' ∧ RS D' T acc ts b ss a ∧ D' 281 33 = 1 ∧ (RK1 D' T acc ts b ss a Z ∨ RK2 D' T acc ts b ss a Z ∨ RK3 D' T acc ts b ss a Z H AH)) hZ hYG (fun D2 h2 => ?_) (fun D2 h2 => ?_) a 0 z2 G (by omega) ⟨hRG, Fr.refl, fun u' y' i' hv => by rw [oG _ _ (by omega), oG _ _ (by omega)]; exact (all1 _ _ _ hv).2, fun u' y' i' _ q => by unfold erl at q; omega⟩
    · rw [nI_0] at key
      rw [hz2]
      exact key
    · obtain ⟨hR2, hF2, c2, all2⟩ := h2
      have all2 : ∀ u y i, vld T acc ts b ss a Z u y i → GOS D2 T acc ts b ss a u y i := fun u y i hv => all2 u y i hv (by have := hv.1; unfold erl; omega)
      have hA : ALL T acc ts b ss a Z := fun u y i hv => ⟨(all1 u y i hv).1, by
        obtain ⟨v, q, -⟩ := all2 u y i hv
        rw [q]; simp⟩
      obtain ⟨hTB, hAH⟩ := hB hA
      have hST : STN D2 T acc ts b ss a Z := ⟨hR2, by rw [hF2 _ _ (by unfold SLY SXC; omega)]; exact hYG, hA, c2, all2⟩
      have d64 : D2 281 64 = -1 := by rw [hF2 _ _ (by unfold SLY SXC; omega)]; exact g64
      have d65 : D2 281 65 = -1 := by rw [hF2 _ _ (by unfold SLY SXC; omega)]; exact g65
      refine yMono (lyEnd_ok hST hZ hZ1 hTB hAH h0 d64) (fun D3 h3 => ?_)
      obtain ⟨hF3, hr⟩ := h3
      have hST3 : STN D3 T acc ts b ss a Z := hST.fr (fun j k q => hF3 j k (by unfold SRE SFW SKR SSP SMG; omega))
      refine ⟨?_, hST3.1, ?_, Or.inr (Or.inr ⟨hST3, ?_⟩)⟩
      · intro j k q
        have q' := q
        unfold SLA at q
        rw [hF3 j k (fun z => q (Or.inr (Or.inl z)))]
        exact frG D2 hF2 j k q'
      · rw [hF3 _ _ (by unfold SRE SFW SKR SSP SMG; omega), hF2 _ _ (by unfold SLY SXC; omega)]; exact g33
      · rcases hr with ⟨q1, q2, q3, q4⟩ | q
        · exact Or.inl ⟨q1, q2, by rw [q3]; exact d64, by rw [q4]; exact d65⟩
        · exact Or.inr q
    · obtain ⟨hR2, hF2, u, y, i, hv, q1, q2, q3⟩ := h2
      exact ⟨frG D2 hF2, hR2, by rw [hF2 _ _ (by unfold SLY SXC; omega)]; exact g33, Or.inr (Or.inl ⟨by rw [hF2 _ _ (by unfold SLY SXC; omega)]; exact g55, fun u y i hv => (all1 u y i hv).1, u, y, i, hv, q1, q2, q3⟩)⟩
  · obtain ⟨hR1, hF1, q⟩ := h1
    exact ⟨frD D1 hF1, hR1, by rw [hF1 _ _ (by unfold SLY SXC; omega)]; exact e33, Or.inl ⟨by rw [hF1 _ _ (by unfold SLY SXC; omega)]; exact e55, q⟩⟩
end
