/-! ===== the class decides, up to whether it fits ===== -/
theorem clear_h {D : Dm} : Y (f_X2_clear D) (fun D' => Fr (fun j k => j = 57 ∨ (j = 56 ∧ k = 3)) D D' ∧ (∀ k, k < 60 → D' 57 k = -1) ∧ D' 56 3 = 0) := by
  unfold f_X2_clear
  refine yBV (fill_ok (r := 57) (n := 60) (v := -1) (by omega)) (fun D1 h1 => ?_)
  rw [lt_d]
  refine yRet ⟨fun j k q => ?_, fun k hk => ?_, ?_⟩
  · rw [ud_at, if_neg (by omega), h1.1 j k (by omega)]
  · rw [ud_at, if_neg (by omega)]; exact h1.2 k hk
  · rw [ud_at, if_pos ⟨rfl, rfl⟩]
section
variable {D H : Dm} {T : Tb} {acc AH : Int32} {ts ss : Tst} {b a Z : Nat}
def CK1 (D : Dm) (T : Tb) (acc : Int32) (ts : Tst) (b : Nat) (ss : Tst) (a Z : Nat) : Prop := D 43 13 = 1 ∧ D 43 14 = -1 ∧ ∃ u y i e x, vld T acc ts b ss a Z u y i ∧ fgO T acc ts b ss u y i = some e ∧ shE1 T acc ts (clo T acc ts b ss u y i) b e = some x ∧ (∀ u' y' i', vld T acc ts b ss a Z u' y' i' → erl u' y' i' u y i → fgO T acc ts b ss u' y' i' = none) ∧ PWd D (prL ts (clo T acc ts b ss u y i) y (nmi T acc ts b ss u i) x)
def CK2 (D : Dm) (T : Tb) (acc : Int32) (ts : Tst) (b : Nat) (ss : Tst) (a Z : Nat) : Prop := D 43 13 = 2 ∧ D 43 14 = -1 ∧ (∀ u y i, vld T acc ts b ss a Z u y i → fgO T acc ts b ss u y i = none) ∧ ∃ u y i, vld T acc ts b ss a Z u y i ∧ lkO T acc ts b ss a u y i = none ∧ (∀ u' y' i', vld T acc ts b ss a Z u' y' i' → erl u' y' i' u y i → lkO T acc ts b ss a u' y' i' ≠ none) ∧ PWd D (lgw T acc ts b ss u y i)
def CK3 (D : Dm) (T : Tb) (acc : Int32) (ts : Tst) (b : Nat) (ss : Tst) (a Z : Nat) (H : Dm) (AH : Int32) : Prop := ALL T acc ts b ss a Z ∧ hyp D = hyp H ∧ D 56 3 = AH ∧ TBL H T acc ts b ss a Z (fun _ _ _ => True) ∧ AHB AH T acc ss a ∧
  (((SH T acc H AH Z).2 = false ∧ D 43 13 = 0 ∧ D 43 14 = -1 ∧ isW D 60 0) ∨
  ((SH T acc H AH Z).2 = true ∧ D 43 13 = 3 ∧ WD D (wrW T acc H AH Z) ∧ ∃ s, spS H T acc ts b ss (wrW T acc H AH Z) = some s ∧ s < (wrW T acc H AH Z).length ∧ D 43 14 = nI s ∧ PWd D ((wrW T acc H AH Z).drop (s + 1))))
abbrev SDC (j k : Nat) : Prop := SPf j k ∨ SLW j k ∨ STH j k ∨ (j = 56 ∧ k = 3) ∨ (j = 43 ∧ (k = 13 ∨ k = 14 ∨ k = 17))
theorem decide_k {E0 : Dm} (h : LCs D T acc ts b ss a) (hP : okPf D T acc ts b ss a) (hS : SR E0 ss a) (h6 : ∀ t, t < b → (ts t).1.length ≤ 6) (hSL : SLf D ss a) (hZ : Z ≤ 2) (hY : D 9 2 = nI Z) (h0 : (ss 0).1 = []) (h17 : D 43 17 = 0) {Q : Dm → Prop} (hk : ∀ D', Fr SDC D D' → D' 43 17 = 1 → D' 43 16 = 1 → PS D' T acc ts b ss a → (CK1 D' T acc ts b ss a Z ∨ CK2 D' T acc ts b ss a Z ∨ ∃ H AH, CK3 D' T acc ts b ss a Z H AH) → Y (f_X3_decide_132 D') Q) : Y (f_X3_decide D) Q := by
  have ha := h.2.2.1
  unfold f_X3_decide
  refine yPos h17 ?_
  rw [lt_d, lt_d, lt_d]
  generalize hE : ud (ud (ud D 43 17 1) 43 13 0) 43 14 (-1) = E
  have oE : ∀ j k, ¬ (j = 43 ∧ (k = 13 ∨ k = 14 ∨ k = 17)) → E j k = D j k := fun j k q => by
    rw [← hE, ud_at, if_neg (by omega), ud_at, if_neg (by omega), ud_at, if_neg (by omega)]
  have e17 : E 43 17 = 1 := by rw [← hE]; simp [ud_at]
  have e13 : E 43 13 = 0 := by rw [← hE]; simp [ud_at]
  have e14 : E 43 14 = -1 := by rw [← hE]; simp [ud_at]
  have hLE : LCs E T acc ts b ss a := h.fr (fun j k q => oE j k (by omega))
  have hPE : E 43 16 = 0 ∨ (E 43 16 = 1 ∧ PS E T acc ts b ss a) := by
    rw [oE 43 16 (by omega)]
    exact hP.imp id (fun q => ⟨q.1, q.2.fr ha.2 (fun j k q1 q2 q3 => oE j k (by omega))⟩)
  refine yBV (lsw_ok hLE hPE) (fun D1 h1 => ?_)
  obtain ⟨hF1, p16, hP1⟩ := h1
  have hL1 : LCs D1 T acc ts b ss a := hLE.fr (fun j k q => hF1 j k (by unfold SPf; omega))
  have f1D : ∀ j k, ¬ (SPf j k ∨ (j = 43 ∧ (k = 13 ∨ k = 14 ∨ k = 17))) → D1 j k = D j k := fun j k q => by
    rw [hF1 j k (fun z => q (Or.inl z)), oE j k (fun z => q (Or.inr z))]
  refine yBV clear_h (fun D2 h2 => ?_)
  obtain ⟨hF2, c57, c56⟩ := h2
  have hL2 : LCs D2 T acc ts b ss a := hL1.fr (fun j k q => hF2 j k (by omega))
  have hP2 : PS D2 T acc ts b ss a := hP1.fr ha.2 (fun j k q1 q2 q3 => hF2 j k (by omega))
  have f2D : ∀ j k, ¬ (SPf j k ∨ (j = 43 ∧ (k = 13 ∨ k = 14 ∨ k = 17)) ∨ j = 57 ∨ (j = 56 ∧ k = 3)) → D2 j k = D j k := fun j k q => by
    rw [hF2 j k (fun z => q (Or.inr (Or.inr z))), f1D j k (fun z => q (z.elim Or.inl (fun z => Or.inr (Or.inl z))))]
  have hS2 : SR E0 ss a := hS
  have hY2 : D2 9 2 = nI Z := by rw [f2D _ _ (by unfold SPf; omega)]; exact hY
  have hSL2 : SLf D2 ss a := fun u hu k hk' => by
    have e : D2 (122 + 14 * u + 2) = D (122 + 14 * u + 2) := funext (fun k => f2D _ _ (by unfold SPf; omega))
    rw [e]; exact hSL u hu k hk'
  have d13 : D2 43 13 = 0 := by rw [hF2 _ _ (by omega), hF1 _ _ (by unfold SPf; omega)]; exact e13
  have d14 : D2 43 14 = -1 := by rw [hF2 _ _ (by omega), hF1 _ _ (by unfold SPf; omega)]; exact e14
  have d17 : D2 43 17 = 1 := by rw [hF2 _ _ (by omega), hF1 _ _ (by unfold SPf; omega)]; exact e17
  have d16 : D2 43 16 = 1 := by rw [hF2 _ _ (by omega)]; exact p16
  have toD : ∀ D', (∀ j k, ¬ (SLW j k ∨ STH j k ∨ (j = 56 ∧ k = 3)) → D' j k = D2 j k) → Fr SDC D D' := fun D' hF j k q => by
    unfold SDC at q
    rw [hF j k (fun z => q (by rcases z with z | z | z; exact Or.inr (Or.inl z); exact Or.inr (Or.inr (Or.inl z)); exact Or.inr (Or.inr (Or.inr (Or.inl z))))), f2D j k (fun z => q ?_)]
    rcases z with z | z | z | z
    · exact Or.inl z
    · exact Or.inr (Or.inr (Or.inr (Or.inr z)))
    · exact Or.inr (Or.inl (by unfold SLW; omega))
    · exact Or.inr (Or.inr (Or.inr (Or.inl z)))
  obtain ⟨z, hz⟩ := FUs a (by omega)
  have key := dec36 (D0 := D2) (Z := Z) (Q := Q) hL2 hP2 h6 hSL2 hZ hY2 (fun D3 h3 => ?_) a 0 z D2 (by omega) (Or.inl ⟨Fr.refl, fun u' y' i' _ q => by unfold erl at q; omega, ⟨fun u' y' i' v _ q => by unfold erl at q; omega, fun s hs _ => c57 s hs⟩, Or.inl ⟨d13, fun u' y' i' _ q => by unfold erl at q; omega⟩⟩)
  · rw [nI_0] at key
    rw [hz]
    exact key
  · have hF3 := h3.fr
    have g14 : D3 43 14 = -1 := by rw [hF3 _ _ (by unfold SLW SLk; omega)]; exact d14
    have g17 : D3 43 17 = 1 := by rw [hF3 _ _ (by unfold SLW SLk; omega)]; exact d17
    have g16 : D3 43 16 = 1 := by rw [hF3 _ _ (by unfold SLW SLk; omega)]; exact d16
    have hP3 : PS D3 T acc ts b ss a := hP2.fr ha.2 (fun j k q1 q2 q3 => hF3 j k (by unfold SLW SLk; omega))
    have hL3 := hL2.w hF3
    have fr3 : Fr SDC D D3 := toD D3 (fun j k q => hF3 j k (fun z => q (Or.inl z)))
    unfold f_X3_decide_121
    rcases h3.k1 with ⟨k1, -, -, q⟩ | ⟨k1, -, a1, ⟨t1, t2⟩, q⟩
    · exact yNeg (by rw [k1]; decide) (hk D3 fr3 g17 g16 hP3 (Or.inl ⟨k1, g14, q⟩))
    · have a1 : ∀ u y i, vld T acc ts b ss a Z u y i → fgO T acc ts b ss u y i = none := fun u y i hv => a1 u y i hv (by have := hv.1; unfold erl; omega)
      rcases q with ⟨k0, al⟩ | ⟨k2, u0, y0, i0, v0, n0, m0, p0⟩
      · have hA : ALL T acc ts b ss a Z := fun u y i hv => ⟨a1 u y i hv, al u y i hv (by have := hv.1; unfold erl; omega)⟩
        refine yPos k0 ?_
        unfold f_X3_tryHypothesis
        obtain ⟨z3, hz3⟩ := FUs a (by omega)
        have th := th2 (Q := fun D' => ∃ D4, Fr (fun j k => j = 56 ∧ k = 3) D3 D4 ∧ D4 56 3 = nI (ahN (gdS T acc ss) a) ∧ TBL D4 T acc ts b ss a Z (fun _ _ _ => True) ∧ AHB (D4 56 3) T acc ss a ∧ Fr STH D4 D' ∧ THR D4 D' T acc ts b ss D4 (D4 56 3) Z) hL3 hP3 (fun D4 hF4 h56 => ?_) a 0 z3 D3 (by omega) Fr.refl (by rw [hF3 _ _ (by unfold SLW SLk; omega)]; exact c56)
        · rw [nI_0] at th
          rw [hz3]
          refine yBV th (fun D5 h5 => ?_)
          obtain ⟨D4, hF4, h56, hB4, hAH, hF5, hR⟩ := h5
          have f53 : ∀ j k, ¬ (STH j k ∨ (j = 56 ∧ k = 3)) → D5 j k = D3 j k := fun j k q => by
            rw [hF5 j k (fun z => q (Or.inl z)), hF4 j k (fun z => q (Or.inr z))]
          refine hk D5 (toD D5 (fun j k q => ?_)) ?_ ?_ (hP3.fr ha.2 (fun j k q1 q2 q3 => f53 j k (by unfold STH; omega))) (Or.inr (Or.inr ⟨D4, D4 56 3, hA, ?_, ?_, hB4, hAH, ?_⟩))
          · rw [f53 j k (fun z => q (Or.inr z)), hF3 j k (fun z => q (Or.inl z))]
          · rw [f53 _ _ (by unfold STH; omega)]; exact g17
          · rw [f53 _ _ (by unfold STH; omega)]; exact g16
          · exact hyp_fr (fun j k q1 q2 => hF5 j k (by unfold STH; omega))
          · exact hF5 _ _ (by unfold STH; omega)
          · rcases hR with ⟨r1, r2, r3, r4, -⟩ | r
            · refine Or.inl ⟨r1, ?_, ?_, r4⟩
              · rw [r2, hF4 _ _ (by omega)]; exact k0
              · rw [r3, hF4 _ _ (by omega)]; exact g14
            · exact Or.inr r
        · have hL4 : LCs D4 T acc ts b ss a := hL3.fr (fun j k q => hF4 j k (by omega))
          have hP4 : PS D4 T acc ts b ss a := hP3.fr ha.2 (fun j k q1 q2 q3 => hF4 j k (by omega))
          have hS4 : SR E0 ss a := hS2
          have hB4 : TBL D4 T acc ts b ss a Z (fun _ _ _ => True) := ⟨fun u y i v hv _ hl => by
            rw [hF4 _ _ (by omega), hF4 _ _ (by omega), hF4 _ _ (by omega)]
            exact t1 u y i v hv (by have := hv.1; unfold erl; omega) hl, fun s hs hn => by rw [hF4 _ _ (by omega)]; exact t2 s hs hn⟩
          have hAH4 : AHB (D4 56 3) T acc ss a := by rw [h56]; exact AHB_ok ha.2
          refine yMono (thEnd_ok hL4 hP4 hS4 hA hB4 hZ (by rw [hF4 _ _ (by omega), hF3 _ _ (by unfold SLW SLk; omega)]; exact hY2) h0 hAH4 (by rw [hF4 _ _ (by omega)]; exact g14)) (fun D5 h5 => ⟨D4, hF4, h56, hB4, hAH4, h5.1, h5.2⟩)
      · exact yNeg (by rw [k2]; decide) (hk D3 fr3 g17 g16 hP3 (Or.inr (Or.inl ⟨k2, g14, a1, u0, y0, i0, v0, n0, m0, p0⟩)))
end
