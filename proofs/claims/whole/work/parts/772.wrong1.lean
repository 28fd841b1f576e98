/-! ===== the wrong answer found, class ===== -/
section
variable {D H : Dm} {T : Tb} {acc AH : Int32} {ts ss : Tst} {b a Z : Nat}
/-- the word at which the hypothesis is wrong -/
def wrW (T : Tb) (acc : Int32) (H : Dm) (AH : Int32) (Z : Nat) : List Lt := wdN (SH T acc H AH Z).1 ((SH T acc H AH Z).1.length - 1)
theorem found_ok (hS : SR D ss a) (hT : wfT T) (h0 : (ss 0).1 = []) (hN : okN (GH (kaN T acc ts b ss) a) (SH T acc H AH Z).1) (hAH : AHB AH T acc ss a) (hf : (SH T acc H AH Z).2 = true) : (wrW T acc H AH Z).length = nN ((SH T acc H AH Z).1.getD ((SH T acc H AH Z).1.length - 1) nd0) ∧ (wrW T acc H AH Z).length ≤ 20 ∧ LTR Z (wrW T acc H AH Z) ∧ PFX H T acc ts b ss a (wrW T acc H AH Z) ∧ mxA H T acc ts b ss (wrW T acc H AH Z) 0 ≠ mxA H T acc ts b ss (wrW T acc H AH Z) (wrW T acc H AH Z).length := by
  have ha := hS.1
  obtain ⟨lk, ht⟩ := lkd_srch (sA := step T) (sB := hst (hyp H)) (tA := tk acc) (tB := tk AH) (Z := Z)
  have lk : lkd (step T) (hst (hyp H)) Z (SH T acc H AH Z).1 := lk
  have ht := ht hf
  have ht : tk acc ((SH T acc H AH Z).1.getD ((SH T acc H AH Z).1.length - 1) nd0).1.1 ≠ tk AH ((SH T acc H AH Z).1.getD ((SH T acc H AH Z).1.length - 1) nd0).1.2 := ht
  have hl : (SH T acc H AH Z).1.length - 1 < (SH T acc H AH Z).1.length := by have := lk.2.1; omega
  unfold wrW
  generalize (SH T acc H AH Z).1.length - 1 = i at *
  generalize (SH T acc H AH Z).1 = N at *
  have hlen : (wdN N i).length = nN (N.getD i nd0) := by unfold wdN; rw [List.length_map, List.length_range]
  have h20 := (hN.2.2.2.1 i hl).2.2
  have pre := wd_pre hN lk hl
  have hP : PFX H T acc ts b ss a (wdN N i) := fun p hp => by
    rw [hlen] at hp
    rw [(pre p hp).2]
    obtain ⟨a1, a2, -⟩ := anc_ok hN hl (nN (N.getD i nd0) - p) (by omega)
    obtain ⟨⟨-, ⟨u, hu, g1, g2⟩, -, g3, -⟩, g4, g5⟩ := hN.2.2.2.1 _ a1
    exact ⟨u, hu, g1, g2, okC_mono g3 (by omega)⟩
  have hL : LTR Z (wdN N i) := fun x hx => by
    unfold wdN at hx
    obtain ⟨p, hp, e⟩ := List.mem_map.mp hx
    have hp := List.mem_range.mp hp
    obtain ⟨a1, a2, a3⟩ := anc_ok hN hl (nN (N.getD i nd0) - 1 - p) (by omega)
    obtain ⟨-, -, y', k, hy', hk, e1⟩ := hN.2.2.2.2 _ (a3 (by omega)) a1
    obtain ⟨-, -, -, y, hy, e2⟩ := lk.2.2 _ (a3 (by omega)) a1
    refine ⟨y', k, ?_, hk, by rw [← e]; exact e1⟩
    rw [e1] at e2
    by_cases c : y < 2 ^ 31
    · have : y' = y := nI_inj (by omega) c e2
      omega
    · omega
  refine ⟨hlen, by omega, hL, hP, ?_⟩
  rw [mx_0 h0, mx_end hS hT hP]
  obtain ⟨hu, hc, -, -⟩ := pf_ok hP ha.2 (Nat.le_refl _)
  have e := pre (wdN N i).length (by omega)
  rw [List.take_length, show nN (N.getD i nd0) - (wdN N i).length = 0 by omega] at e
  have e1 : run T c0 (wdN N i) = (N.getD i nd0).1.1 := e.1
  have e2 : pfc H (wdN N i) (wdN N i).length = (N.getD i nd0).1.2 := by
    unfold pfc; rw [List.take_length]; exact e.2
  rw [e1]
  have := hAH _ hu (N.getD i nd0).1.2.2
  rw [← hc, e2] at this
  rw [← this]
  exact ht
/-- the class's word -/
theorem WD_of {N : List Nd} {i : Nat} (h : spW D 60 N i) (h20 : nN (N.getD i nd0) ≤ 20) : WD D (wdN N i) := by
  have hlen : (wdN N i).length = nN (N.getD i nd0) := by unfold wdN; rw [List.length_map, List.length_range]
  refine ⟨by omega, by rw [hlen]; exact h.1.2.1, fun p hp => ?_⟩
  rw [hlen] at hp
  have e : (wdN N i).getD p (0, 0) = pl N i p := by
    unfold wdN
    rw [List.getD_eq_getElem?_getD, List.getElem?_map, List.getElem?_range hp]; rfl
  rw [e]
  exact h.2 p hp
abbrev STH (j k : Nat) : Prop := (25 ≤ j ∧ j ≤ 42) ∨ (60 ≤ j ∧ j ≤ 63) ∨ (68 ≤ j ∧ j ≤ 75) ∨ (j = 43 ∧ (k = 13 ∨ k = 14))
/-- what the class keeps of its hypothesis's trial -/
def THR (D D' : Dm) (T : Tb) (acc : Int32) (ts : Tst) (b : Nat) (ss : Tst) (H : Dm) (AH : Int32) (Z : Nat) : Prop :=
  ((SH T acc H AH Z).2 = false ∧ D' 43 13 = D 43 13 ∧ D' 43 14 = D 43 14 ∧ isW D' 60 0 ∧ ∀ j k, 68 ≤ j → j ≤ 71 → D' j k = D j k) ∨
  ((SH T acc H AH Z).2 = true ∧ D' 43 13 = 3 ∧ WD D' (wrW T acc H AH Z) ∧ ∃ s, spS H T acc ts b ss (wrW T acc H AH Z) = some s ∧ s < (wrW T acc H AH Z).length ∧ D' 43 14 = nI s ∧ PWd D' ((wrW T acc H AH Z).drop (s + 1)))
theorem thEnd_ok {E : Dm} (h : LCs D T acc ts b ss a) (hP : PS D T acc ts b ss a) (hS : SR E ss a) (hA : ALL T acc ts b ss a Z) (hB : TBL D T acc ts b ss a Z (fun _ _ _ => True)) (hZ : Z ≤ 2) (hY : D 9 2 = nI Z) (h0 : (ss 0).1 = []) (hAH : AHB (D 56 3) T acc ss a) (h14 : D 43 14 = -1) : Y (thEnd D) (fun D' => Fr STH D D' ∧ THR D D' T acc ts b ss D (D 56 3) Z) := by
  have ha := hS.1
  have hT := h.1.wfT
  unfold thEnd
  rw [hY]
  refine yBI (cfind_h h hS hA hB hZ h0 rfl) (fun r D1 h1 => ?_)
  dsimp only at h1
  obtain ⟨⟨er, -, -, -, hF1, hsp, hno⟩, hN⟩ := h1
  have hF1' : Fr STH D D1 := hF1.mono (fun j k q => by unfold STH; omega)
  rw [er]
  cases hf : (SH T acc D (D 56 3) Z).2 with
  | false =>
    refine yPos rfl (yRet ⟨hF1', Or.inl ⟨hf, hF1 _ _ (by omega), hF1 _ _ (by omega), hno hf, fun j k q1 q2 => hF1 _ _ (by omega)⟩⟩)
  | true =>
    refine yNeg (by decide) ?_
    obtain ⟨f1, f2, f3, f4, f5⟩ := found_ok hS hT h0 hN hAH hf
    have hW1 : WD D1 (wrW T acc D (D 56 3) Z) := WD_of (hsp hf) (by rw [← f1]; exact f2)
    obtain ⟨s, hs, hsl⟩ := spS_some f5
    rw [lt_d]
    generalize hE : ud D1 43 13 3 = E
    have oE : ∀ j k, ¬ (j = 43 ∧ k = 13) → E j k = D1 j k := fun j k q => by rw [← hE, ud_at, if_neg (by omega)]
    have hFE : ∀ j k, ¬ ((25 ≤ j ∧ j ≤ 42) ∨ (60 ≤ j ∧ j ≤ 63) ∨ (j = 43 ∧ k = 13)) → E j k = D j k := fun j k q => by rw [oE j k (by omega), hF1 j k (by omega)]
    have hLE : LCs E T acc ts b ss a := h.fr (fun j k q => hFE j k (by omega))
    have hPE : PS E T acc ts b ss a := hP.fr ha.2 (fun j k q1 q2 q3 => hFE j k (by omega))
    have hWE : WD E (wrW T acc D (D 56 3) Z) := hW1.fr (fun j k q => oE j k (by omega))
    have hHE : hyp E = hyp D := hyp_fr (fun j k q1 q2 => hFE j k (by omega))
    have e13 : E 43 13 = 3 := by rw [← hE, ud_at, if_pos ⟨rfl, rfl⟩]
    have e14 : E 43 14 = -1 := by rw [hFE _ _ (by omega)]; exact h14
    have t0 := tmx (i := 0) hLE hPE hWE hZ f3 hHE f4 (Nat.zero_le _)
    rw [nI_0] at t0
    refine yBI t0 (fun r2 D2 h2 => ?_)
    dsimp only at h2
    rw [h2.1]
    have hF2 := h2.2
    have hL2 : LCs D2 T acc ts b ss a := hLE.fr (fun j k q => hF2 j k (by omega))
    have hP2 : PS D2 T acc ts b ss a := hPE.fr ha.2 (fun j k q1 q2 q3 => hF2 j k (by omega))
    have hW2 : WD D2 (wrW T acc D (D 56 3) Z) := hWE.fr (fun j k q => hF2 j k (by omega))
    have hH2 : hyp D2 = hyp D := (hyp_fr (fun j k q1 q2 => hF2 j k (by omega))).trans hHE
    obtain ⟨z, hz⟩ := FUs (wrW T acc D (D 56 3) Z).length (by omega)
    have := th85 (Q := fun D' => Fr STH D D' ∧ THR D D' T acc ts b ss D (D 56 3) Z) hL2 hP2 hW2 hZ f3 hH2 f4 hs (fun D3 hF3 h3 => ?_) (wrW T acc D (D 56 3) Z).length 0 z D2 (by omega) Fr.refl (Or.inl ⟨by rw [hF2 _ _ (by omega)]; exact e14, Nat.zero_le _⟩)
    · rw [nI_0] at this
      rw [hz]
      exact this
    · have hW3 : WD D3 (wrW T acc D (D 56 3) Z) := hW2.fr (fun j k q => hF3 j k (by unfold S85; omega))
      refine yMono (th126 hW3 h3 hsl) (fun D4 h4 => ⟨?_, Or.inr ⟨hf, ?_, ?_, s, hs, hsl, ?_, h4.2⟩⟩)
      · intro j k q
        unfold STH at q
        rw [h4.1 j k (by omega), hF3 j k (by unfold S85; omega), hF2 j k (by omega), hFE j k (by omega)]
      · rw [h4.1 _ _ (by omega), hF3 _ _ (by unfold S85; omega), hF2 _ _ (by omega)]; exact e13
      · exact hW3.fr (fun j k q => h4.1 j k (by omega))
      · rw [h4.1 _ _ (by omega)]; exact h3
end
