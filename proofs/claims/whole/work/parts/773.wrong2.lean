/-! ===== the wrong answer found, reference ===== -/
def xj (j : Nat) : Int32 := if j = 0 then -1 else nI (j - 1)
theorem xj_s {j : Nat} : nI j + (-1) = xj j := by
  unfold xj
  split
  · rename_i e; rw [e]; rfl
  · have e : nI j = nI (j - 1) + 1 := by rw [nI_1, show j - 1 + 1 = j by omega]
    rw [e, Int32.add_assoc, show (1 : Int32) + -1 = 0 from rfl, Int32.add_zero]
theorem xj_m {j : Nat} : nI j - 1 = xj j := by
  rw [← xj_s, Int32.sub_eq_add_neg]
section
variable {D H : Dm} {T : Tb} {acc AH : Int32} {ts ss : Tst} {b a Z : Nat}
theorem fw36 {G : Cf → Cf → Nat → Prop} {N : List Nd} (hN : okN G N) (hR : RR D N) {i : Nat} (hi : i < N.length) : ∀ (j m : Nat) (E : Dm), j ≤ nN (N.getD i nd0) → Fr (fun j k => j = 308 ∨ j = 309) D E → (∀ q, j ≤ q → q < nN (N.getD i nd0) → E 308 q = (pl N i q).1 ∧ E 309 q = (pl N i q).2) → Y (f_X12_findsWrong_36 (j + 1 + m) (nI (anc N (nN (N.getD i nd0) - j) i)) (xj j) E) (fun E' => Fr (fun j k => j = 308 ∨ j = 309) D E' ∧ ∀ q, q < nN (N.getD i nd0) → E' 308 q = (pl N i q).1 ∧ E' 309 q = (pl N i q).2) := by
  have h20 := (hN.2.2.2.1 i hi).2.2
  have hlen := hR.1
  intro j
  induction j with
  | zero =>
    intro m E hj hF hq
    rw [show 0 + 1 + m = m + 1 by omega]
    show Y (f_X12_findsWrong_36_b _ _ _ _) _
    unfold f_X12_findsWrong_36_b
    exact yPos (by decide) (yRet ⟨hF, fun q hq' => hq q (Nat.zero_le _) hq'⟩)
  | succ j ih =>
    intro m E hj hF hq
    rw [show j + 1 + 1 + m = (j + 1 + m) + 1 by omega]
    show Y (f_X12_findsWrong_36_b _ _ _ _) _
    unfold f_X12_findsWrong_36_b
    obtain ⟨a1, a2, a3⟩ := anc_ok hN hi (nN (N.getD i nd0) - (j + 1)) (by omega)
    have an0 := a3 (by omega)
    have enx : nP (N.getD (anc N (nN (N.getD i nd0) - (j + 1)) i) nd0) = anc N (nN (N.getD i nd0) - j) i := by
      rw [show nN (N.getD i nd0) - j = (nN (N.getD i nd0) - (j + 1)) + 1 by omega]; rfl
    have el : pl N i j = nL (N.getD (anc N (nN (N.getD i nd0) - (j + 1)) i) nd0) := by
      unfold pl
      rw [show nN (N.getD i nd0) - 1 - j = nN (N.getD i nd0) - (j + 1) by omega]
    obtain ⟨-, -, -, r4⟩ := hR.2.2.1 _ a1
    obtain ⟨r10, r11, r12⟩ := r4 an0
    rw [← el] at r11 r12
    rw [enx] at r10
    generalize anc N (nN (N.getD i nd0) - (j + 1)) i = A at *
    have ex : xj (j + 1) = nI j := by unfold xj; rw [if_neg (by omega), Nat.add_sub_cancel]
    rw [ex]
    refine yNeg (by rw [← nI_0]; exact nI_nlt (by omega) (by omega)) (yGd (inB_nI (by omega) (by omega)) (yGd (inB_nI (by omega) (by omega)) ?_))
    rw [nI_clamp (show A < 2 ^ 31 by omega), nI_clamp (show j < 2 ^ 31 by omega), hF 311 A (by omega), r11]
    refine yLt (fun E1 hE1 => yGd (inB_nI (by omega) (by omega)) (yGd (inB_nI (by omega) (by omega)) ?_))
    have o1 : ∀ j' k', ¬ (j' = 308) → E1 j' k' = E j' k' := fun j' k' q => by rw [hE1, ud_at, if_neg (by omega)]
    rw [o1 312 A (by omega), hF 312 A (by omega), r12]
    refine yLt (fun E2 hE2 => yGd (inB_nI (by omega) (by omega)) ?_)
    have o2 : ∀ j' k', ¬ (j' = 308 ∨ j' = 309) → E2 j' k' = E j' k' := fun j' k' q => by rw [hE2, ud_at, if_neg (by omega), o1 _ _ (by omega)]
    rw [o2 310 A (by omega), hF 310 A (by omega), r10, lt_d, lt_d, xj_s]
    refine ih m E2 (by omega) (fun j' k' q => by rw [o2 j' k' q]; exact hF j' k' q) (fun q h1 h2 => ?_)
    by_cases c : q = j
    · rw [c, hE2, ud_at, if_neg (by omega), ud_at, if_pos ⟨rfl, rfl⟩, hE1, ud_at, if_pos ⟨rfl, rfl⟩]
      exact ⟨rfl, rfl⟩
    · rw [hE2, ud_at, if_neg (by omega), ud_at, if_neg (by omega), hE1, ud_at, if_neg (by omega), ud_at, if_neg (by omega)]
      exact hq q (by omega) h2
abbrev SFW (j k : Nat) : Prop := SKR j k ∨ j = 308 ∨ j = 309 ∨ (j = 281 ∧ k = 64)
theorem findsWrong_ok (h : STN D T acc ts b ss a Z) (hZ : Z ≤ 2) (hB : TBL H T acc ts b ss a Z (fun _ _ _ => True)) (hAH : AHB AH T acc ss a) (h0 : (ss 0).1 = []) : Y (f_X12_findsWrong D) (fun D' => Fr SFW D D' ∧ okN (GH (kaN T acc ts b ss) a) (SH T acc H AH Z).1 ∧ (((SH T acc H AH Z).2 = false ∧ D' 281 64 = D 281 64) ∨ ((SH T acc H AH Z).2 = true ∧ WR D' (wrW T acc H AH Z)))) := by
  unfold f_X12_findsWrong
  rw [guesses_ok, bV_d]
  have h1 : STN (setG D (0, -1, -1)) T acc ts b ss a Z := h.fr (fun j k q => setG_fr j k (by omega))
  have hG : Fr SFW D (setG D (0, -1, -1)) := setG_fr.mono (fun j k q => by unfold SFW SKR; omega)
  refine yBI (rfind_h h1 hZ hB hAH h0) (fun r D1 h2 => ?_)
  dsimp only at h2
  obtain ⟨⟨er, hR, hF1⟩, hN⟩ := h2
  have hF : Fr SFW D D1 := hG.tr (hF1.mono (fun j k q => Or.inl q))
  cases hf : (SH T acc H AH Z).2 with
  | false =>
    rw [hf] at er
    refine yPos (by rw [er]; rfl) (yRet ⟨hF, hN, Or.inl ⟨rfl, ?_⟩⟩)
    rw [hF1 _ _ (by unfold SKR; omega), setG_fr _ _ (by omega)]
  | true =>
    rw [hf, if_pos rfl] at er
    have hlen := hR.1
    have hl : (SH T acc H AH Z).1.length - 1 < (SH T acc H AH Z).1.length := by have := hN.1; omega
    rw [er]
    unfold wrW
    generalize (SH T acc H AH Z).1.length - 1 = i at *
    generalize (SH T acc H AH Z).1 = N at *
    have h20 := (hN.2.2.2.1 i hl).2.2
    have hwl : (wdN N i).length = nN (N.getD i nd0) := by unfold wdN; rw [List.length_map, List.length_range]
    refine yNeg (nI_n1 (by omega)) (yGd (inB_nI (by omega) (by omega)) ?_)
    rw [nI_clamp (by omega), (hR.2.2.1 i hl).2.1]
    refine yLt (fun D2 hD2 => ?_)
    have e64 : D2 281 64 = nI (nN (N.getD i nd0)) := by rw [hD2, ud_at, if_pos ⟨rfl, rfl⟩]
    rw [lt_d, e64, xj_m]
    have hR2 : RR D2 N := hR.fr (by rw [hD2, ud_at, if_neg (by omega)]) (fun j k q1 q2 _ _ => by rw [hD2, ud_at, if_neg (by omega)])
    obtain ⟨z, hz⟩ := FUs (nN (N.getD i nd0)) (by omega)
    have := fw36 hN hR2 hl (nN (N.getD i nd0)) z D2 (Nat.le_refl _) Fr.refl (fun q q1 q2 => by omega)
    rw [Nat.sub_self] at this
    rw [hz]
    refine yMono this (fun D3 h3 => ⟨?_, hN, Or.inr ⟨rfl, by omega, ?_, fun p hp => ?_⟩⟩)
    · intro j k q
      unfold SFW at q
      rw [h3.1 j k (by omega), hD2, ud_at, if_neg (by omega)]
      exact hF j k (by unfold SFW; exact q)
    · rw [h3.1 _ _ (by omega), hwl]; exact e64
    · rw [hwl] at hp
      have e : (wdN N i).getD p (0, 0) = pl N i p := by
        unfold wdN
        rw [List.getD_eq_getElem?_getD, List.getElem?_map, List.getElem?_range hp]; rfl
      rw [e]
      exact h3.2 p hp
abbrev SRE (j k : Nat) : Prop := SFW j k ∨ SSP j k ∨ (j = 281 ∧ k = 55)
/-- what the reference keeps of the hypothesis's trial -/
def RHR (D D' : Dm) (T : Tb) (acc : Int32) (ts : Tst) (b : Nat) (ss : Tst) (H : Dm) (AH : Int32) (Z : Nat) : Prop :=
  ((SH T acc H AH Z).2 = false ∧ D' 281 55 = 0 ∧ D' 281 64 = D 281 64 ∧ D' 281 65 = D 281 65) ∨
  ((SH T acc H AH Z).2 = true ∧ D' 281 55 = 3 ∧ WR D' (wrW T acc H AH Z) ∧ ∃ s, spS H T acc ts b ss (wrW T acc H AH Z) = some s ∧ s < (wrW T acc H AH Z).length ∧ D' 281 65 = nI s)
theorem lyEnd_ok (h : STN D T acc ts b ss a Z) (hZ : Z ≤ 2) (hZ1 : 1 ≤ Z) (hB : TBL H T acc ts b ss a Z (fun _ _ _ => True)) (hAH : AHB AH T acc ss a) (h0 : (ss 0).1 = []) (h64 : D 281 64 = -1) : Y (lyEnd D) (fun D' => Fr SRE D D' ∧ RHR D D' T acc ts b ss H AH Z) := by
  unfold lyEnd
  refine yBV (findsWrong_ok h hZ hB hAH h0) (fun D1 h1 => ?_)
  obtain ⟨hF1, hN, hc⟩ := h1
  have hF : Fr SRE D D1 := hF1.mono (fun j k q => Or.inl q)
  unfold f_X12_lays_191
  rcases hc with ⟨hf, e64⟩ | ⟨hf, hW⟩
  · refine yPos (by rw [e64]; exact h64) ?_
    rw [lt_d]
    have e5 : ud D1 281 55 0 281 55 = 0 := by rw [ud_at, if_pos ⟨rfl, rfl⟩]
    refine yNeg (by rw [e5]; decide) (yRet ⟨hF.ud (by unfold SRE; omega), Or.inl ⟨hf, by rw [ud_at, if_pos ⟨rfl, rfl⟩], by rw [ud_at, if_neg (by omega)]; exact e64, ?_⟩⟩)
    rw [ud_at, if_neg (by omega), hF1 _ _ (by unfold SFW SKR; omega)]
  · have w20 := hW.1
    obtain ⟨f1, f2, f3, f4, f5⟩ := found_ok h.1.2.2.1 h.1.1.1 h0 hN hAH hf
    obtain ⟨s, hs, hsl⟩ := spS_some f5
    refine yNeg (by rw [hW.2.1]; exact nI_n1 (by omega)) ?_
    rw [lt_d]
    have e5 : ud D1 281 55 3 281 55 = 3 := by rw [ud_at, if_pos ⟨rfl, rfl⟩]
    refine yPos e5 ?_
    generalize hE : ud D1 281 55 3 = E
    have oE : ∀ j k, ¬ (j = 281 ∧ k = 55) → E j k = D1 j k := fun j k q => by rw [← hE, ud_at, if_neg (by omega)]
    have hWE : WR E (wrW T acc H AH Z) := ⟨w20, by rw [oE _ _ (by omega)]; exact hW.2.1, fun p hp => by rw [oE _ _ (by omega), oE _ _ (by omega)]; exact hW.2.2 p hp⟩
    have hSE : STN E T acc ts b ss a Z := h.fr (fun j k q => by rw [oE j k (by omega), hF1 j k (by unfold SFW SKR; omega)])
    refine yBV (splits0_ok hSE hZ hZ1 hB hWE f3 f4 hs) (fun D2 h2 => yRet ⟨?_, Or.inr ⟨hf, ?_, ?_, s, hs, hsl, h2.2⟩⟩)
    · intro j k q
      unfold SRE at q
      rw [h2.1 j k (fun z => q (Or.inr (Or.inl z))), oE j k (fun z => q (Or.inr (Or.inr z)))]
      exact hF1 j k (fun z => q (Or.inl z))
    · rw [h2.1 _ _ (by unfold SSP SMG; omega), ← hE, ud_at, if_pos ⟨rfl, rfl⟩]
    · exact ⟨w20, by rw [h2.1 _ _ (by unfold SSP SMG; omega)]; exact hWE.2.1, fun p hp => by rw [h2.1 _ _ (by unfold SSP SMG; omega), h2.1 _ _ (by unfold SSP SMG; omega)]; exact hWE.2.2 p hp⟩
end
