/-! ===== the reference's search for a wrong answer of the hypothesis ===== -/
section
variable {D : Dm} {T : Tb} {acc : Int32} {ts ss : Tst} {b a Z : Nat}
/-- the hypothesis takes a state where the machine takes its short word -/
def AHB (AH : Int32) (T : Tb) (acc : Int32) (ss : Tst) (a : Nat) : Prop := ∀ u, u < a → ∀ r : Int32 × Int32, tk AH (nI u, r) = tk acc (cu T ss u)
theorem GH_P (ha : a ≤ 10) (A B : Cf) (n : Nat) (h : GH (kaN T acc ts b ss) a A B n) (hn : n ≤ 20) : okP A B := by
  obtain ⟨h1, ⟨u, hu, hb, hr⟩, h3, h4, h5⟩ := h
  exact ⟨okSt_st h1, Or.inr ⟨u, by omega, hb⟩, okC_mono h3 hn, okC_mono h4 hn⟩
theorem ka_lt (h : SR D ss a) (hT : wfT T) {u : Nat} (hu : u < a) : kaN T acc ts b ss u < 3 := by
  have := (kcr (T := T) (acc := acc) (ts := ts) (b := b) h hT hu).2.2
  unfold kaN; omega
theorem GH_room (h : SR D ss a) (hT : wfT T) (N : List Nd) (hN : okN (GH (kaN T acc ts b ss) a) N) : N.length ≤ 1351 := by
  have ha := h.1
  have e : okN (GH (fun u => if u < a then kaN T acc ts b ss u else 0) a) N := by
    obtain ⟨n1, n2, n3, n4, n5⟩ := hN
    refine ⟨n1, n2, n3, fun i hi => ?_, n5⟩
    obtain ⟨⟨g1, ⟨u, hu, g2, g3⟩, g4⟩, n6⟩ := n4 i hi
    exact ⟨⟨g1, ⟨u, hu, g2, by dsimp only; rw [if_pos hu]; exact g3⟩, g4⟩, n6⟩
  refine room_of (V := VH (fun u => if u < a then kaN T acc ts b ss u else 0) a) ?_ (GH_in (by omega)) e
  have := VH_len (κ := fun u => if u < a then kaN T acc ts b ss u else 0) (fun u => by
    show (if u < a then kaN T acc ts b ss u else 0) < 3
    split
    · rename_i hu; exact ka_lt h hT hu
    · omega) a
  omega
theorem fol_h (h : STN D T acc ts b ss a Z) (hZ : Z ≤ 2) {H : Dm} (hB : TBL H T acc ts b ss a Z (fun _ _ _ => True)) : FOL (GH (kaN T acc ts b ss) a) D T (hst (hyp H)) Z 1 := by
  intro D' N k y m hF hok hR hk hn hy hm
  have hD := h.fr (D' := D') (fun j q hq => hF j q (by unfold SKR; omega))
  have hS := hD.1.2.2.1
  have hT := hD.1.1.1
  have ha := hS.1
  have hl := hR.1
  obtain ⟨ek, -⟩ := hR.2.2.1 k hk
  have hgk := hok.2.2.2.1 k hk
  have hn20 := hgk.2.2
  have e6 : (6 : Int32) * nI k = nI (6 * k) := by rw [show (6 : Int32) = nI 6 from rfl, nI_mul]
  have a3 : nI (6 * k) + 3 = nI (6 * k + 3) := nI_add _ 3
  have a4 : nI (6 * k) + 4 = nI (6 * k + 4) := nI_add _ 4
  have a5 : nI (6 * k) + 5 = nI (6 * k + 5) := nI_add _ 5
  have eb : (D' 315 (6 * k + 3), D' 315 (6 * k + 4), D' 315 (6 * k + 5)) = (N.getD k nd0).1.2 := by rw [← ek]; rfl
  have hcl := GH_cl hS hT hZ hD.2.2.1 hB _ _ _ hgk.1 (by omega) y m hy hm
  obtain ⟨-, ⟨u, hu, hc, hr⟩, -, h4, -⟩ := hgk.1
  have es := hst_eq hS hT hZ hD.2.2.1 hB hu hy (show m < 2 ^ 31 - 1 by omega) hc hr
  unfold f_X12_follows
  refine yNeg (by show ¬ ((1 : Int32) = 0); decide) ?_
  rw [e6, a3, a4, a5, nI_clamp (by omega), nI_clamp (by omega), nI_clamp (by omega)]
  refine yGd (inB_nI (by omega) (by omega)) (yGd (inB_nI (by omega) (by omega)) (yGd (inB_nI (by omega) (by omega)) ?_))
  rw [guesses_ok, bV_d, eb]
  have hD1 : STN (setG D' (N.getD k nd0).1.2) T acc ts b ss a Z := hD.fr (fun j q hq => setG_fr j q (by omega))
  rw [guessGoes_ok hD1 hZ hu hy (show m < 2 ^ 31 - 1 by omega) gGue_set hc hr, bV_d, ← es]
  generalize hb : hst (hyp H) (N.getD k nd0).1.2 (nI y, nI m) = B at *
  generalize hD2 : setG (setG D' (N.getD k nd0).1.2) B = D2
  have hF2 : Fr (fun j k => j = 281 ∧ (66 ≤ k ∧ k ≤ 68)) D' D2 := by rw [← hD2]; exact setG_fr.tr setG_fr
  have b2 : gB 1 D2 = B := by
    show gGue D2 = B
    rw [← hD2]; exact gGue_set
  have hR2 : RR D2 N := hR.fr (hF2 _ _ (by omega)) (fun j q q1 q2 _ _ => hF2 _ _ (by omega))
  have := f99_ok (D := D2) (hD.1.1.fr (fun q => hF2 _ _ (by omega))) hR2 (g := 1) (Or.inr rfl) hk (by omega) hm (by omega) hn hgk.1.1 b2 (GH_P (by omega) _ _ _ hcl (by omega)) (fun hnc => ?_)
  · refine yMono this (fun r hr => ⟨(hF2.mono (fun j k q => by unfold SKR; omega)).tr hr.1, ?_⟩)
    unfold newN
    rw [hb]
    exact hr.2
  · obtain ⟨t1, -⟩ := try_ok (tA := tk acc) (tB := tk acc) (GH_cl hS hT hZ hD.2.2.1 hB) hZ hok hk hn hy hm
    unfold tryN at t1
    rw [hb, if_neg (by rw [hnc]; decide)] at t1
    have := GH_room hS hT _ t1
    simp at this
    omega
theorem unl_h (h : STN D T acc ts b ss a Z) {AH : Int32} (hAH : AHB AH T acc ss a) : UNL (GH (kaN T acc ts b ss) a) D (tk acc) (tk AH) 1 := by
  intro D' N i hF hok hR hi
  have hD := h.fr (D' := D') (fun j q hq => hF j q (by unfold SKR; omega))
  have ha := hD.1.2.2.1.1
  have hl := hR.1
  obtain ⟨ek, -⟩ := hR.2.2.1 i hi
  have hgk := hok.2.2.2.1 i hi
  obtain ⟨-, ⟨u, hu, hc, hr⟩, -, h4, -⟩ := hgk.1
  have e6 : (6 : Int32) * nI i = nI (6 * i) := by rw [show (6 : Int32) = nI 6 from rfl, nI_mul]
  have a3 : nI (6 * i) + 3 = nI (6 * i + 3) := nI_add _ 3
  have ea : D' 315 (6 * i) = (N.getD i nd0).1.1.1 := by rw [← ek]; rfl
  have eb : D' 315 (6 * i + 3) = nI u := by rw [← hc, ← ek]; rfl
  have tB : tk AH (N.getD i nd0).1.2 = tk acc (cu T ss u) := by
    have := hAH u hu (N.getD i nd0).1.2.2
    rw [← hc] at this
    exact this
  unfold f_X12_isUnlike
  rw [e6, a3, nI_clamp (by omega), nI_clamp (by omega)]
  refine yGd (inB_nI (by omega) (by omega)) ?_
  rw [r_stays, bV_d, (hD.1.1.fr (fun q => by rw [setR_ne (by decide)])).acc mc0, bI_d, getR_set, tk_st ea]
  refine yNeg (by show ¬ ((1 : Int32) = 0); decide) (yGd (inB_nI (by omega) (by omega)) ?_)
  rw [setR_ne (by decide), eb]
  have hFx : ∀ c, Fr SKR D' (setR D' c) := fun c => Fr.refl.r (by unfold SKR; omega) (by unfold SKR; omega) (by unfold SKR; omega)
  have hDx : ∀ c, RS (setR D' c) T acc ts b ss a := fun c => hD.1.fr (fun j q hq => by rw [setR_at, if_neg (by omega), if_neg (by omega), if_neg (by omega)])
  refine yBI (isGood_ok (hDx _) hu) (fun r D3 h3 => ?_)
  dsimp only at h3
  obtain ⟨er, hF3⟩ := h3
  have hF4 : Fr SKR D' D3 := (hFx _).tr (hF3.mono (fun j k q => by unfold SP2 at q; unfold SKR; omega))
  have hR4 : RR D3 N := hR.fr (by rw [hF3 _ _ (by unfold SP2; omega), setR_at, if_neg (by omega), if_neg (by omega), if_neg (by omega)]) (fun j q q1 q2 _ _ => by rw [hF3 _ _ (by unfold SP2; omega), setR_ne (by omega)])
  rw [er, tB]
  cases tk acc (N.getD i nd0).1.1 <;> cases tk acc (cu T ss u)
  · exact yPos rfl (yRet ⟨rfl, hF4, hR4⟩)
  · exact yNeg (by decide) (yRet ⟨rfl, hF4, hR4⟩)
  · exact yNeg (by decide) (yRet ⟨rfl, hF4, hR4⟩)
  · exact yPos rfl (yRet ⟨rfl, hF4, hR4⟩)
/-- the couples of machine and hypothesis, sought -/
def SH (T : Tb) (acc : Int32) (H : Dm) (AH : Int32) (Z : Nat) : List Nd × Bool := srch (step T) (hst (hyp H)) (tk acc) (tk AH) Z
theorem rfind_h (h : STN D T acc ts b ss a Z) (hZ : Z ≤ 2) {H : Dm} (hB : TBL H T acc ts b ss a Z (fun _ _ _ => True)) {AH : Int32} (hAH : AHB AH T acc ss a) (h0 : (ss 0).1 = []) : Y (f_X12_seeks 1 D) (fun r => snd D r.2 (SH T acc H AH Z) r.1 ∧ okN (GH (kaN T acc ts b ss) a) (SH T acc H AH Z).1) := by
  have ha := h.1.2.2.1.1
  have := seeks_ok (g := 1) (fol_h h hZ hB) (unl_h h hAH) (fun D' hF => by
    have hD := h.fr (D' := D') (fun j q hq => hF j q (by unfold SKR; omega))
    unfold f_X12_symbolsOf f_X12_symbolsOf_19
    rw [if_neg (by show ¬ ((1 : Int32) = 0); decide), its_ok (k := 2) (q := 2) mc0 rfl (by omega), show D' 282 (94 * 0 + 2) = nI Z from hD.2.1]
    rfl) (GH_cl h.1.2.2.1 h.1.1.1 hZ h.2.2.1 hB) hZ GH_C (Or.inr rfl) (GH_0 ha.1 h0)
  exact this
end
