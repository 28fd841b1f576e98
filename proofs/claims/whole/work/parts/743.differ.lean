/-! ===== two machines: differ, differs, couples ===== -/
/-- both machines, in the class and in the reference -/
def MM (D : Dm) (T0 T1 : Tb) (k0 k1 : Int32) (Y0 Y1 : Nat) : Prop := RM D 0 ∧ RM D 1 ∧ T0 = (D 10, D 11, D 12) ∧ T1 = (D 14, D 15, D 16) ∧ k0 = D 9 3 ∧ k1 = D 13 3 ∧ D 9 2 = nI Y0 ∧ D 13 2 = nI Y1 ∧ (1 ≤ Y0 ∧ Y0 ≤ 2) ∧ (1 ≤ Y1 ∧ Y1 ≤ 2)
theorem RM.fr {D D' : Dm} {m : Nat} (h : RM D m) (hm : m < 2) (hF : ∀ j k, ((9 ≤ j ∧ j ≤ 16) ∨ j = 282) → D' j k = D j k) : RM D' m := by
  have e : ∀ j, ((9 ≤ j ∧ j ≤ 16) ∨ j = 282) → D' j = D j := fun j hj => funext (fun k => hF j k hj)
  unfold RM rTo rKe rDr at h ⊢
  rw [e (9 + 4 * m) (by omega), e (9 + 4 * m + 1) (by omega), e (9 + 4 * m + 2) (by omega), e (9 + 4 * m + 3) (by omega), e 282 (by omega)]
  exact h
theorem MM.fr {D D' : Dm} {T0 T1 : Tb} {k0 k1 : Int32} {Y0 Y1 : Nat} (h : MM D T0 T1 k0 k1 Y0 Y1) (hF : ∀ j k, ((9 ≤ j ∧ j ≤ 16) ∨ j = 282) → D' j k = D j k) : MM D' T0 T1 k0 k1 Y0 Y1 := by
  have e : ∀ j, ((9 ≤ j ∧ j ≤ 16) ∨ j = 282) → D' j = D j := fun j hj => funext (fun k => hF j k hj)
  obtain ⟨h1, h2, h3⟩ := h
  refine ⟨h1.fr (by omega) hF, h2.fr (by omega) hF, ?_⟩
  rw [e 10 (by omega), e 11 (by omega), e 12 (by omega), e 14 (by omega), e 15 (by omega), e 16 (by omega), e 9 (by omega), e 13 (by omega)]
  exact h3
section
variable {D : Dm} {T0 T1 : Tb} {k0 k1 : Int32} {Y0 Y1 : Nat}
theorem MM.mc (h : MM D T0 T1 k0 k1 Y0 Y1) : MC D T0 k0 := ⟨h.1.1, h.2.2.1, h.2.2.2.2.1⟩
theorem MM.w1 (h : MM D T0 T1 k0 k1 Y0 Y1) : wfT T1 := by rw [h.2.2.2.1]; exact h.2.1.1.tb
theorem MM.r0 (h : MM D T0 T1 k0 k1 Y0 Y1) : MR D 0 T0 k0 := by
  refine ⟨h.mc.wfT, fun k hk => ?_, ?_⟩
  · rw [h.2.2.1]; exact h.1.2.2.2.2.2 k hk
  · rw [h.2.2.2.2.1]; exact h.1.2.2.2.2.1
theorem MM.r1 (h : MM D T0 T1 k0 k1 Y0 Y1) : MR D 1 T1 k1 := by
  refine ⟨h.w1, fun k hk => ?_, ?_⟩
  · rw [h.2.2.2.1]; exact h.2.1.2.2.2.2.2 k hk
  · rw [h.2.2.2.2.2.1]; exact h.2.1.2.2.2.2.1
theorem MM.y0 (h : MM D T0 T1 k0 k1 Y0 Y1) : D 282 2 = nI Y0 := by
  have := h.1.2.2.2.1
  rw [show D 282 2 = D 9 2 from this]; exact h.2.2.2.2.2.2.1
theorem MM.y1 (h : MM D T0 T1 k0 k1 Y0 Y1) : D 282 96 = nI Y1 := by
  have := h.2.1.2.2.2.1
  rw [show D 282 96 = D 13 2 from this]; exact h.2.2.2.2.2.2.2.1
theorem mm_adv (h : MM D T0 T1 k0 k1 Y0 Y1) {c : Cf} {y nm : Int32} (hc : getGo D 38 = c) (hs : okSt c.1) (hy : isSy y) : f_X4_advance 13 38 y nm D = some (setGo D 38 (step T1 c (y, nm))) := by
  rw [adv_ok (r := 13) h.2.1.1 (show okSt (D 38 0) by rw [← hc] at hs; exact hs) hy (by omega) (by omega), hc, h.2.2.2.1]
  rfl
theorem mm_tak (h : MM D T0 T1 k0 k1 Y0 Y1) : f_X4_takes 13 38 D = some (b01 (tk k1 (getGo D 38)), D) := by
  rw [takes_ok, h.2.2.2.2.2.1]
theorem GM_P (a b : Cf) (n : Nat) (h : GM a b n) (hn : n ≤ 20) : okP a b := ⟨okSt_st h.1, (okSt_st h.2.1).imp id (fun ⟨k, hk, e⟩ => ⟨k, by omega, e⟩), okC_mono h.2.2.1 hn, okC_mono h.2.2.2.1 hn⟩
theorem GM_C (a b : Cf) (n : Nat) (h : GM a b n) : okSt a.1 ∧ okC a n ∧ okC b n := ⟨h.1, h.2.2.1, h.2.2.2.1⟩
theorem GM_room (N : List Nd) (h : okN GM N) : N.length ≤ 1351 := room_of (V := VM) (by rw [VM_len]; omega) GM_in h
/-- the search of both machines -/
def SM (T0 T1 : Tb) (k0 k1 : Int32) (Y0 Y1 : Nat) : List Nd × Bool := srch (step T0) (step T1) (tk k0) (tk k1) (max Y0 Y1)
theorem cfind (h : MM D T0 T1 k0 k1 Y0 Y1) : Y (f_X8_find_m (nI (max Y0 Y1)) 262 D) (fun r => fnd D r.2 262 (SM T0 T1 k0 k1 Y0 Y1) r.1 ∧ okN GM (SM T0 T1 k0 k1 Y0 Y1).1) := by
  have hy := h.2.2.2.2.2.2.2.2
  have hD : ∀ {D' : Dm}, Fr SG (ud (ud D 262 3 0) 262 4 0) D' → MM D' T0 T1 k0 k1 Y0 Y1 := fun hF => h.fr (fun j k q => by
    rw [hF j k (by unfold SG; omega), ud_at, if_neg (by omega), ud_at, if_neg (by omega)])
  exact find_m_ok (hD (Fr.refl)).mc (by omega) (fun D' a b n y nm hF hG hb hy => mm_adv (hD hF) hb hG.2.1 hy) (fun D' hF => mm_tak (hD hF)) (GM_cl h.mc.wfT h.w1 (by omega)) (by omega) GM_P GM_C GM_room GM_0 rfl
theorem tk_st {acc s a b : Int32} {c : Cf} (h : s = c.1) : tk acc (s, a, b) = tk acc c := by
  unfold tk; rw [h]
theorem fol_m (h : MM D T0 T1 k0 k1 Y0 Y1) {Z : Nat} (hZ : Z ≤ 2) : FOL GM D T0 (step T1) Z 0 := by
  intro D' N k y m hF hok hR hk hn hy hm
  have hD := h.fr (D' := D') (fun j q hq => hF j q (by unfold SKR; omega))
  have hl := hR.1
  obtain ⟨ek, -⟩ := hR.2.2.1 k hk
  have hgk := hok.2.2.2.1 k hk
  have e6 : (6 : Int32) * nI k = nI (6 * k) := by rw [show (6 : Int32) = nI 6 from rfl, nI_mul]
  have a3 : nI (6 * k) + 3 = nI (6 * k + 3) := nI_add _ 3
  have a4 : nI (6 * k) + 4 = nI (6 * k + 4) := nI_add _ 4
  have a5 : nI (6 * k) + 5 = nI (6 * k + 5) := nI_add _ 5
  have eb : (D' 315 (6 * k + 3), D' 315 (6 * k + 4), D' 315 (6 * k + 5)) = (N.getD k nd0).1.2 := by rw [← ek]; rfl
  have hcl := GM_cl h.mc.wfT h.w1 hZ _ _ _ hgk.1 (by omega) y m hy hm
  unfold f_X12_follows
  refine yPos nI_0 ?_
  rw [e6, a3, a4, a5, nI_clamp (by omega), nI_clamp (by omega), nI_clamp (by omega)]
  refine yGd (inB_nI (by omega) (by omega)) (yGd (inB_nI (by omega) (by omega)) (yGd (inB_nI (by omega) (by omega)) ?_))
  rw [r_stays, bV_d, eb]
  rw [(hD.r1.fr (fun q => by rw [setR_ne (by decide)])).go mc1 (by rw [show setR D' (N.getD k nd0).1.2 281 3 = (N.getD k nd0).1.2.1 by simp [setR_at]]; exact hgk.1.2.1) (isSy_n (by omega)), bV_d, getR_set, setR_set]
  generalize hb : step T1 (N.getD k nd0).1.2 (nI y, nI m) = b at *
  unfold f_X12_keepsPair
  simp only [lt_d, bV_d]
  generalize hD2 : ud (ud (ud (setR D' b) 281 78 (setR D' b 281 3)) 281 79 (ud (setR D' b) 281 78 (setR D' b 281 3) 281 4)) 281 80 (ud (ud (setR D' b) 281 78 (setR D' b 281 3)) 281 79 (ud (setR D' b) 281 78 (setR D' b 281 3) 281 4) 281 5) = D2
  have hF2 : Fr (fun j k => j = 281 ∧ (k = 3 ∨ k = 4 ∨ k = 5 ∨ (78 ≤ k ∧ k ≤ 80))) D' D2 := by
    rw [← hD2]; exact (((Fr.refl.r (by omega) (by omega) (by omega)).ud (by omega)).ud (by omega)).ud (by omega)
  have b2 : gB 0 D2 = b := by
    show gPair D2 = b
    unfold gPair
    rw [← hD2]
    simp [ud_at, setR_at]
  have hR2 : RR D2 N := hR.fr (hF2 _ _ (by omega)) (fun j q q1 q2 _ _ => hF2 _ _ (by omega))
  have := f99_ok (D := D2) (hD.r0.fr (fun q => hF2 _ _ (by omega))) hR2 (g := 0) (Or.inl rfl) hk (by omega) hm (by omega) hn hgk.1.1 b2 (GM_P _ _ _ hcl (by omega)) (fun hnc => ?_)
  · refine yMono this (fun r hr => ⟨(hF2.mono (fun j k q => by unfold SKR; omega)).tr hr.1, ?_⟩)
    unfold newN
    rw [hb]
    exact hr.2
  · obtain ⟨t1, -⟩ := try_ok (tA := tk k0) (tB := tk k1) (GM_cl h.mc.wfT h.w1 hZ) hZ hok hk hn hy hm
    unfold tryN at t1
    rw [hb, if_neg (by rw [hnc]; decide)] at t1
    have := GM_room _ t1
    simp at this
    omega
theorem unl_m (h : MM D T0 T1 k0 k1 Y0 Y1) : UNL GM D (tk k0) (tk k1) 0 := by
  intro D' N i hF hok hR hi
  have hD := h.fr (D' := D') (fun j q hq => hF j q (by unfold SKR; omega))
  have hl := hR.1
  obtain ⟨ek, -⟩ := hR.2.2.1 i hi
  have e6 : (6 : Int32) * nI i = nI (6 * i) := by rw [show (6 : Int32) = nI 6 from rfl, nI_mul]
  have a3 : nI (6 * i) + 3 = nI (6 * i + 3) := nI_add _ 3
  have ea : D' 315 (6 * i) = (N.getD i nd0).1.1.1 := by rw [← ek]; rfl
  have eb : D' 315 (6 * i + 3) = (N.getD i nd0).1.2.1 := by rw [← ek]; rfl
  unfold f_X12_isUnlike
  rw [e6, a3, nI_clamp (by omega), nI_clamp (by omega)]
  refine yGd (inB_nI (by omega) (by omega)) ?_
  rw [r_stays, bV_d, (hD.r0.fr (fun q => by rw [setR_ne (by decide)])).acc mc0, bI_d, getR_set, tk_st ea]
  refine yPos nI_0 (yGd (inB_nI (by omega) (by omega)) ?_)
  rw [setR_ne (by decide), r_stays, bV_d, (hD.r1.fr (fun q => by rw [setR_ne (by decide), setR_ne (by decide)])).acc mc1, bI_d, getR_set, tk_st eb, setR_set]
  have hFx : ∀ c, Fr SKR D' (setR D' c) := fun c => Fr.refl.r (by unfold SKR; omega) (by unfold SKR; omega) (by unfold SKR; omega)
  have hRx : ∀ c, RR (setR D' c) N := fun c => hR.fr (by rw [setR_at, if_neg (by omega), if_neg (by omega), if_neg (by omega)]) (fun j q q1 q2 _ _ => by rw [setR_ne (by omega)])
  cases tk k0 (N.getD i nd0).1.1 <;> cases tk k1 (N.getD i nd0).1.2
  · exact yPos rfl (yRet ⟨rfl, hFx _, hRx _⟩)
  · exact yNeg (by decide) (yRet ⟨rfl, hFx _, hRx _⟩)
  · exact yNeg (by decide) (yRet ⟨rfl, hFx _, hRx _⟩)
  · exact yPos rfl (yRet ⟨rfl, hFx _, hRx _⟩)
theorem sym_m (h : MM D T0 T1 k0 k1 Y0 Y1) : f_X12_symbolsOf 0 D = some (nI (max Y0 Y1), D) := by
  have hy := h.2.2.2.2.2.2.2.2
  unfold f_X12_symbolsOf f_X12_symbolsOf_19
  have i0 : f_X12_its 0 2 D = some (nI Y0, D) := by rw [its_ok (k := 2) (q := 2) mc0 rfl (by omega), show D 282 (94 * 0 + 2) = nI Y0 from h.y0]
  have i1 : f_X12_its 1 2 D = some (nI Y1, D) := by rw [its_ok (x := 1) (k := 2) (q := 2) mc1 rfl (by omega), show D 282 (94 * 1 + 2) = nI Y1 from h.y1]
  rw [if_pos rfl, i0, bI_d, i1, bI_d, i1, i0, bI_d, bI_d]
  by_cases c : Y0 ≤ Y1
  · rw [if_pos (nI_le c (by omega)), show max Y0 Y1 = Y1 by omega]
  · rw [if_neg (nI_nle2 (by omega) (by omega)), show max Y0 Y1 = Y0 by omega]
theorem rfind (h : MM D T0 T1 k0 k1 Y0 Y1) : Y (f_X12_seeks 0 D) (fun r => snd D r.2 (SM T0 T1 k0 k1 Y0 Y1) r.1 ∧ okN GM (SM T0 T1 k0 k1 Y0 Y1).1) := by
  have hy := h.2.2.2.2.2.2.2.2
  have := seeks_ok (g := 0) (fol_m h (Z := max Y0 Y1) (by omega)) (unl_m h) (fun D' hF => by rw [nI_0]; exact sym_m (h.fr (fun j q hq => hF j q (by unfold SKR; omega)))) (GM_cl h.mc.wfT h.w1 (by omega)) (by omega) GM_C (Or.inl rfl) GM_0
  rw [nI_0] at this
  exact this
/-- what the class keeps of the comparison -/
def CI (D : Dm) (R : List Nd × Bool) : Prop := D 0 10 = 0 ∨ (D 0 10 = 1 ∧ D 0 11 = b01 (!R.2) ∧ D 0 12 = nI R.1.length ∧ (R.2 = true → spW D 262 R.1 (R.1.length - 1)) ∧ (R.2 = false → isW D 262 0))
abbrev SCC (j k : Nat) : Prop := (25 ≤ j ∧ j ≤ 42) ∨ (262 ≤ j ∧ j ≤ 265) ∨ (j = 0 ∧ (k = 10 ∨ k = 11 ∨ k = 12))
theorem cmp_ok (h : MM D T0 T1 k0 k1 Y0 Y1) (hC : CI D (SM T0 T1 k0 k1 Y0 Y1)) : Y (f_X11_compareMachines D) (fun D' => Fr SCC D D' ∧ D' 0 10 = 1 ∧ CI D' (SM T0 T1 k0 k1 Y0 Y1)) := by
  have hy := h.2.2.2.2.2.2.2.2
  unfold f_X11_compareMachines
  refine yIte (fun e => yLt (fun D1 hD1 => ?_)) (fun e => yRet ?_)
  · have h1 : MM D1 T0 T1 k0 k1 Y0 Y1 := h.fr (fun j k q => by rw [hD1, ud_at, if_neg (by omega)])
    rw [lt_d, h1.2.2.2.2.2.2.1, h1.2.2.2.2.2.2.2.1, mx5 _ (by omega) _ (by omega)]
    refine yBI (cfind h1) (fun r D2 h2 => ?_)
    dsimp only at h2
    obtain ⟨⟨er, e14, hl, hl0, hF2, hs, hn⟩, hok⟩ := h2
    have o10 : D2 0 10 = 1 := by rw [hF2 _ _ (by omega), hD1, ud_at, if_pos ⟨rfl, rfl⟩]
    have fin : ∀ (v : Int32) (D3 : Dm), D3 = ud (ud D2 0 11 v) 0 12 (nI (SM T0 T1 k0 k1 Y0 Y1).1.length) → v = b01 (!(SM T0 T1 k0 k1 Y0 Y1).2) → Fr SCC D D3 ∧ D3 0 10 = 1 ∧ CI D3 (SM T0 T1 k0 k1 Y0 Y1) := by
      intro v D3 hD3 hv
      have o : ∀ j k, ¬ (j = 0 ∧ (k = 11 ∨ k = 12)) → D3 j k = D2 j k := fun j k q => by rw [hD3, ud_at, if_neg (by omega), ud_at, if_neg (by omega)]
      refine ⟨fun j k q => ?_, by rw [o _ _ (by omega)]; exact o10, Or.inr ⟨by rw [o _ _ (by omega)]; exact o10, ?_, ?_, fun q => ⟨?_, fun p hp => ?_⟩, fun q => ?_⟩⟩
      · unfold SCC at q
        rw [o j k (by omega), hF2 j k (by omega), hD1, ud_at, if_neg (by omega)]
      · rw [hD3, ud_at, if_neg (by omega), ud_at, if_pos ⟨rfl, rfl⟩, hv]
      · rw [hD3, ud_at, if_pos ⟨rfl, rfl⟩]
      · exact isW_congr (hs q).1 (o _ _ (by omega)) (o _ _ (by omega)) (fun k hk => o _ _ (by omega)) (fun k hk => o _ _ (by omega))
      · rw [o _ _ (by omega), o _ _ (by omega)]; exact (hs q).2 p hp
      · exact isW_congr (hn q) (o _ _ (by omega)) (o _ _ (by omega)) (fun k hk => o _ _ (by omega)) (fun k hk => o _ _ (by omega))
    unfold f_X11_compareMachines_68
    rw [er]
    have e14' : ∀ v, ud D2 0 11 v 25 14 = nI (SM T0 T1 k0 k1 Y0 Y1).1.length := fun v => by rw [ud_at, if_neg (by omega)]; exact e14
    rw [lt_d, lt_d, lt_d, lt_d, e14', e14']
    cases hh : (SM T0 T1 k0 k1 Y0 Y1).2 with
    | false =>
      refine yPos rfl (yGd (by decide) (yRet ?_))
      exact fin 1 _ rfl (by rw [hh]; rfl)
    | true =>
      refine yNeg (by decide) (yGd (by decide) (yRet ?_))
      exact fin 0 _ rfl (by rw [hh]; rfl)
  · rcases hC with q | q
    · exact absurd q e
    · exact ⟨Fr.refl, q.1, Or.inr q⟩
abbrev SK0 (j k : Nat) : Prop := SKR j k ∨ (j = 281 ∧ k = 0)
theorem differ_eq (h : MM D T0 T1 k0 k1 Y0 Y1) (hC : CI D (SM T0 T1 k0 k1 Y0 Y1)) : ∃ r D1 D2, f_X11_differ D = some (r, D1) ∧ f_X12_differ D1 = some (r, D2) ∧ Fr SCC D D1 ∧ D1 0 10 = 1 ∧ CI D1 (SM T0 T1 k0 k1 Y0 Y1) ∧ Fr SK0 D1 D2 := by
  obtain ⟨D1, e1, hF1, o1, c1⟩ := cmp_ok h hC
  have h1 : MM D1 T0 T1 k0 k1 Y0 Y1 := h.fr (fun j k q => hF1 j k (by unfold SCC; omega))
  have h1' : MM (ud D1 281 0 0) T0 T1 k0 k1 Y0 Y1 := h1.fr (fun j k q => by rw [ud_at, if_neg (by omega)])
  obtain ⟨⟨rr, D2⟩, e2, ⟨er, hR, hF2⟩, hok⟩ := rfind h1'
  dsimp only at er hR hF2
  have hF2' : Fr SK0 D1 D2 := fun j k q => by rw [hF2 j k (fun z => q (Or.inl z)), ud_at, if_neg (fun z => q (Or.inr z))]
  rcases c1 with q | ⟨-, v11, v12, vs, vn⟩
  · rw [o1] at q; exact absurd q (by decide)
  have c1 : CI D1 (SM T0 T1 k0 k1 Y0 Y1) := Or.inr ⟨o1, v11, v12, vs, vn⟩
  have hl := hR.1
  have hl0 := hok.1
  cases hh : (SM T0 T1 k0 k1 Y0 Y1).2 with
  | false =>
    rw [hh] at er v11
    rw [if_neg (show ¬ (false = true) by decide)] at er
    refine ⟨-1, D1, D2, ?_, ?_, hF1, o1, c1, hF2'⟩
    · unfold f_X11_differ
      rw [e1, bV_d, v11, if_neg (by decide)]
    · unfold f_X12_differ
      rw [lt_d, e2, bI_d, er, if_pos rfl]
  | true =>
    rw [hh] at er v11
    rw [if_pos rfl] at er
    obtain ⟨w1, -⟩ := vs hh
    obtain ⟨-, k313, -⟩ := hR.2.2.1 ((SM T0 T1 k0 k1 Y0 Y1).1.length - 1) (by omega)
    refine ⟨nI (nN ((SM T0 T1 k0 k1 Y0 Y1).1.getD ((SM T0 T1 k0 k1 Y0 Y1).1.length - 1) nd0)), D1, D2, ?_, ?_, hF1, o1, c1, hF2'⟩
    · unfold f_X11_differ
      rw [e1, bV_d, v11, if_pos (show b01 (!true) = 0 from rfl), w1.2.1]
    · unfold f_X12_differ
      rw [lt_d, e2, bI_d, er, if_neg (nI_n1 (by omega)), gd_t (inB_nI (by omega) (by omega)), nI_clamp (by omega), k313]
theorem couples_eq (h : MM D T0 T1 k0 k1 Y0 Y1) (hC : CI D (SM T0 T1 k0 k1 Y0 Y1)) : ∃ r D1 D2, f_X11_couples D = some (r, D1) ∧ f_X12_couples D1 = some (r, D2) ∧ Fr SCC D D1 ∧ D1 0 10 = 1 ∧ CI D1 (SM T0 T1 k0 k1 Y0 Y1) ∧ Fr SK0 D1 D2 := by
  obtain ⟨D1, e1, hF1, o1, c1⟩ := cmp_ok h hC
  have h1 : MM D1 T0 T1 k0 k1 Y0 Y1 := h.fr (fun j k q => hF1 j k (by unfold SCC; omega))
  have h1' : MM (ud D1 281 0 0) T0 T1 k0 k1 Y0 Y1 := h1.fr (fun j k q => by rw [ud_at, if_neg (by omega)])
  obtain ⟨⟨rr, D2⟩, e2, ⟨er, hR, hF2⟩, hok⟩ := rfind h1'
  dsimp only at er hR hF2
  have hF2' : Fr SK0 D1 D2 := fun j k q => by rw [hF2 j k (fun z => q (Or.inl z)), ud_at, if_neg (fun z => q (Or.inr z))]
  rcases c1 with q | ⟨-, v11, v12, vs, vn⟩
  · rw [o1] at q; exact absurd q (by decide)
  refine ⟨nI (SM T0 T1 k0 k1 Y0 Y1).1.length, D1, D2, ?_, ?_, hF1, o1, Or.inr ⟨o1, v11, v12, vs, vn⟩, hF2'⟩
  · unfold f_X11_couples
    rw [e1, bV_d, v12]
  · unfold f_X12_couples
    rw [lt_d, e2, bI_d]
    exact congrArg (fun z => some (z, D2)) hR.2.1
theorem dif57 {D2 : Dm} {N : List Nd} (hok : okN GM N) (hR : RR D2 N) {last k : Nat} (hl : last < N.length) (hk : k < nN (N.getD last nd0)) {x2 : Int32} : ∀ (j d m : Nat), d + j = nN (N.getD last nd0) - 1 - k → f_X12_differs_57 (j + 1 + m) (nI k) x2 (nI (anc N d last)) (nI (nN (N.getD last nd0) - 1 - d)) D2 = some (if x2 = 0 then (pl N last k).1 else (pl N last k).2, D2) := by
  have hlen := hR.1
  have hn20 := (hok.2.2.2.1 last hl).2.2
  intro j
  induction j with
  | zero =>
    intro d m hd
    obtain ⟨z1, z2, z3⟩ := anc_ok hok hl d (by omega)
    obtain ⟨-, -, -, q⟩ := hR.2.2.1 _ z1
    obtain ⟨-, q11, q12⟩ := q (z3 (by omega))
    rw [show 0 + 1 + m = m + 1 by omega]
    show f_X12_differs_57_b _ _ _ _ _ _ = _
    unfold f_X12_differs_57_b
    have ed : d = nN (N.getD last nd0) - 1 - k := by omega
    rw [if_pos (nI_le (by omega) (by omega)), gd_t (inB_nI (by omega) (by omega)), gd_t (inB_nI (by omega) (by omega)), nI_clamp (by omega), q11, q12]
    unfold pl
    rw [← ed]
    split <;> rfl
  | succ j ih =>
    intro d m hd
    obtain ⟨z1, z2, z3⟩ := anc_ok hok hl d (by omega)
    obtain ⟨-, -, -, q⟩ := hR.2.2.1 _ z1
    obtain ⟨q10, -, -⟩ := q (z3 (by omega))
    rw [show j + 1 + 1 + m = (j + 1 + m) + 1 by omega]
    show f_X12_differs_57_b _ _ _ _ _ _ = _
    unfold f_X12_differs_57_b
    rw [if_neg (nI_nle2 (by omega) (by omega)), gd_t (inB_nI (by omega) (by omega)), nI_clamp (by omega), lt_d, lt_d, q10, add_m1, show nI (nN (N.getD last nd0) - 1 - d) - 1 = nI (nN (N.getD last nd0) - 1 - (d + 1)) by rw [show nN (N.getD last nd0) - 1 - (d + 1) = (nN (N.getD last nd0) - 1 - d) - 1 by omega]; exact nI_sub (b := 1) (by omega)]
    exact ih (d + 1) m (by omega)
theorem differs_eq (h : MM D T0 T1 k0 k1 Y0 Y1) (hC : CI D (SM T0 T1 k0 k1 Y0 Y1)) (x1 x2 : Int32) : ∃ r D1 D2, f_X11_differs x1 x2 D = some (r, D1) ∧ f_X12_differs x1 x2 D1 = some (r, D2) ∧ Fr SCC D D1 ∧ D1 0 10 = 1 ∧ CI D1 (SM T0 T1 k0 k1 Y0 Y1) ∧ Fr SK0 D1 D2 := by
  obtain ⟨D1, e1, hF1, o1, c1⟩ := cmp_ok h hC
  have h1 : MM D1 T0 T1 k0 k1 Y0 Y1 := h.fr (fun j k q => hF1 j k (by unfold SCC; omega))
  have h1' : MM (ud D1 281 0 0) T0 T1 k0 k1 Y0 Y1 := h1.fr (fun j k q => by rw [ud_at, if_neg (by omega)])
  obtain ⟨⟨rr, D2⟩, e2, ⟨er, hR, hF2⟩, hok⟩ := rfind h1'
  dsimp only at er hR hF2
  have hF2' : Fr SK0 D1 D2 := fun j k q => by rw [hF2 j k (fun z => q (Or.inl z)), ud_at, if_neg (fun z => q (Or.inr z))]
  rcases c1 with q | ⟨-, v11, v12, vs, vn⟩
  · rw [o1] at q; exact absurd q (by decide)
  have c1 : CI D1 (SM T0 T1 k0 k1 Y0 Y1) := Or.inr ⟨o1, v11, v12, vs, vn⟩
  have hl := hR.1
  have hl0 := hok.1
  cases hh : (SM T0 T1 k0 k1 Y0 Y1).2 with
  | false =>
    rw [hh] at er
    rw [if_neg (show ¬ (false = true) by decide)] at er
    obtain ⟨-, w3, -⟩ := vn hh
    refine ⟨-2, D1, D2, ?_, ?_, hF1, o1, c1, hF2'⟩
    · unfold f_X11_differs f_X11_letterOf
      rw [e1, bV_d, w3]
      by_cases c : x1 < 0
      · rw [if_pos c, bI_d]
      · rw [if_neg c, if_neg (by rw [nI_0]; exact c), bI_d]
    · unfold f_X12_differs
      rw [lt_d, e2, bI_d, er, if_pos rfl]
  | true =>
    rw [hh] at er
    rw [if_pos rfl] at er
    obtain ⟨w1, w2⟩ := vs hh
    generalize hN : (SM T0 T1 k0 k1 Y0 Y1).1 = N at *
    have hlast : N.length - 1 < N.length := by omega
    obtain ⟨-, k313, -⟩ := hR.2.2.1 (N.length - 1) hlast
    have hn20 := (hok.2.2.2.1 _ hlast).2.2
    have rl : f_X12_differs x1 x2 D1 = some (if 0 ≤ x1.toInt ∧ x1.toInt < nN (N.getD (N.length - 1) nd0) then (if x2 = 0 then (pl N (N.length - 1) x1.toInt.toNat).1 else if x2 = 1 then (pl N (N.length - 1) x1.toInt.toNat).2 else -2) else -2, D2) := by
      unfold f_X12_differs
      rw [lt_d, e2, bI_d, er, if_neg (nI_n1 (by omega)), gd_t (inB_nI (by omega) (by omega)), nI_clamp (by omega), k313, isInN rfl (by omega), bI_d]
      by_cases c : 0 ≤ x1.toInt ∧ x1.toInt < nN (N.getD (N.length - 1) nd0)
      · rw [if_pos c, if_pos c, if_neg (by decide), isIn01, bI_d]
        obtain ⟨k, hk, rfl⟩ := clt c (by omega)
        rw [nI_toInt (by omega), k313]
        by_cases c2 : x2 = 0 ∨ x2 = 1
        · rw [if_pos c2, if_neg (by decide), gd_t (inB_nI (by omega) (by omega)), lt_d, show nI (nN (N.getD (N.length - 1) nd0)) - 1 = nI (nN (N.getD (N.length - 1) nd0) - 1) from nI_sub (b := 1) (by omega)]
          obtain ⟨q, hq⟩ := FUs (nN (N.getD (N.length - 1) nd0) - 1 - k) (by omega)
          have := dif57 (x2 := x2) hok hR hlast hk (nN (N.getD (N.length - 1) nd0) - 1 - k) 0 q (by omega)
          rw [Nat.sub_zero] at this
          rw [hq]
          refine this.trans ?_
          rcases c2 with rfl | rfl
          · rfl
          · rfl
        · rw [if_neg c2, if_pos rfl, if_neg (fun q => c2 (Or.inl q)), if_neg (fun q => c2 (Or.inr q))]
      · rw [if_neg c, if_neg c, if_pos rfl]
    refine ⟨_, D1, D2, ?_, rl, hF1, o1, c1, hF2'⟩
    unfold f_X11_differs f_X11_letterOf
    rw [e1, bV_d, w1.2.1]
    by_cases c : 0 ≤ x1.toInt ∧ x1.toInt < nN (N.getD (N.length - 1) nd0)
    · rw [if_pos c]
      obtain ⟨k, hk, rfl⟩ := clt c (by omega)
      obtain ⟨p1, p2⟩ := w2 k hk
      rw [nI_toInt (by omega), if_neg (nI_pos (by omega)), if_pos (nI_lt hk (by omega)), gd_t (inB_nI (by omega) (by omega)), gd_t (inB_nI (by omega) (by omega)), nI_clamp (by omega), p1, p2]
      show bI (if x2 = 0 then some (_, D1) else if x2 = 1 then some (_, D1) else some (_, D1)) _ = some (if x2 = 0 then (pl N (N.length - 1) k).1 else if x2 = 1 then (pl N (N.length - 1) k).2 else -2, D1)
      by_cases d0 : x2 = 0
      · rw [if_pos d0, if_pos d0, bI_d]
      · rw [if_neg d0, if_neg d0]
        by_cases d1 : x2 = 1
        · rw [if_pos d1, if_pos d1, bI_d]
        · rw [if_neg d1, if_neg d1, bI_d]
    · rw [if_neg c]
      by_cases d : x1 < 0
      · rw [if_pos d, bI_d]
      · rw [if_neg d, if_neg, bI_d]
        intro q
        rw [lt0] at d
        rw [Int32.lt_iff_toInt_lt, nI_toInt (by omega)] at q
        omega
end
