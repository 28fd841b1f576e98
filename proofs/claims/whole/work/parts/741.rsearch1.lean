/-! ===== the reference's search ===== -/
def RR (D : Dm) (N : List Nd) : Prop := N.length ≤ 1351 ∧ D 281 77 = nI N.length ∧ (∀ i, i < N.length → cpl D i = (N.getD i nd0).1 ∧ D 313 i = nI (nN (N.getD i nd0)) ∧ D 314 i = nI (nU (N.getD i nd0)) ∧ (0 < i → D 310 i = nI (nP (N.getD i nd0)) ∧ D 311 i = (nL (N.getD i nd0)).1 ∧ D 312 i = (nL (N.getD i nd0)).2)) ∧
  ∀ c, c < 41250 → D 317 c = b01 ((cds N).contains c)
theorem cpl_congr {D D' : Dm} {i : Nat} (h : ∀ q, q < 6 → D' 315 (6 * i + q) = D 315 (6 * i + q)) : cpl D' i = cpl D i := by
  unfold cpl
  rw [h 1 (by omega), h 2 (by omega), h 3 (by omega), h 4 (by omega), h 5 (by omega), show D' 315 (6 * i) = D 315 (6 * i) from h 0 (by omega)]
theorem RR.fr {D D' : Dm} {N : List Nd} (h : RR D N) (h77 : D' 281 77 = D 281 77) (hF : ∀ j k, 310 ≤ j → j ≤ 317 → j ≠ 316 → ¬ (j = 315 ∧ 6 * N.length ≤ k) → D' j k = D j k) : RR D' N := by
  obtain ⟨h0, h1, h2, h3⟩ := h
  refine ⟨h0, by rw [h77, h1], fun i hi => ?_, fun c hc => ?_⟩
  · rw [cpl_congr (fun q hq => hF _ _ (by omega) (by omega) (by omega) (by omega)), hF _ _ (by omega) (by omega) (by omega) (by omega), hF _ _ (by omega) (by omega) (by omega) (by omega), hF _ _ (by omega) (by omega) (by omega) (by omega), hF _ _ (by omega) (by omega) (by omega) (by omega), hF _ _ (by omega) (by omega) (by omega) (by omega)]
    exact h2 i hi
  · rw [hF _ _ (by omega) (by omega) (by omega) (by omega)]; exact h3 c hc
def gPair (D : Dm) : Cf := (D 281 78, D 281 79, D 281 80)
def gGue (D : Dm) : Cf := (D 281 66, D 281 67, D 281 68)
def gB (g : Nat) (D : Dm) : Cf := if g = 0 then gPair D else gGue D
abbrev SCm (L : Nat) (j k : Nat) : Prop := (j = 315 ∧ 6 * L ≤ k) ∨ j = 316 ∨ j = 317 ∨ (j = 281 ∧ k = 77)
theorem comes_ok {D : Dm} {N : List Nd} (hR : RR D N) {g : Nat} (hg : g = 0 ∨ g = 1) {a b : Cf} (ha : getR D = a) (hb : gB g D = b) (hP : okP a b) :
    Y (f_X12_comes (nI g) D) (fun r => Fr (SCm N.length) D r.2 ∧ (((cds N).contains (cod a b) = true ∧ r.1 = 0 ∧ RR r.2 N) ∨ ((cds N).contains (cod a b) = false ∧ r.1 = 1 ∧ r.2 281 77 = nI (N.length + 1) ∧ cpl r.2 N.length = (a, b) ∧ ∀ c, c < 41250 → r.2 317 c = b01 ((cds N).contains c || decide (c = cod a b))))) := by
  obtain ⟨hl, h77, hi, hm⟩ := id hR
  generalize hL : N.length = L at *
  have e6 : (6 : Int32) * nI L = nI (6 * L) := by rw [show (6 : Int32) = nI 6 from rfl, nI_mul]
  have ad : ∀ q, nI (6 * L) + nI q = nI (6 * L + q) := fun q => nI_add _ _
  have a1 : nI (6 * L) + 1 = nI (6 * L + 1) := ad 1
  have a2 : nI (6 * L) + 2 = nI (6 * L + 2) := ad 2
  have a3 : nI (6 * L) + 3 = nI (6 * L + 3) := ad 3
  have a4 : nI (6 * L) + 4 = nI (6 * L + 4) := ad 4
  have a5 : nI (6 * L) + 5 = nI (6 * L + 5) := ad 5
  have ga : D 281 3 = a.1 ∧ D 281 4 = a.2.1 ∧ D 281 5 = a.2.2 := by rw [← ha]; exact ⟨rfl, rfl, rfl⟩
  have key : ∀ D6 : Dm, Fr (fun j k => j = 315 ∧ 6 * L ≤ k) D D6 → cpl D6 L = (a, b) → Y (bI (f_X12_codeOf (nI L) D6) fun y6 D4 => gd (inB y6 41250) (if (D4 317 (Int32.toNatClampNeg y6)) = 0 then (gd (inB y6 41250) (lt (ud D4 317 (Int32.toNatClampNeg y6) 1) fun D10 => lt (ud D10 281 77 ((D10 281 77) + 1)) fun D12 => some ((1 : Int32), D12))) else (some ((0 : Int32), D4)))) (fun r => Fr (SCm L) D r.2 ∧ (((cds N).contains (cod a b) = true ∧ r.1 = 0 ∧ RR r.2 N) ∨ ((cds N).contains (cod a b) = false ∧ r.1 = 1 ∧ r.2 281 77 = nI (L + 1) ∧ cpl r.2 L = (a, b) ∧ ∀ c, c < 41250 → r.2 317 c = b01 ((cds N).contains c || decide (c = cod a b))))) := by
    intro D6 hF6 hc6
    have hc := cod_lt hP.1 hP.2.1
    refine yBI (codeOf_ok (k := L) (by omega) (by rw [hc6]; exact hP.1) (by rw [hc6]; exact hP.2.1)) (fun r D7 h7 => ?_)
    dsimp only at h7
    obtain ⟨er, hF7⟩ := h7
    rw [hc6] at er
    have er : r = nI (cod a b) := er
    rw [er, nI_clamp (by omega)]
    refine yGd (inB_nI (by omega) (by omega)) ?_
    have hFD : Fr (SCm L) D D7 := (hF6.mono (fun j k q => by unfold SCm; omega)).tr (hF7.mono (fun j k q => by unfold SCm; omega))
    have m7 : ∀ c, c < 41250 → D7 317 c = b01 ((cds N).contains c) := fun c hc => by rw [hF7 _ _ (by omega), hF6 _ _ (by omega)]; exact hm c hc
    rw [m7 _ hc]
    cases hcc : (cds N).contains (cod a b) with
    | true =>
      refine yNeg (by decide) (yRet ⟨hFD, Or.inl ⟨rfl, rfl, ?_⟩⟩)
      refine hR.fr (hF7 _ _ (by omega) |>.trans (hF6 _ _ (by omega))) (fun j k q1 q2 q3 q4 => ?_)
      show D7 j k = D j k
      rw [hF7 _ _ (by omega), hF6 _ _ (by omega)]
    | false =>
      refine yPos rfl (yGd (inB_nI (by omega) (by omega)) (yLt0 (yLt0 (yRet ⟨?_, Or.inr ⟨rfl, rfl, ?_, ?_, fun c hc2 => ?_⟩⟩))))
      · exact (hFD.ud (by unfold SCm; omega)).ud (by unfold SCm; omega)
      · show ud (ud D7 317 (cod a b) 1) 281 77 (ud D7 317 (cod a b) 1 281 77 + 1) 281 77 = nI (L + 1)
        rw [ud_at, if_pos ⟨rfl, rfl⟩, ud_at, if_neg (by omega), hF7 _ _ (by omega), hF6 _ _ (by omega), h77, nI_1]
      · rw [← hc6]
        refine cpl_congr (fun q hq => ?_)
        show ud (ud D7 317 (cod a b) 1) 281 77 (ud D7 317 (cod a b) 1 281 77 + 1) 315 _ = _
        rw [ud_at, if_neg (by omega), ud_at, if_neg (by omega), hF7 _ _ (by omega)]
      · show ud (ud D7 317 (cod a b) 1) 281 77 (ud D7 317 (cod a b) 1 281 77 + 1) 317 c = _
        rw [ud_at, if_neg (by omega), ud_at]
        by_cases e : c = cod a b
        · rw [if_pos ⟨rfl, e⟩, decide_eq_true e, Bool.or_true]; rfl
        · rw [if_neg (by omega), m7 c hc2, decide_eq_false e, Bool.or_false]
  unfold f_X12_comes
  rw [lt_d, h77, e6, a1, a2, a3, nI_clamp (by omega), nI_clamp (by omega), nI_clamp (by omega)]
  refine yGd (inB_nI (by omega) (by omega)) (yLt (fun D1 hD1 => yGd (inB_nI (by omega) (by omega)) (yLt (fun D2 hD2 => yGd (inB_nI (by omega) (by omega)) (yLt (fun D3 hD3 => ?_))))))
  rw [ga.1] at hD1
  rw [show D1 281 4 = a.2.1 by rw [hD1, ud_at, if_neg (by omega)]; exact ga.2.1] at hD2
  rw [show D2 281 5 = a.2.2 by rw [hD2, ud_at, if_neg (by omega), hD1, ud_at, if_neg (by omega)]; exact ga.2.2] at hD3
  have hF3 : Fr (fun j k => j = 315 ∧ 6 * L ≤ k) D D3 := by
    rw [hD3, hD2, hD1]; exact ((Fr.refl.ud (by omega)).ud (by omega)).ud (by omega)
  have step : ∀ (x y z : Int32), (x, y, z) = b → ∀ D4, D4 = ud (ud (ud D3 315 (6 * L + 3) x) 315 (6 * L + 4) y) 315 (6 * L + 5) z → Fr (fun j k => j = 315 ∧ 6 * L ≤ k) D D4 ∧ cpl D4 L = (a, b) := by
    intro x y z e D4 hD4
    refine ⟨?_, ?_⟩
    · rw [hD4]; exact ((hF3.ud (by omega)).ud (by omega)).ud (by omega)
    · rw [← e, hD4, hD3, hD2, hD1]
      unfold cpl
      simp [ud_at]
  rcases hg with rfl | rfl
  · have hb : (D 281 78, D 281 79, D 281 80) = b := hb
    refine yPos nI_0 ?_
    unfold f_X12_comes_73 f_X12_comes_99 f_X12_comes_125
    rw [e6, a4, a5, nI_clamp (show 6 * L + 3 < 2 ^ 31 by omega), nI_clamp (show 6 * L + 4 < 2 ^ 31 by omega), nI_clamp (show 6 * L + 5 < 2 ^ 31 by omega), hF3 281 78 (by omega)]
    refine yGd (inB_nI (by omega) (by omega)) (yLt (fun D4 hD4 => yPos nI_0 ?_))
    rw [show D4 281 79 = D 281 79 by rw [hD4, ud_at, if_neg (by omega), hF3 _ _ (by omega)]]
    refine yGd (inB_nI (by omega) (by omega)) (yLt (fun D5 hD5 => yPos nI_0 ?_))
    rw [show D5 281 80 = D 281 80 by rw [hD5, ud_at, if_neg (by omega), hD4, ud_at, if_neg (by omega), hF3 _ _ (by omega)]]
    refine yGd (inB_nI (by omega) (by omega)) (yLt (fun D6 hD6 => ?_))
    obtain ⟨z1, z2⟩ := step _ _ _ hb D6 (by rw [hD6, hD5, hD4])
    exact key D6 z1 z2
  · have hb : (D 281 66, D 281 67, D 281 68) = b := hb
    refine yNeg (by decide) ?_
    unfold f_X12_comes_73 f_X12_comes_99 f_X12_comes_125
    rw [e6, a4, a5, nI_clamp (show 6 * L + 3 < 2 ^ 31 by omega), nI_clamp (show 6 * L + 4 < 2 ^ 31 by omega), nI_clamp (show 6 * L + 5 < 2 ^ 31 by omega), hF3 281 66 (by omega)]
    refine yGd (inB_nI (by omega) (by omega)) (yLt (fun D4 hD4 => yNeg (by decide) ?_))
    rw [show D4 281 67 = D 281 67 by rw [hD4, ud_at, if_neg (by omega), hF3 _ _ (by omega)]]
    refine yGd (inB_nI (by omega) (by omega)) (yLt (fun D5 hD5 => yNeg (by decide) ?_))
    rw [show D5 281 68 = D 281 68 by rw [hD5, ud_at, if_neg (by omega), hD4, ud_at, if_neg (by omega), hF3 _ _ (by omega)]]
    refine yGd (inB_nI (by omega) (by omega)) (yLt (fun D6 hD6 => ?_))
    obtain ⟨z1, z2⟩ := step _ _ _ hb D6 (by rw [hD6, hD5, hD4])
    exact key D6 z1 z2
abbrev SKR (j k : Nat) : Prop := (310 ≤ j ∧ j ≤ 317) ∨ (j = 281 ∧ (k = 3 ∨ k = 4 ∨ k = 5 ∨ (49 ≤ k ∧ k ≤ 51) ∨ (66 ≤ k ∧ k ≤ 68) ∨ (77 ≤ k ∧ k ≤ 80)))
theorem f99_ok {D : Dm} {N : List Nd} {T : Tb} {acc : Int32} (hM : MR D 0 T acc) (hR : RR D N) {g : Nat} (hg : g = 0 ∨ g = 1) {k y m : Nat} (hk : k < N.length) (hy : y < 2) (hm : m ≤ nU (N.getD k nd0)) (hu : nU (N.getD k nd0) ≤ 20) (hn : nN (N.getD k nd0) < 20) (hst : okSt (N.getD k nd0).1.1.1) {b : Cf} (hb : gB g D = b) (hP : okP (step T (N.getD k nd0).1.1 (nI y, nI m)) b) (hroom : (cds N).contains (cod (step T (N.getD k nd0).1.1 (nI y, nI m)) b) = false → N.length < 1351) :
    Y (f_X12_follows_99 (nI k) (nI y) (nI m) (nI g) D) (fun r => Fr SKR D r.2 ∧ (((cds N).contains (cod (step T (N.getD k nd0).1.1 (nI y, nI m)) b) = true ∧ r.1 = 0 ∧ RR r.2 N) ∨ ((cds N).contains (cod (step T (N.getD k nd0).1.1 (nI y, nI m)) b) = false ∧ r.1 = 1 ∧ RR r.2 (N ++ [((step T (N.getD k nd0).1.1 (nI y, nI m), b), k, (nI y, nI m), nN (N.getD k nd0) + 1, max (nU (N.getD k nd0)) (m + 1))])))) := by
  obtain ⟨hl, h77, hi, hmet⟩ := id hR
  obtain ⟨ek, k313, k314, -⟩ := hi k hk
  generalize hnd : N.getD k nd0 = nd at *
  have e6 : (6 : Int32) * nI k = nI (6 * k) := by rw [show (6 : Int32) = nI 6 from rfl, nI_mul]
  have a1 : nI (6 * k) + 1 = nI (6 * k + 1) := nI_add _ 1
  have a2 : nI (6 * k) + 2 = nI (6 * k + 2) := nI_add _ 2
  have ea : (D 315 (6 * k), D 315 (6 * k + 1), D 315 (6 * k + 2)) = nd.1.1 := by rw [← ek]; rfl
  unfold f_X12_follows_99
  rw [e6, a1, a2, nI_clamp (by omega), nI_clamp (by omega), nI_clamp (by omega)]
  refine yGd (inB_nI (by omega) (by omega)) (yGd (inB_nI (by omega) (by omega)) (yGd (inB_nI (by omega) (by omega)) ?_))
  rw [r_stays, bV_d, ea, (hM.fr (fun q => by rw [setR_ne (by decide)])).go mc0 (by rw [show setR D nd.1.1 281 3 = nd.1.1.1 by simp [setR_at]]; exact hst) (isSy_n hy), bV_d, getR_set, setR_set]
  generalize ha : step T nd.1.1 (nI y, nI m) = a at *
  generalize hD1 : setR D a = D1
  have hF1 : Fr (fun j k => j = 281 ∧ (k = 3 ∨ k = 4 ∨ k = 5)) D D1 := by
    rw [← hD1]; exact Fr.refl.r (by omega) (by omega) (by omega)
  have hR1 : RR D1 N := hR.fr (hF1 _ _ (by omega)) (fun j k q1 q2 _ _ => hF1 _ _ (by omega))
  have g1 : getR D1 = a := by rw [← hD1]; exact getR_set
  have b1 : gB g D1 = b := by
    rw [← hb]
    unfold gB gPair gGue
    rw [hF1 _ _ (by omega), hF1 _ _ (by omega), hF1 _ _ (by omega), hF1 _ _ (by omega), hF1 _ _ (by omega), hF1 _ _ (by omega)]
  rw [lt_d, hR1.2.1]
  refine yBI (comes_ok hR1 hg g1 b1 hP) (fun r D2 h2 => ?_)
  dsimp only at h2
  obtain ⟨hF2, h2⟩ := h2
  have hF2' : Fr SKR D D2 := (hF1.mono (fun j k q => by unfold SKR; omega)).tr (hF2.mono (fun j k q => by unfold SCm at q; unfold SKR; omega))
  rcases h2 with ⟨hc, er, hR2⟩ | ⟨hc, er, v77, vc, vm⟩
  · rw [er]
    exact yPos rfl (yRet ⟨hF2', Or.inl ⟨hc, rfl, hR2⟩⟩)
  · have hrm := hroom hc
    rw [er, nI_clamp (show N.length < 2 ^ 31 by omega), nI_clamp (show k < 2 ^ 31 by omega)]
    refine yNeg (by decide) (yGd (inB_nI (by omega) (by omega)) (yLt (fun D3 hD3 => yGd (inB_nI (by omega) (by omega)) (yLt (fun D4 hD4 => yGd (inB_nI (by omega) (by omega)) (yLt (fun D5 hD5 => yGd (inB_nI (by omega) (by omega)) (yGd (inB_nI (by omega) (by omega)) ?_))))))))
    have hF5 : Fr (fun j q => (j = 310 ∨ j = 311 ∨ j = 312) ∧ q = N.length) D2 D5 := by
      rw [hD5, hD4, hD3]; exact ((Fr.refl.ud (by omega)).ud (by omega)).ud (by omega)
    have x313 : D5 313 k = nI (nN nd) := by rw [hF5 _ _ (by omega), hF2 _ _ (by unfold SCm; omega), hF1 _ _ (by omega)]; exact k313
    rw [x313, nI_1]
    refine yLt (fun D6 hD6 => yGd (inB_nI (by omega) (by omega)) ?_)
    have x314 : D6 314 k = nI (nU nd) := by rw [hD6, ud_at, if_neg (by omega), hF5 _ _ (by omega), hF2 _ _ (by unfold SCm; omega), hF1 _ _ (by omega)]; exact k314
    rw [x314]
    have fin : ∀ U, U = max (nU nd) (m + 1) → Y (f_X12_follows_225 (nI U) (nI N.length) D6) (fun r => Fr SKR D r.2 ∧ (((cds N).contains (cod a b) = true ∧ r.1 = 0 ∧ RR r.2 N) ∨ ((cds N).contains (cod a b) = false ∧ r.1 = 1 ∧ RR r.2 (N ++ [((a, b), k, (nI y, nI m), nN nd + 1, max (nU nd) (m + 1))])))) := by
      intro U hU
      unfold f_X12_follows_225
      rw [nI_clamp (show N.length < 2 ^ 31 by omega)]
      refine yGd (inB_nI (by omega) (by omega)) (yLt (fun D7 hD7 => yRet ?_))
      have hF7 : Fr (fun j q => (310 ≤ j ∧ j ≤ 314) ∧ q = N.length) D2 D7 := by
        rw [hD7, hD6]; exact ((hF5.mono (fun j k q => by omega)).ud (by omega)).ud (by omega)
      refine ⟨hF2'.tr (hF7.mono (fun j k q => by unfold SKR; omega)), Or.inr ⟨hc, rfl, ?_, ?_, fun i hi2 => ?_, fun c hc2 => ?_⟩⟩
      · simp; omega
      · show D7 281 77 = _
        rw [hF7 _ _ (by omega), v77]; simp
      · simp at hi2
        rw [getD_app]
        show cpl D7 i = _ ∧ _
        by_cases e : i < N.length
        · rw [if_pos e]
          have o : ∀ j q, 310 ≤ j → j ≤ 315 → (j = 315 → q < 6 * N.length) → (j ≠ 315 → q < N.length) → D7 j q = D j q := fun j q h1 h2 h3 h4 => by
            rw [hF7 _ _ (by omega), hF2 _ _ (by unfold SCm; omega), hF1 _ _ (by omega)]
          rw [cpl_congr (D' := D7) (D := D) (fun q hq => o _ _ (by omega) (by omega) (by omega) (by omega))]
          show _ ∧ D7 313 i = _ ∧ D7 314 i = _ ∧ (_ → D7 310 i = _ ∧ D7 311 i = _ ∧ D7 312 i = _)
          rw [o _ _ (by omega) (by omega) (by omega) (by omega), o _ _ (by omega) (by omega) (by omega) (by omega), o _ _ (by omega) (by omega) (by omega) (by omega), o _ _ (by omega) (by omega) (by omega) (by omega), o _ _ (by omega) (by omega) (by omega) (by omega)]
          exact hi i e
        · have ei : i = N.length := by omega
          rw [if_neg e, if_pos ei, ei]
          show _ ∧ D7 313 _ = _ ∧ D7 314 _ = _ ∧ (_ → D7 310 _ = _ ∧ D7 311 _ = _ ∧ D7 312 _ = _)
          refine ⟨?_, ?_, ?_, fun _ => ⟨?_, ?_, ?_⟩⟩
          · rw [cpl_congr (D' := D7) (D := D2) (fun q hq => hF7 _ _ (by omega)), vc]
          · rw [hD7, ud_at, if_neg (by omega), hD6, ud_at, if_pos ⟨rfl, rfl⟩]; rfl
          · rw [hD7, ud_at, if_pos ⟨rfl, rfl⟩, hU]; rfl
          · rw [hD7, ud_at, if_neg (by omega), hD6, ud_at, if_neg (by omega), hD5, ud_at, if_neg (by omega), hD4, ud_at, if_neg (by omega), hD3, ud_at, if_pos ⟨rfl, rfl⟩]; rfl
          · rw [hD7, ud_at, if_neg (by omega), hD6, ud_at, if_neg (by omega), hD5, ud_at, if_neg (by omega), hD4, ud_at, if_pos ⟨rfl, rfl⟩]; rfl
          · rw [hD7, ud_at, if_neg (by omega), hD6, ud_at, if_neg (by omega), hD5, ud_at, if_pos ⟨rfl, rfl⟩]; rfl
      · show D7 317 c = _
        rw [hF7 _ _ (by omega), vm c hc2]
        have ec : cds (N ++ [((a, b), k, (nI y, nI m), nN nd + 1, max (nU nd) (m + 1))]) = cds N ++ [cod a b] := by
          unfold cds
          rw [List.map_append]
          rfl
        rw [ec, contains_app]
    refine yIte (fun e => ?_) (fun e => yGd (inB_nI (by omega) (by omega)) ?_)
    · have e : m = nU nd := nI_inj (by omega) (by omega) e
      rw [nI_1]
      exact fin _ (by omega)
    · have e : m ≠ nU nd := fun q => e (by rw [q])
      exact fin _ (by omega)
theorem mem_nm {n : Nd} {x : Int32} (hx : x ≠ -1) : ∀ i, x ∈ nmI n i ↔ ∃ o, o < i ∧ nz n o = x := by
  intro i
  induction i with
  | zero =>
    constructor
    · intro h; cases h
    · rintro ⟨o, ho, -⟩; omega
  | succ i ih =>
    unfold nmI dd
    constructor
    · intro h
      split at h
      · obtain ⟨o, ho, e⟩ := ih.mp h
        exact ⟨o, by omega, e⟩
      · rcases List.mem_append.mp h with q | q
        · obtain ⟨o, ho, e⟩ := ih.mp q
          exact ⟨o, by omega, e⟩
        · exact ⟨i, by omega, (List.mem_singleton.mp q).symm⟩
    · rintro ⟨o, ho, e⟩
      by_cases eo : o = i
      · rw [eo] at e
        split
        · rename_i h
          rcases h with h | h
          · rw [e] at h; exact absurd h hx
          · rw [e] at h; exact h
        · rw [e]; simp
      · have := ih.mpr ⟨o, by omega, e⟩
        split
        · exact this
        · exact List.mem_append.mpr (Or.inl this)
theorem isHad_ok {D : Dm} {N : List Nd} (hR : RR D N) {k i : Nat} (hk : k < N.length) (hi : i ≤ 4) {x : Int32} (hx : x ≠ -1) : f_X12_isHad (nI k) (nI i) x D = some (b01 (decide (x ∈ nmI (N.getD k nd0) i)), D) := by
  have hl := hR.1
  obtain ⟨ek, -⟩ := hR.2.2.1 k hk
  generalize hnd : N.getD k nd0 = nd at *
  have e6 : (6 : Int32) * nI k = nI (6 * k) := by rw [show (6 : Int32) = nI 6 from rfl, nI_mul]
  have ez : ∀ o, o < 4 → D 315 (6 * k + off4 o) = nz nd o := by
    intro o ho
    unfold nz
    rw [if_pos ho, ← ek]
    have : o = 0 ∨ o = 1 ∨ o = 2 ∨ o = 3 := by omega
    rcases this with rfl | rfl | rfl | rfl <;> rfl
  have loop : ∀ (j o m : Nat), o + j = i → (∀ q, q < o → nz nd q ≠ x) → f_X12_isHad_3 (j + 1 + m) (nI k) (nI i) x (nI o) D = some (b01 (decide (x ∈ nmI nd i)), D) := by
    intro j
    induction j with
    | zero =>
      intro o m ho hq
      have ho : o = i := by omega
      rw [show 0 + 1 + m = m + 1 by omega]
      show f_X12_isHad_3_b _ _ _ _ _ _ = _
      unfold f_X12_isHad_3_b
      rw [ho] at hq ⊢
      rw [if_pos (nI_le (Nat.le_refl _) (by omega)), decide_eq_false]
      · rfl
      · rw [mem_nm hx]
        rintro ⟨q, h1, h2⟩
        exact hq q h1 h2
    | succ j ih =>
      intro o m ho hq
      rw [show j + 1 + 1 + m = (j + 1 + m) + 1 by omega]
      show f_X12_isHad_3_b _ _ _ _ _ _ = _
      unfold f_X12_isHad_3_b f_X12_isHad_40
      rw [if_neg (nI_nle2 (by omega) (by omega)), if_neg (show ¬ (4 : Int32) ≤ nI o from nI_nle2 (b := 4) (by omega) (by omega)), e6]
      have one : ∀ z : Nat, z = off4 o → gd (inB (nI (6 * k) + nI z) 21000) (if (D 315 (Int32.toNatClampNeg (nI (6 * k) + nI z))) = x then (some ((1 : Int32), D)) else (lt (nI o + 1) fun y3 => f_X12_isHad_3 (j + 1 + m) (nI k) (nI i) x y3 D)) = some (b01 (decide (x ∈ nmI nd i)), D) := by
        intro z hz
        have hz5 : z ≤ 5 := by rw [hz]; unfold off4; split <;> omega
        rw [nI_add, gd_t (inB_nI (by omega) (by omega)), nI_clamp (by omega), hz, ez o (by omega), lt_d, nI_1]
        by_cases e : nz nd o = x
        · rw [if_pos e, decide_eq_true]
          · rfl
          · rw [mem_nm hx]; exact ⟨o, by omega, e⟩
        · rw [if_neg e]
          refine ih (o + 1) m (by omega) (fun q hq2 => ?_)
          by_cases eq : q = o
          · rw [eq]; exact e
          · exact hq q (by omega)
      by_cases h2 : 2 ≤ o
      · rw [if_pos (show (2 : Int32) ≤ nI o from nI_le (a := 2) h2 (by omega)), show (2 : Int32) + nI o = nI (2 + o) from nI_add 2 o]
        exact one (2 + o) (by unfold off4; rw [if_neg (by omega)])
      · rw [if_neg (show ¬ (2 : Int32) ≤ nI o from nI_nle2 (b := 2) (by omega) (by omega)), show (1 : Int32) + nI o = nI (1 + o) from nI_add 1 o]
        exact one (1 + o) (by unfold off4; rw [if_pos (by omega)])
  unfold f_X12_isHad
  obtain ⟨q, hq⟩ := FUs i (by omega)
  have := loop i 0 q (by omega) (fun q hq => absurd hq (Nat.not_lt_zero q))
  rw [nI_0] at this
  rw [hq]
  exact this
