/-! ===== the hypothesis of the reference ===== -/
def setG (D : Dm) (c : Cf) : Dm := ud (ud (ud D 281 66 c.1) 281 67 c.2.1) 281 68 c.2.2
theorem setG_at {D : Dm} {c : Cf} {j k : Nat} : setG D c j k = if j = 281 ∧ k = 68 then c.2.2 else if j = 281 ∧ k = 67 then c.2.1 else if j = 281 ∧ k = 66 then c.1 else D j k := by
  unfold setG
  rw [ud_at, ud_at, ud_at]
theorem gGue_set {D : Dm} {c : Cf} : gGue (setG D c) = c := by
  unfold gGue
  simp [setG_at]
theorem setG_fr {D : Dm} {c : Cf} : Fr (fun j k => j = 281 ∧ (66 ≤ k ∧ k ≤ 68)) D (setG D c) := fun j k q => by
  rw [setG_at, if_neg (by omega), if_neg (by omega), if_neg (by omega)]
theorem guesses_ok {D : Dm} {x y z : Int32} : f_X12_guesses x y z D = some (setG D (x, y, z)) := by
  unfold f_X12_guesses
  simp only [lt_d]
  rfl
section
variable {D : Dm} {T : Tb} {acc : Int32} {ts ss : Tst} {b a Z : Nat}
/-- all is laid, and all long words go on -/
def STN (D : Dm) (T : Tb) (acc : Int32) (ts : Tst) (b : Nat) (ss : Tst) (a Z : Nat) : Prop := RS D T acc ts b ss a ∧ D 282 2 = nI Z ∧ ALL T acc ts b ss a Z ∧ (∀ u y i, vld T acc ts b ss a Z u y i → D 298 (atn T acc ts b ss u y i) = nI b ∧ D 296 u = nI b) ∧ ∀ u y i, vld T acc ts b ss a Z u y i → GOS D T acc ts b ss a u y i
theorem STN.fr {D' : Dm} (h : STN D T acc ts b ss a Z) (hF : ∀ j k, (j = 282 ∨ (j = 281 ∧ (k = 27 ∨ k = 28)) ∨ (289 ≤ j ∧ j ≤ 298) ∨ j = 306 ∨ j = 307) → D' j k = D j k) : STN D' T acc ts b ss a Z := by
  obtain ⟨h1, h2, h3, h4, h5⟩ := h
  refine ⟨h1.fr (fun j k q => hF j k (by omega)), by rw [hF _ _ (by omega)]; exact h2, h3, fun u y i hv => ?_, fun u y i hv => ?_⟩
  · rw [hF _ _ (by omega), hF _ _ (by omega)]; exact h4 u y i hv
  · obtain ⟨v, q1, q2, q3⟩ := h5 u y i hv
    exact ⟨v, q1, by rw [hF _ _ (by omega)]; exact q2, by rw [hF _ _ (by omega)]; exact q3⟩
theorem hasShort_now (h : RS D T acc ts b ss a) {u : Nat} (hu : u < a) (h6 : D 296 u = nI b) : f_X12_hasShort (nI u) D = some (nI (bts (kpN T acc ts b (cu T ss u))), D) := by
  obtain ⟨hMR, hT, hS, hC, hL⟩ := id h
  have hb := hT.1
  have ha := hS.1
  obtain ⟨f, hf, e296, e295⟩ := hC.1 u hu
  have ef : f = b := nI_inj (by omega) (by omega) (by rw [← e296, h6])
  rw [ef] at e295
  unfold f_X12_hasShort f_X12_hasShort_50
  rw [hT.2.1, nI_clamp (show u < 2 ^ 31 by omega), h6, gd_t (inB_nI (by omega) (by omega)), if_pos (nI_le (Nat.le_refl _) (by omega)), gd_t (inB_nI (by omega) (by omega)), e295]
theorem valueOf_ok {ku kc : List Nat} {M M' name r : Nat} {c : Cf} {nm : Int32} (hM : M < 5) (hl : ku ∈ hss M) (hM' : M' < 5) (hl' : kc ∈ hss M') (hn : name < 100) (hr : r < 3) (hc : gGue D = c) : f_X12_valueOf (if r < kc.length then lnm kc r else -1) (nI (bts ku)) (nI name) nm D = some (if r < kc.length then vlN ku name c nm (kc.getD r 0) else -1, D) := by
  unfold f_X12_valueOf
  have n0 := nameAt_l (D := D) (i := 0) hM hl (by omega)
  rw [nI_0] at n0
  by_cases c1 : r < kc.length
  · rw [if_pos c1, if_pos c1]
    have lt : kc.getD r 0 < 5 := by
      have := hss_mem hM' hl' (kc.getD r 0) (by rw [List.getD_eq_getElem?_getD, List.getElem?_eq_getElem c1]; exact List.getElem_mem _)
      omega
    unfold vlN lnm
    generalize kc.getD r 0 = x at *
    rw [if_neg (nI_n1 (by omega))]
    by_cases c2 : x = name
    · rw [if_pos (by rw [c2]), if_pos c2]
    · rw [if_neg (fun e => c2 (nI_inj (by omega) (by omega) e)), if_neg c2, n0, bI_d]
      subst hc
      by_cases c3 : 0 < ku.length
      · have lt0 : ku.getD 0 0 < 5 := by
          have := hss_mem hM hl (ku.getD 0 0) (by rw [List.getD_eq_getElem?_getD, List.getElem?_eq_getElem c3]; exact List.getElem_mem _)
          omega
        rw [if_pos c3]
        unfold lnm
        by_cases c4 : ku.getD 0 0 = x
        · rw [if_pos (by rw [c4]), if_pos ⟨c3, c4⟩]; rfl
        · rw [if_neg (fun e => c4 (nI_inj (by omega) (by omega) e).symm), if_neg (fun q => c4 q.2)]; rfl
      · rw [if_neg c3, if_neg (nI_n1 (by omega)), if_neg (fun q => c3 q.1)]; rfl
  · rw [if_neg c1, if_neg c1, if_pos rfl]
theorem guessGoes_ok (h : STN D T acc ts b ss a Z) (hZ : Z ≤ 2) {c : Cf} {u y k : Nat} (hu : u < a) (hy : y < Z) (hk : k < 2 ^ 31 - 1) (hg : gGue D = c) (hc : c.1 = nI u) (hr : hreg (kaN T acc ts b ss u) c) : f_X12_guessGoes (nI y) (nI k) D = some (setG D (hnx T acc ts b ss a c u y (nI k))) := by
  obtain ⟨hR, h2, hA, h4, h5⟩ := id h
  have hS := hR.2.2.1
  have hT := hR.1.1
  have ha := hS.1
  obtain ⟨hd, k2, kl⟩ := kcr (T := T) (acc := acc) (ts := ts) (b := b) hS hT hu
  have nk : nI k ≠ -1 := nI_n1 (by omega)
  have hr : hreg (kpN T acc ts b (cu T ss u)).length c := hr
  obtain ⟨hi, -⟩ := hix_ok (y := y) (show u < 10 by omega) (by omega) hc kl nk hr
  have iY : f_X12_its 0 2 D = some (nI Z, D) := by rw [its_ok (k := 2) (q := 2) mc0 rfl (by omega), show D 282 (94 * 0 + 2) = nI Z from h2]
  have c66 : D 281 66 = nI u := by rw [← hc, ← hg]; rfl
  have e67 : D 281 67 = c.2.1 := by rw [← hg]; rfl
  have e68 : D 281 68 = c.2.2 := by rw [← hg]; rfl
  have d5 : (ss u).2 < 5 := by omega
  obtain ⟨i, ei⟩ : ∃ i, i = hix c (nI k) (kpN T acc ts b (cu T ss u)).length := ⟨_, rfl⟩
  have hv : vld T acc ts b ss a Z u y i := ⟨hu, hy, by rw [ei]; exact hi⟩
  obtain ⟨h298, h296⟩ := h4 _ _ _ hv
  obtain ⟨v, hl, g306, g307⟩ := h5 _ _ _ hv
  have hva : v < a := fst1_lt hl
  have hw := fst1_some hl
  rw [decide_eq_true_eq] at hw
  have hnm := nmi_le2 (acc := acc) (ts := ts) (b := b) (T := T) hS hT (i := i) hu
  have hgm := lgM_le hnm
  have hcl := (hS.cl (T := T) hT hu (show y < 2 by omega) hnm).2
  have k1 : kpN T acc ts b (clo T acc ts b ss u y i) ∈ hss (lgM (ss u).2 (nmi T acc ts b ss u i)) := kpN_in (T := T) (acc := acc) (ts := ts) (b := b) (show lgM (ss u).2 (nmi T acc ts b ss u i) < 5 by omega) hcl
  have w3 := (wy_3 (T := T) (acc := acc) (ts := ts) (b := b) (c := clo T acc ts b ss u y i) (l := kpN T acc ts b (clo T acc ts b ss u y i)) (c' := cu T ss v) (l' := kpN T acc ts b (cu T ss v))).resolve_left hw
  -- the kept names of the long word
  have e297 : D 297 (atn T acc ts b ss u y i) = nI (bts (kpN T acc ts b (clo T acc ts b ss u y i))) := by
    obtain ⟨f, hf, q1, q2⟩ := hR.2.2.2.2 u hu y (by omega) _ hnm
    have hb := hR.2.1.1
    have ef : f = b := nI_inj (by omega) (by omega) (by rw [← q1]; exact h298)
    rw [ef] at q2; exact q2
  have atl : atn T acc ts b ss u y i < 80 := by unfold atn; omega
  have tail : f_X12_guessGoes_78 (nI y) (nI k) (nI u) (nI (bts (kpN T acc ts b (cu T ss u)))) (nI (nmi T acc ts b ss u i)) D = some (setG D (hnx T acc ts b ss a c u y (nI k))) := by
    have na : ∀ q, q < 2 → f_X12_nameAt (nI (bts (kpN T acc ts b (clo T acc ts b ss u y i)))) (nI q) D = some (if q < (kpN T acc ts b (clo T acc ts b ss u y i)).length then lnm (kpN T acc ts b (clo T acc ts b ss u y i)) q else -1, D) := fun q hq => nameAt_l (by omega) k1 (by omega)
    have n0 := na 0 (by omega)
    have n1 := na 1 (by omega)
    rw [nI_0] at n0
    rw [show nI 1 = 1 from rfl] at n1
    have vo : ∀ q, q < 2 → _ := fun q hq => valueOf_ok (D := D) (name := nmi T acc ts b ss u i) (r := q) (nm := nI k) d5 k2 (show lgM (ss u).2 (nmi T acc ts b ss u i) < 5 by omega) k1 (by omega) (by omega) hg
    unfold f_X12_guessGoes_78
    rw [longAt_ok, bI_d]
    show gd (inB (nI (atn T acc ts b ss u y i)) 80) _ = _
    have atc : Int32.toNatClampNeg (nI (8 * u + 4 * y + nmi T acc ts b ss u i)) = atn T acc ts b ss u y i := nI_clamp (by unfold atn at atl; omega)
    rw [gd_t (inB_nI (by omega) (by omega)), atc, e297, lt_d, n0, bI_d, vo 0 (by omega), bI_d, n1, bI_d, vo 1 (by omega), bI_d]
    rw [show nI (8 * u + 4 * y + nmi T acc ts b ss u i) = nI (atn T acc ts b ss u y i) from rfl, gd_t (inB_nI (by omega) (by omega)), g307]
    unfold hnx
    rw [← ei, hl]
    dsimp only
    unfold f_X12_guessGoes_148 f_X12_guessGoes_170 f_X12_guessGoes_182
    rw [nI_clamp (by omega), g306]
    unfold rgN
    rcases w3.2 with e | ⟨e, e2⟩
    · rw [e, if_neg (by decide), if_pos rfl, if_pos rfl, guesses_ok, bV_d, gd_t (inB_nI (by omega) (by omega))]
      rfl
    · rw [e, if_pos rfl, if_neg (by decide), if_neg (by decide), guesses_ok, bV_d, gd_t (inB_nI (by omega) (by omega)), e2]
      rfl
  unfold f_X12_guessGoes
  rw [c66, if_neg (nI_n1 (by omega)), iY, bI_d, if_pos (nI_lt (by omega) (by omega)), lt_d, c66, hasShort_now hR hu h296, bI_d, e67, e68]
  have ein : nmi T acc ts b ss u i = nmd (kpN T acc ts b (cu T ss u)) (ss u).2 i := rfl
  by_cases c0 : c.2.1 = nI k
  · have i0 : i = 0 := by rw [ei]; unfold hix; rw [if_pos c0]
    have n0 := nameAt_l (D := D) (i := 0) d5 k2 (by omega)
    rw [nI_0] at n0
    have : 0 < (kpN T acc ts b (cu T ss u)).length := by
      rcases Nat.eq_zero_or_pos (kpN T acc ts b (cu T ss u)).length with e | e
      · unfold hreg at hr; rw [if_pos e] at hr; exact absurd (c0.symm.trans hr.1) nk
      · exact e
    rw [if_pos c0, n0, bI_d, if_pos this, ← tail, ein, i0]
    unfold nmd lnm
    rw [if_pos this]
  · rw [if_neg c0]
    by_cases c1 : c.2.2 = nI k
    · have i1 : i = 1 := by rw [ei]; unfold hix; rw [if_neg c0, if_pos c1]
      have n1 := nameAt_l (D := D) (i := 1) d5 k2 (by omega)
      rw [show nI 1 = 1 from rfl] at n1
      have : 1 < (kpN T acc ts b (cu T ss u)).length := by
        unfold hreg at hr
        split at hr
        · exact absurd (c1.symm.trans hr.2) nk
        · split at hr
          · exact absurd (c1.symm.trans hr.2) nk
          · omega
      rw [if_pos c1, n1, bI_d, if_pos this, ← tail, ein, i1]
      unfold nmd lnm
      rw [if_pos this]
    · have i2 : i = (kpN T acc ts b (cu T ss u)).length := by rw [ei]; unfold hix; rw [if_neg c0, if_neg c1]
      rw [if_neg c1, namesOfShort_ok hS hu, bI_d, ← tail, ein, i2]
      unfold nmd
      rw [if_neg (by omega)]
end
