/-! ===== mixed words of the reference, the answer ===== -/
theorem mxv_nm {ku : List Nat} {c : Cf} {j : Nat} (hl : ku.length ≤ 2) (hj : j < 100) (hr : hreg ku.length c) (ho : okC c 20) : ∃ q, q < 1000 ∧ mxv ku c 100 (nI j) = nI q := by
  have r0 : c.2.1 ≠ -1 → ∃ q, q < 1000 ∧ c.2.1 = nI q := fun h => by
    obtain ⟨q, hq, e⟩ := ho.1.resolve_left h
    exact ⟨q, by omega, e⟩
  have r1 : c.2.2 ≠ -1 → ∃ q, q < 1000 ∧ c.2.2 = nI q := fun h => by
    obtain ⟨q, hq, e⟩ := ho.2.resolve_left h
    exact ⟨q, by omega, e⟩
  unfold mxv
  rw [nI_clamp (by omega)]
  have ne1 : (1 : Int32) ≠ 0 := by decide
  rcases ku with _ | ⟨p, _ | ⟨q, _ | ⟨t, l⟩⟩⟩
  · exact ⟨100 + j, by omega, by rw [if_pos (show plI [] j = -1 from rfl), nI_add]⟩
  · simp [hreg] at hr
    by_cases c1 : p = j
    · have e : plI [p] j = 0 := by simp [plI, plc1, oI, c1, nI_0]
      rw [e, if_neg (by decide), if_pos rfl]
      exact r0 hr.1
    · have e : plI [p] j = -1 := by simp [plI, plc1, oI, c1]
      rw [e, if_pos rfl]
      exact ⟨100 + j, by omega, by rw [nI_add]⟩
  · simp [hreg] at hr
    by_cases c1 : p = j
    · have e : plI [p, q] j = 0 := by simp [plI, plc1, oI, c1, nI_0]
      rw [e, if_neg (by decide), if_pos rfl]
      exact r0 hr.1
    · by_cases c2 : q = j
      · have e : plI [p, q] j = 1 := by simp [plI, plc1, oI, c1, c2]; rfl
        rw [e, if_neg (by decide), if_neg (by decide)]
        exact r1 hr.2.1
      · have e : plI [p, q] j = -1 := by simp [plI, plc1, oI, c1, c2]
        rw [e, if_pos rfl]
        exact ⟨100 + j, by omega, by rw [nI_add]⟩
  · simp at hl
section
variable {D0 : Dm} {T : Tb} {acc : Int32} {ts ss : Tst} {b a Z : Nat} {w : List Lt}
theorem mg55 (hM : MR D0 0 T acc) (hW : WR D0 w) (hZ : Z ≤ 2) (hL : LTR Z w) {i : Nat} (hi : i ≤ w.length) {ku : List Nat} {d : Nat} (hd : d < 5) (hku : ku ∈ hss d) {c : Cf} (hr : hreg ku.length c) (ho : okC c 20) {E : Dm} {l : List Lt} {n : Nat} (hF0 : Fr SMG D0 E) (hn : n ≤ 6) (h36 : E 281 36 = nI n) (hl : l = lts (E 299) (E 300) 0 n) (hy : ∀ k, k < n → isSy (E 299 k) ∧ ∃ j, j < 4 ∧ E 300 k = nI j) (hg : gGue E = c) : ∀ (j k m : Nat) (D : Dm), k + j = n → Fr (fun j k => j = 300) E D → (∀ q, q < k → D 300 q = mxv ku c 100 (E 300 q)) → (∀ q, k ≤ q → D 300 q = E 300 q) → Y (f_X12_isMixedGood_55 (j + 1 + m) (nI i) (nI (bts ku)) (nI k) D) (fun r => r.1 = b01 (tk acc (mixC T ku l 100 c (w.drop i))) ∧ Fr SMG D0 r.2) := by
  have kl := (hss_in _ hd _ hku).1
  have km := hss_mem hd hku
  have w20 := hW.1
  intro j
  induction j with
  | zero =>
    intro k m D hk hF hlo hhi
    have hk : k = n := by omega
    rw [show 0 + 1 + m = m + 1 by omega]
    show Y (f_X12_isMixedGood_55_b _ _ _ _ _) _
    unfold f_X12_isMixedGood_55_b
    rw [hF 281 36 (by omega), h36]
    refine yPos (by rw [hk]; exact nI_le (Nat.le_refl _) (by omega)) ?_
    have hK : LKm D (ins l (mxv ku c 100)) (mxf (fun k => (D 300 k).toNatClampNeg) n) := by
      refine ⟨n, by omega, by rw [hF 281 36 (by omega)]; exact h36, ?_, fun q hq => ?_, rfl⟩
      · rw [hl]
        have key : ∀ s, s ≤ n → ins (lts (E 299) (E 300) 0 s) (mxv ku c 100) = lts (D 299) (D 300) 0 s := by
          intro s
          induction s with
          | zero => intro _; rfl
          | succ s ihs =>
            intro hs
            rw [lts_snoc, lts_snoc, ← ihs (by omega), hF 299 s (by omega), hlo s (by omega)]
            unfold ins
            rw [List.map_append]
            rfl
        exact key n (Nat.le_refl _)
      · obtain ⟨s1, j, hj, e⟩ := hy q hq
        rw [hF 299 q (by omega), hlo q (by omega), e]
        exact ⟨s1, mxv_nm kl (by omega) hr ho⟩
    obtain ⟨z, hz⟩ := FUs (w.length - i) (by omega)
    have hL40 : (ins l (mxv ku c 100) ++ w.drop i).length ≤ 40 := by
      rw [List.length_append, List.length_drop]
      unfold ins
      rw [List.length_map, hl, lts_len]
      omega
    have := mg128 (L := ins l (mxv ku c 100) ++ w.drop i) hM hW hZ hL hL40 (w.length - i) i z D _ _ (by omega) (hF0.tr (hF.mono (fun j k q => by unfold SMG; omega))) hK rfl
    rw [run_app] at this
    rw [hz]
    exact this
  | succ j ih =>
    intro k m D hk hF hlo hhi
    have hkn : k < n := by omega
    obtain ⟨s1, x, hx, e⟩ := hy k hkn
    have eD : D 300 k = nI x := by rw [hhi k (Nat.le_refl _)]; exact e
    have g67 : D 281 67 = c.2.1 := by rw [hF _ _ (by omega), ← hg]; rfl
    have g68 : D 281 68 = c.2.2 := by rw [hF _ _ (by omega), ← hg]; rfl
    rw [show j + 1 + 1 + m = (j + 1 + m) + 1 by omega]
    show Y (f_X12_isMixedGood_55_b _ _ _ _ _) _
    unfold f_X12_isMixedGood_55_b
    have n0 := nameAt_l (D := D) (i := 0) hd hku (by omega)
    have n1 := nameAt_l (D := D) (i := 1) hd hku (by omega)
    rw [nI_0] at n0
    rw [show nI 1 = 1 from rfl] at n1
    have mv := mx_r (ku := ku) (c := c) (j := x) kl (fun p hp => by have := km p hp; omega) (by omega)
    rw [hF 281 36 (by omega), h36]
    refine yNeg (nI_nle2 (by omega) (by omega)) (yGd (inB_nI (by omega) (by omega)) ?_)
    rw [n0, bI_d, nI_clamp (by omega), eD]
    have next : ∀ v, v = mxv ku c 100 (nI x) → Y (f_X12_isMixedGood_119 (f_X12_isMixedGood_55 (j + 1 + m)) (nI i) (nI (bts ku)) (nI k) v (nI k) D) (fun r => r.1 = b01 (tk acc (mixC T ku l 100 c (w.drop i))) ∧ Fr SMG D0 r.2) := fun v hv => by
      unfold f_X12_isMixedGood_119
      refine yGd (inB_nI (by omega) (by omega)) ?_
      rw [nI_clamp (by omega), lt_d, lt_d, nI_1]
      refine ih (k + 1) m _ (by omega) (hF.ud rfl) (fun q hq => ?_) (fun q hq => ?_)
      · rw [ud_at]
        by_cases eq : q = k
        · rw [if_pos ⟨rfl, eq⟩, eq, e]; exact hv
        · rw [if_neg (by omega)]; exact hlo q (by omega)
      · rw [ud_at, if_neg (by omega)]; exact hhi q (by omega)
    refine yIte (fun c1 => ?_) (fun c1 => ?_)
    · exact next _ (by rw [mv, if_pos c1]; exact g67)
    · refine yGd (inB_nI (by omega) (by omega)) ?_
      rw [n1, bI_d, eD]
      refine yIte (fun c2 => ?_) (fun c2 => ?_)
      · exact next _ (by rw [mv, if_neg c1, if_pos c2]; exact g68)
      · refine yGd (inB_nI (by omega) (by omega)) ?_
        exact next _ (by rw [mv, if_neg c1, if_neg c2])
theorem isMixedGood_ok (h : STN D0 T acc ts b ss a Z) (hZ : Z ≤ 2) (hZ1 : 1 ≤ Z) {H : Dm} (hB : TBL H T acc ts b ss a Z (fun _ _ _ => True)) (hW : WR D0 w) (hL : LTR Z w) (hP : PFX H T acc ts b ss a w) {u i : Nat} (hi : i ≤ w.length) (hu : u < a) {c : Cf} (hc : (w.take i).foldl (hst (hyp H)) c0 = c) (hcu : c.1 = nI u) : Y (f_X12_isMixedGood (nI i) D0) (fun r => r.1 = b01 (tk acc (mixC T (kpN T acc ts b (cu T ss u)) (ss u).1 100 c (w.drop i))) ∧ Fr SMG D0 r.2) := by
  have w20 := hW.1
  have hr : hreg (kaN T acc ts b ss u) c ∧ okC c 20 := by
    obtain ⟨u', hu', q1, q2, q3⟩ := hP i hi
    rw [hc] at q1 q2 q3
    have ha := h.1.2.2.1.1
    have : u' = u := nI_inj (by omega) (by omega) (by rw [← q1, ← hcu])
    rw [this] at q2
    exact ⟨q2, q3⟩
  unfold f_X12_isMixedGood
  rw [guesses_ok, bV_d]
  have hk : ∀ D, Fr (fun j k => j = 281 ∧ (66 ≤ k ∧ k ≤ 68)) D0 D → gGue D = (w.take i).foldl (hst (hyp H)) c0 → Y (mgT (nI i) D) (fun r => r.1 = b01 (tk acc (mixC T (kpN T acc ts b (cu T ss u)) (ss u).1 100 c (w.drop i))) ∧ Fr SMG D0 r.2) := by
    intro D hF hg
    rw [hc] at hg
    have hD : STN D T acc ts b ss a Z := h.fr (fun j k q => hF j k (by omega))
    have c66 : D 281 66 = nI u := by rw [← hcu, ← hg]; rfl
    have ha := hD.1.2.2.1.1
    obtain ⟨hd, k2, kl⟩ := kcr (T := T) (acc := acc) (ts := ts) (b := b) hD.1.2.2.1 hD.1.1.1 hu
    have h296 := (hD.2.2.2.1 u 0 0 ⟨hu, by omega, Nat.zero_le _⟩).2
    unfold mgT
    rw [c66, hasShort_now hD.1 hu h296, bI_d, c66]
    refine yBV (takesShort_ok hD.1.2.2.1 hu) (fun E hE => ?_)
    obtain ⟨hFE, n, n40, e36, el, ey, -⟩ := hE
    have sy := (hD.1.2.2.1.sy hu)
    have len : (ss u).1.length = n := by rw [el, lts_len]
    have names : ∀ k, k < n → isSy (E 299 k) ∧ ∃ j, j < 4 ∧ E 300 k = nI j := fun k hk => by
      refine ⟨(ey k hk).1, ?_⟩
      have mem : (E 299 k, E 300 k) ∈ (ss u).1 := by
        rw [el]
        exact List.mem_of_getElem? (lts_get hk)
      obtain ⟨-, j, hj, e⟩ := sy.2.2 _ mem
      exact ⟨j, by omega, e⟩
    have hgE : gGue E = c := by
      rw [← hg]; unfold gGue
      rw [hFE _ _ (by omega), hFE _ _ (by omega), hFE _ _ (by omega)]
    obtain ⟨z, hz⟩ := FUs n (by omega)
    have hFDE : Fr SMG D0 E := (hF.mono (fun j k q => by unfold SMG; omega)).tr (hFE.mono (fun j k q => by unfold SMG; omega))
    have := mg55 (acc := acc) (T := T) h.1.1 hW hZ hL hi (show (ss u).2 < 5 by omega) k2 hr.1 hr.2 hFDE (by omega) e36 el names hgE n 0 z E (by omega) Fr.refl (fun q hq => absurd hq (Nat.not_lt_zero q)) (fun _ _ => rfl)
    rw [nI_0] at this
    rw [hz]
    exact this
  obtain ⟨z, hz⟩ := FUs i (by omega)
  have := mg9 h hZ hB hW hL hP hi hk i 0 z (setG D0 (0, -1, -1)) (by omega) setG_fr (by rw [gGue_set]; rfl)
  rw [nI_0] at this
  rw [hz]
  exact this
end
