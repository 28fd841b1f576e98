/-! ===== the class makes a step ===== -/
section
variable {D D' E H : Dm} {T : Tb} {acc AH : Int32} {ts ss : Tst} {b a Z : Nat}
theorem okN_k (h : LCs D T acc ts b ss a) (hS : SR E ss a) (hp : PIv ts b ss Z) (h3 : CK3 D T acc ts b ss a Z H AH) : okN (GH (kaN T acc ts b ss) a) (SH T acc H AH Z).1 := by
  obtain ⟨hA, eh, e56, hB, -, -⟩ := h3
  have e57 : D 57 = H 57 := congrArg (fun z : Tb => z.1) eh
  have e58 : D 58 = H 58 := congrArg (fun z : Tb => z.2.1) eh
  have e59 : D 59 = H 59 := congrArg (fun z : Tb => z.2.2) eh
  have hB' : TBL D T acc ts b ss a Z (fun _ _ _ => True) := by
    unfold TBL at hB ⊢
    rw [e57, e58, e59]; exact hB
  obtain ⟨r, -, -, hN⟩ := cfind_h h hS hA hB' hp.2.2 hp.1 e56
  unfold SH at hN ⊢
  rw [eh] at hN
  exact hN
theorem ltr_k (h : LCs D T acc ts b ss a) (hS : SR E ss a) (hp : PIv ts b ss Z) (h3 : CK3 D T acc ts b ss a Z H AH) (hf : (SH T acc H AH Z).2 = true) : LTR 2 (wrW T acc H AH Z) ∧ PFX H T acc ts b ss a (wrW T acc H AH Z) := by
  obtain ⟨-, -, f3, f4, -⟩ := found_ok hS h.1.wfT hp.1 (okN_k h hS hp h3) h3.2.2.2.2.1 hf
  refine ⟨fun x hx => ?_, f4⟩
  obtain ⟨y, k, hy, hk, e⟩ := f3 x hx
  exact ⟨y, k, by have := hp.2.2; omega, hk, e⟩
theorem sy_k (h : LCs D T acc ts b ss a) (hS : SR E ss a) (hp : PIv ts b ss Z) (hK : CKs D T acc ts b ss a Z H AH) {w : List Lt} (hw : PWd D w) (h13 : D 43 13 ≠ 0) : ∀ x ∈ w, isSy x.1 := by
  rcases hK with ⟨q1, -, u, y, i, e, x, hv, -, hx, -, q⟩ | ⟨q1, -, -, u, y, i, hv, -, -, q⟩ | h3
  · rw [hw.uniq q]
    have hl : (hsN (clo T acc ts b ss u y i)).length ≤ 2 := by
      have hnm := nmi_le2 (acc := acc) (ts := ts) (b := b) (T := T) hS h.1.wfT (i := i) hv.1
      have hcc := (hS.cl (T := T) h.1.wfT hv.1 (show y < 2 by have := hp.2.2; have := hv.2.1; omega) hnm).2
      have := lgM_le hnm
      have := (hS.sy hv.1).1
      exact (hss_in _ (by omega) _ (hsN_in (by omega) hcc)).1
    obtain ⟨hb, -⟩ := shE_some h.2.1.okT hl hx
    intro z hz
    rcases List.mem_cons.mp hz with rfl | hz
    · exact isSy_n (by have := hp.2.2; have := hv.2.1; omega)
    · obtain ⟨z', hz', rfl⟩ := List.mem_map.mp hz
      exact ((h.2.1.okT x.1 hb).2 z' hz').1
  · rw [hw.uniq q]
    intro z hz
    rcases List.mem_append.mp hz with hz | hz
    · exact ((hS.sy hv.1).2.2 z hz).1
    · have : z = (nI y, nI (nmi T acc ts b ss u i)) := by simpa using hz
      rw [this]
      exact isSy_n (by have := hp.2.2; have := hv.2.1; omega)
  · rcases id h3 with ⟨-, -, -, -, -, ⟨-, q, -⟩ | ⟨hf, -, -, s, -, -, -, q⟩⟩
    · exact absurd q h13
    · rw [hw.uniq q]
      intro z hz
      obtain ⟨y, k, hy, hk, e⟩ := (ltr_k h hS hp h3 hf).1 z (List.mem_of_mem_drop hz)
      rw [e]; exact isSy_n hy
abbrev SMS (j k : Nat) : Prop := (82 ≤ j ∧ j ≤ 121) ∨ (122 ≤ j ∧ j ≤ 261) ∨ (j = 43 ∧ (k = 4 ∨ k = 16 ∨ k = 17)) ∨ (j = 76 ∧ k = 2)
theorem lnew {w : List Lt} {f g s : Nat → Int32} {n : Nat} (hn : n ≤ 20) (hw : w = lts f g 0 n) {s' g' : Nat → Int32} (hs : ∀ k, k < n → s' k = f k ∧ g' k = nI (lsf g k)) : lfm w = lts s' g' 0 n ∧ dsL w = dsf g' n ∧ (∀ k, k < n → g' k = nI (lsf g' k)) ∧ ∀ k, k < n → ∃ j, j < dsL w ∧ g' k = nI j := by
  obtain ⟨a1, a2⟩ := lsf_lsf (f := g) (n := n) (by omega)
  have e1 : ∀ k, k < n → lsf g' k = lsf g k := fun k hk => by
    rw [lsf_congr (g := fun k => nI (lsf g k)) (fun j hj => (hs j (by omega)).2), a1 k hk]
  have e2 : dsf g' n = dsf g n := by rw [dsf_congr (g := fun k => nI (lsf g k)) (fun j hj => (hs j hj).2), a2]
  have e3 : dsL w = dsf g n := by rw [hw, dsL_lts]
  refine ⟨?_, by rw [e3, e2], fun k hk => by rw [e1 k hk]; exact (hs k hk).2, fun k hk => ⟨lsf g k, by rw [e3]; exact lsf_lt hk, (hs k hk).2⟩⟩
  rw [hw, lfm_lts]
  exact lts_congr (fun k _ hk => ⟨(hs k (by omega)).1.symm, (hs k (by omega)).2.symm⟩)
theorem mkS (h : CIv D T acc ts b ss a Z) (h13 : D 43 13 = 2) (h15 : D 43 15 = 0) {w : List Lt} (hw : PWd D w) (hsy : ∀ x ∈ w, isSy x.1) (ha : a < 10) (h6 : w.length ≤ 6) (h3 : dsL w ≤ 3) : Y (f_X3_makeStep D) (fun r => r.1 = 2 ∧ Fr SMS D r.2 ∧ CIv r.2 T acc ts b (addL ss a w) (a + 1) Z ∧ r.2 43 17 = 0 ∧ r.2 43 16 = 0) := by
  obtain ⟨h1, h2, hSL, hTL, hY⟩ := id h
  obtain ⟨wW, wl⟩ := id hw
  have h4 := h1.2.2.2.1
  unfold f_X3_makeStep f_X3_makeStep_91
  refine yNeg (by rw [h13]; decide) (yPos h15 (yPos h13 ?_))
  rw [h4]
  refine yGd (inB_nI (by omega) (by omega)) ?_
  rw [nI_clamp (by omega), ar44 a ha]
  obtain ⟨D2, e2, c1, c2, c3⟩ := copyLeast_ok (D := D) (w := 122 + 14 * a) (v := 68) (n := w.length) wW.2.1 (by omega) (by omega)
  refine yBVe e2 (yLt0 (yLt0 (yLt0 (yRet ?_))))
  have F : Fr (fun j k => (122 + 14 * a ≤ j ∧ j ≤ 122 + 14 * a + 3) ∨ (j = 43 ∧ (k = 4 ∨ k = 16 ∨ k = 17))) D (ud (ud (ud D2 43 4 (D2 43 4 + 1)) 43 16 0) 43 17 0) := fun j k q => by
    rw [ud_at, if_neg (by omega), ud_at, if_neg (by omega), ud_at, if_neg (by omega), c3 j k (by omega)]
  generalize hD4 : ud (ud (ud D2 43 4 (D2 43 4 + 1)) 43 16 0) 43 17 0 = D4 at *
  have g : ∀ j k, 122 + 14 * a ≤ j → j ≤ 122 + 14 * a + 3 → D4 j k = D2 j k := fun j k q1 q2 => by
    rw [← hD4, ud_at, if_neg (by omega), ud_at, if_neg (by omega), ud_at, if_neg (by omega)]
  have i4 : D4 43 4 = nI (a + 1) := by
    rw [← hD4, ud_at, if_neg (by omega), ud_at, if_neg (by omega), ud_at, if_pos ⟨rfl, rfl⟩, c3 43 4 (by omega), h4, nI_1]
  have i16 : D4 43 16 = 0 := by rw [← hD4, ud_at, if_neg (by omega), ud_at, if_pos ⟨rfl, rfl⟩]
  have i17 : D4 43 17 = 0 := by rw [← hD4, ud_at, if_pos ⟨rfl, rfl⟩]
  have iW : isW D4 (122 + 14 * a) w.length := isW_congr c1 (g _ _ (by omega) (by omega)) (g _ _ (by omega) (by omega)) (fun k _ => g _ _ (by omega) (by omega)) (fun k _ => g _ _ (by omega) (by omega))
  have cells : ∀ k, k < w.length → D4 (122 + 14 * a + 1) k = D 69 k ∧ D4 (122 + 14 * a + 2) k = nI (lsf (D 70) k) := fun k hk => by
    rw [g _ _ (by omega) (by omega), g _ _ (by omega) (by omega), (c2 k hk).1, (c2 k hk).2]
    exact ⟨rfl, wW.2.2.2 k hk⟩
  obtain ⟨n1, n2, n3, n4⟩ := lnew (s := D 69) (by omega) wl cells
  have old : ∀ u, u < a → ∀ j k, 122 + 14 * u ≤ j → j ≤ 122 + 14 * u + 3 → D4 j k = D j k := fun u hu j k q1 q2 => F j k (by omega)
  have e13 : D4 43 13 = 2 := by rw [F 43 13 (by omega), h13]
  dsimp only
  refine ⟨e13, F.mono (fun j k q => by unfold SMS; omega), ⟨⟨h1.1.fr (fun j k q1 q2 => F j k (by omega)), h1.2.1.fr (fun j k q => F j k (by omega)), ⟨by omega, by omega⟩, i4, fun u hu => ?_⟩, Or.inl i16, fun u hu k hk => ?_, hTL.fr h1.2.1.1 (fun j k q1 q2 => F j k (by omega)), by rw [F 9 2 (by omega)]; exact hY⟩, i17, i16⟩
  · by_cases e : u = a
    · subst e
      rw [addL_at]
      refine ⟨w.length, h6, iW, n1, n2, h3, fun k hk => ⟨?_, n4 k hk⟩⟩
      rw [(cells k hk).1]
      have hm : (D 69 k, D 70 k) ∈ w := by
        rw [wl]
        exact List.mem_of_getElem? (lts_get hk)
      exact hsy _ hm
    · rw [addL_lt (by omega)]
      obtain ⟨n, q1, q2, q3, q4, q5, q6⟩ := h1.2.2.2.2 u (by omega)
      have o1 : D4 (122 + 14 * u + 1) = D (122 + 14 * u + 1) := funext (fun k => old u (by omega) _ k (by omega) (by omega))
      have o2 : D4 (122 + 14 * u + 2) = D (122 + 14 * u + 2) := funext (fun k => old u (by omega) _ k (by omega) (by omega))
      refine ⟨n, q1, isW_congr q2 (old u (by omega) _ _ (by omega) (by omega)) (old u (by omega) _ _ (by omega) (by omega)) (fun k _ => old u (by omega) _ _ (by omega) (by omega)) (fun k _ => old u (by omega) _ _ (by omega) (by omega)), ?_, ?_, q5, ?_⟩
      · rw [o1, o2]; exact q3
      · rw [o2]; exact q4
      · rw [o1, o2]; exact q6
  · by_cases e : u = a
    · subst e
      rw [addL_at] at hk
      exact n3 k (by rw [← lfm_len]; exact hk)
    · rw [addL_lt (by omega)] at hk
      have o2 : D4 (122 + 14 * u + 2) = D (122 + 14 * u + 2) := funext (fun k => old u (by omega) _ k (by omega) (by omega))
      rw [o2]; exact hSL u (by omega) k hk
theorem mkT (h : CIv D T acc ts b ss a Z) (h13 : D 43 13 ≠ 2) (h0 : D 43 13 ≠ 0) (h15 : D 43 15 = 0) {w : List Lt} (hw : PWd D w) (hsy : ∀ x ∈ w, isSy x.1) (hb : b < 10) (h6 : w.length ≤ 6) (h3 : dsL w ≤ 3) : Y (f_X3_makeStep D) (fun r => r.1 = D 43 13 ∧ Fr SMS D r.2 ∧ CIv r.2 T acc (addL ts b w) (b + 1) ss a Z ∧ r.2 43 17 = 0 ∧ r.2 43 16 = 0) := by
  obtain ⟨h1, h2, hSL, hTL, hY⟩ := id h
  obtain ⟨wW, wl⟩ := id hw
  have h4 := h1.2.1.2.1
  have ha := h1.2.2.1.2
  unfold f_X3_makeStep f_X3_makeStep_91
  refine yNeg h0 (yPos h15 (yNeg h13 ?_))
  rw [h4]
  refine yGd (inB_nI (by omega) (by omega)) ?_
  rw [nI_clamp (by omega), ar77 b hb]
  obtain ⟨D2, e2, c1, c2, c3⟩ := copyLeast_ok (D := D) (w := 82 + 4 * b) (v := 68) (n := w.length) wW.2.1 (by omega) (by omega)
  refine yBVe e2 (yLt0 (yLt0 (yLt0 (yRet ?_))))
  have F : Fr (fun j k => (82 + 4 * b ≤ j ∧ j ≤ 82 + 4 * b + 3) ∨ (j = 43 ∧ (k = 16 ∨ k = 17)) ∨ (j = 76 ∧ k = 2)) D (ud (ud (ud D2 76 2 (D2 76 2 + 1)) 43 16 0) 43 17 0) := fun j k q => by
    rw [ud_at, if_neg (by omega), ud_at, if_neg (by omega), ud_at, if_neg (by omega), c3 j k (by omega)]
  generalize hD4 : ud (ud (ud D2 76 2 (D2 76 2 + 1)) 43 16 0) 43 17 0 = D4 at *
  have g : ∀ j k, 82 + 4 * b ≤ j → j ≤ 82 + 4 * b + 3 → D4 j k = D2 j k := fun j k q1 q2 => by
    rw [← hD4, ud_at, if_neg (by omega), ud_at, if_neg (by omega), ud_at, if_neg (by omega)]
  have i4 : D4 76 2 = nI (b + 1) := by
    rw [← hD4, ud_at, if_neg (by omega), ud_at, if_neg (by omega), ud_at, if_pos ⟨rfl, rfl⟩, c3 76 2 (by omega), h4, nI_1]
  have i16 : D4 43 16 = 0 := by rw [← hD4, ud_at, if_neg (by omega), ud_at, if_pos ⟨rfl, rfl⟩]
  have i17 : D4 43 17 = 0 := by rw [← hD4, ud_at, if_pos ⟨rfl, rfl⟩]
  have iW : isW D4 (82 + 4 * b) w.length := isW_congr c1 (g _ _ (by omega) (by omega)) (g _ _ (by omega) (by omega)) (fun k _ => g _ _ (by omega) (by omega)) (fun k _ => g _ _ (by omega) (by omega))
  have cells : ∀ k, k < w.length → D4 (82 + 4 * b + 1) k = D 69 k ∧ D4 (82 + 4 * b + 2) k = nI (lsf (D 70) k) := fun k hk => by
    rw [g _ _ (by omega) (by omega), g _ _ (by omega) (by omega), (c2 k hk).1, (c2 k hk).2]
    exact ⟨rfl, wW.2.2.2 k hk⟩
  obtain ⟨n1, n2, n3, n4⟩ := lnew (s := D 69) (by omega) wl cells
  have old : ∀ u, u < b → ∀ j k, 82 + 4 * u ≤ j → j ≤ 82 + 4 * u + 3 → D4 j k = D j k := fun u hu j k q1 q2 => F j k (by omega)
  have e13 : D4 43 13 = D 43 13 := F 43 13 (by omega)
  dsimp only
  refine ⟨e13, F.mono (fun j k q => by unfold SMS; omega), ⟨⟨h1.1.fr (fun j k q1 q2 => F j k (by omega)), ⟨by omega, i4, fun u hu => ?_⟩, h1.2.2.fr (F 43 4 (by omega)) (fun j k q1 q2 q3 => F j k (by omega))⟩, Or.inl i16, hSL.fr ha (fun j k q1 q2 q3 => F j k (by omega)), ⟨⟨by omega, by rw [addL_lt (by have := hTL.1.1; omega)]; exact hTL.1.2⟩, fun u hu => ?_⟩, by rw [F 9 2 (by omega)]; exact hY⟩, i17, i16⟩
  · by_cases e : u = b
    · subst e
      rw [addL_at]
      refine ⟨w.length, by omega, iW.2.1, by rw [iW.2.2.1, n2], h3, n1, fun k hk => ⟨?_, n4 k hk⟩⟩
      rw [(cells k hk).1]
      have hm : (D 69 k, D 70 k) ∈ w := by
        rw [wl]
        exact List.mem_of_getElem? (lts_get hk)
      exact hsy _ hm
    · rw [addL_lt (by omega)]
      exact (h1.2.1.2.2 u (by omega)).fr (fun j k q1 q2 => old u (by omega) j k (by omega) (by omega))
  · by_cases e : u = b
    · subst e
      rw [addL_at]
      show isW D4 (82 + 4 * u) (lfm w).length ∧ (lfm w).length ≤ 6 ∧ ∀ k, k < (lfm w).length → _
      rw [lfm_len]
      exact ⟨iW, h6, n3⟩
    · rw [addL_lt (by omega)]
      obtain ⟨q1, q2, q3⟩ := hTL.2 u (by omega)
      have o2 : D4 (82 + 4 * u + 2) = D (82 + 4 * u + 2) := funext (fun k => old u (by omega) _ k (by omega) (by omega))
      refine ⟨isW_congr q1 (old u (by omega) _ _ (by omega) (by omega)) (old u (by omega) _ _ (by omega) (by omega)) (fun k _ => old u (by omega) _ _ (by omega) (by omega)) (fun k _ => old u (by omega) _ _ (by omega) (by omega)), q2, ?_⟩
      rw [o2]; exact q3
end
