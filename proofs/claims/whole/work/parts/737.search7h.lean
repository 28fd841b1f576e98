section
variable {G : Cf → Cf → Nat → Prop} {T : Tb} {acc : Int32} {sB : Cf → Lt → Cf} {tB : Cf → Bool} {Z k : Nat} {D0 : Dm} {N : List Nd}
theorem go33_h (hM : MC D0 T acc) (hadv : ∀ (D : Dm) (a b : Cf) (n : Nat) (y nm : Int32), Fr SG D0 D → G a b n → getGo D 38 = b → isSy y → f_X2_advance 38 y nm D = some (setGo D 38 (sB b (y, nm)))) (htak : ∀ D : Dm, Fr SG D0 D → f_X2_takes 38 D = some (b01 (tB (getGo D 38)), D))
    (hcl : clG G (step T) sB Z) (hZ : Z ≤ 2) (hGP : ∀ a b n, G a b n → n ≤ 20 → okP a b) (hGC : ∀ a b n, G a b n → okSt a.1 ∧ okC a n ∧ okC b n) (hroom : ∀ N, okN G N → N.length ≤ 1351) {nd : Nd} (hnd : nN nd < 20) {y : Nat} (hy : y < Z) {k23 : Int32 → Int32 → Int32 → Dm → Option (Int32 × Dm)} {Q : Int32 × Dm → Prop}
    (hcont : ∀ D2, IV G D0 k nd D2 (goL (tryN (step T) sB (tk acc) tB k) N (ltrs y (nmI nd 5))).1 → (goL (tryN (step T) sB (tk acc) tB k) N (ltrs y (nmI nd 5))).2 = false → Y (k23 (nI k) (nI Z) (nI (y + 1)) D2) Q)
    (hhit : ∀ D2, IV G D0 k nd D2 (goL (tryN (step T) sB (tk acc) tB k) N (ltrs y (nmI nd 5))).1 → (goL (tryN (step T) sB (tk acc) tB k) N (ltrs y (nmI nd 5))).2 = true → Q (1, D2)) :
    ∀ (j i m : Nat) (D : Dm), i + j = (nmI nd 5).length → IV G D0 k nd D (goL (tryN (step T) sB (tk acc) tB k) N (ltrs y ((nmI nd 5).take i))).1 → (goL (tryN (step T) sB (tk acc) tB k) N (ltrs y ((nmI nd 5).take i))).2 = false → Y (f_X8_goOn_h_33 k23 (j + 1 + m) (nI k) (nI Z) (nI y) (nI i) D) Q := by
  generalize hf : tryN (step T) sB (tk acc) tB k = f at *
  have hl5 := nmI_len (n := nd) 5
  intro j
  induction j with
  | zero =>
    intro i m D hi hI hh
    have hi : i = (nmI nd 5).length := by omega
    rw [show 0 + 1 + m = m + 1 by omega]
    show Y (f_X8_goOn_h_33_b _ _ _ _ _ _ _) _
    unfold f_X8_goOn_h_33_b
    rw [hI.2.2.2.2.2.2.2.1, lt_d, nI_1]
    rw [hi, List.take_length] at hI hh
    exact yPos (by rw [hi]; exact nI_le (Nat.le_refl _) (by omega)) (hcont D hI hh)
  | succ j ih =>
    intro i m D hi hI hh
    obtain ⟨hok, hk, hnk, hR, hF, h32, h34, hn13, hnm⟩ := id hI
    generalize hN' : (goL f N (ltrs y ((nmI nd 5).take i))).1 = N' at *
    have hin : i < (nmI nd 5).length := by omega
    have hgk := hok.2.2.2.1 k hk
    rw [hnk] at hgk
    have hlt : ltrs y ((nmI nd 5).take (i + 1)) = ltrs y ((nmI nd 5).take i) ++ [(nI y, (nmI nd 5).getD i 0)] := by
      unfold ltrs
      rw [show (nmI nd 5).take (i + 1) = (nmI nd 5).take i ++ [(nmI nd 5).getD i 0] by rw [List.take_add_one, List.getD_eq_getElem?_getD, List.getElem?_eq_getElem hin]; rfl, List.map_append]
      rfl
    have hone : goL f N (ltrs y ((nmI nd 5).take (i + 1))) = f N' (nI y, (nmI nd 5).getD i 0) := by
      rw [hlt, goL_one hh, hN']
    obtain ⟨mm, hmm, exm⟩ : ∃ m, m ≤ nU nd ∧ (nmI nd 5).getD i 0 = nI m := by
      refine nm_in (n := nd) ⟨(hGC _ _ _ hgk.1).2.1, (hGC _ _ _ hgk.1).2.2⟩ 5 (Nat.le_refl _) _ ?_
      rw [List.getD_eq_getElem?_getD, List.getElem?_eq_getElem hin]
      exact List.getElem_mem _
    rw [show j + 1 + 1 + m = (j + 1 + m) + 1 by omega]
    show Y (f_X8_goOn_h_33_b _ _ _ _ _ _ _) _
    unfold f_X8_goOn_h_33_b
    rw [hn13]
    refine yNeg (nI_nle2 (by omega) (by omega)) ?_
    rw [go_copy (by omega) (by omega), bV_d, h32]
    have g34 : getGo (setGo D 36 nd.1.1) 34 = nd.1.2 := by
      rw [← h34]; unfold getGo; rw [setGo_ne (by omega) (by omega), setGo_ne (by omega) (by omega)]
    rw [go_copy (by omega) (by omega), bV_d, g34]
    generalize hD1 : setGo (setGo D 36 nd.1.1) 38 nd.1.2 = D1
    have hF1 : Fr (fun j k => 36 ≤ j ∧ j ≤ 39) D D1 := by
      rw [← hD1]
      exact (Fr.refl.go (by omega) (by omega) (by omega)).go (by omega) (by omega) (by omega)
    have a1 : getGo D1 36 = nd.1.1 := by
      rw [← hD1]
      show (setGo (setGo D 36 nd.1.1) 38 nd.1.2 36 0, setGo (setGo D 36 nd.1.1) 38 nd.1.2 37 0, setGo (setGo D 36 nd.1.1) 38 nd.1.2 37 1) = nd.1.1
      rw [show setGo (setGo D 36 nd.1.1) 38 nd.1.2 36 = setGo D 36 nd.1.1 36 from setGo_ne (by omega) (by omega), show setGo (setGo D 36 nd.1.1) 38 nd.1.2 37 = setGo D 36 nd.1.1 37 from setGo_ne (by omega) (by omega)]
      exact getGo_set
    have b1 : getGo D1 38 = nd.1.2 := by rw [← hD1]; exact getGo_set
    rw [nI_clamp (show i < 2 ^ 31 by omega)]
    refine yGd (inB_nI (by omega) (by omega)) ?_
    rw [hF1 41 i (by omega), hnm i hin, exm]
    have sy := isSy_n (show y < 2 by omega)
    have hMD : ∀ {D' : Dm}, Fr SG D0 D' → MC D' T acc := fun hF' => hM.fr (fun j k h1 h2 => hF' j k (by unfold SG; omega))
    have hF1' : Fr SG D0 D1 := hF.tr (hF1.mono (fun j k q => by unfold SG; omega))
    have ad1 := (hMD hF1').adv (g := 36) (y := nI y) (nm := nI mm) (by show okSt (getGo D1 36).1; rw [a1]; exact (hGC _ _ _ hgk.1).1) sy (by omega)
    rw [ad1, bV_d, a1]
    generalize hD2 : setGo D1 36 (step T nd.1.1 (nI y, nI mm)) = D2
    have hF2 : Fr (fun j k => j = 36 ∨ j = 37) D1 D2 := by
      rw [← hD2]; exact Fr.refl.go (by omega) (by omega) (by omega)
    have hF2' : Fr SG D0 D2 := hF1'.tr (hF2.mono (fun j k q => by unfold SG; omega))
    have b2 : getGo D2 38 = nd.1.2 := by
      rw [← b1]; unfold getGo; rw [hF2 _ _ (by omega), hF2 _ _ (by omega), hF2 _ _ (by omega)]
    refine yGd (inB_nI (by omega) (by omega)) ?_
    rw [hF2 41 i (by omega), hF1 41 i (by omega), hnm i hin, exm, hadv D2 _ _ _ (nI y) (nI mm) hF2' hgk.1 b2 sy, bV_d]
    generalize hD3 : setGo D2 38 (sB nd.1.2 (nI y, nI mm)) = D3
    have hF3 : Fr (fun j k => j = 38 ∨ j = 39) D2 D3 := by
      rw [← hD3]; exact Fr.refl.go (by omega) (by omega) (by omega)
    have hF3' : Fr SG D0 D3 := hF2'.tr (hF3.mono (fun j k q => by unfold SG; omega))
    have hFD : Fr (fun j k => 36 ≤ j ∧ j ≤ 39) D D3 := hF1.tr ((hF2.mono (fun j k q => by omega)).tr (hF3.mono (fun j k q => by omega)))
    have b3 : getGo D3 38 = sB nd.1.2 (nI y, nI mm) := by rw [← hD3]; exact getGo_set
    have a3 : getGo D3 36 = step T nd.1.1 (nI y, nI mm) := by
      have : getGo D2 36 = step T nd.1.1 (nI y, nI mm) := by rw [← hD2]; exact getGo_set
      rw [← this]; unfold getGo; rw [hF3 _ _ (by omega), hF3 _ _ (by omega), hF3 _ _ (by omega)]
    have hR3 : RC D3 N' := hR.fr (hFD _ _ (by omega)) (fun j k h1 h2 => hFD j k (by omega))
    have hgn := hcl _ _ _ hgk.1 (by omega) y mm hy hmm
    have hmm20 : max (nU nd) (mm + 1) ≤ 20 := by omega
    have hPn := hGP _ _ _ hgn hmm20
    refine yGd (inB_nI (by omega) (by omega)) ?_
    rw [hFD 41 i (by omega), hnm i hin, exm]
    obtain ⟨t1, t2⟩ := try_ok (tA := tk acc) (tB := tB) hcl hZ hok hk (by rw [hnk]; exact hnd) hy (by rw [hnk]; exact hmm)
    rw [hf] at t1 t2
    have ef : f N' (nI y, nI mm) = if (cds N').contains (cod (step T nd.1.1 (nI y, nI mm)) (sB nd.1.2 (nI y, nI mm))) = true then (N', false) else (N' ++ [((step T nd.1.1 (nI y, nI mm), sB nd.1.2 (nI y, nI mm)), k, (nI y, nI mm), nN nd + 1, max (nU nd) (mm + 1))], tk acc (step T nd.1.1 (nI y, nI mm)) != tB (sB nd.1.2 (nI y, nI mm))) := by
      rw [← hf]
      unfold tryN
      rw [hnk]
      show (if _ then _ else (N' ++ [(_, k, _, _, max (nU nd) ((nI mm).toNatClampNeg + 1))], _)) = _
      rw [nI_clamp (by omega)]
    rw [exm] at hone
    have en := enter_ok (D := D3) (N := N') hR3 (fm := some k) (fun k' hk' => by cases hk'; rw [hnk]; exact ⟨hk, by omega, by omega⟩) (fun q => by cases q) (y := nI y) (m := mm) rfl (by omega) a3 b3 hPn (fun hnc => by
      rw [ef, if_neg (by rw [hnc]; decide)] at t1
      have := hroom _ t1
      simp at this
      omega)
    show Y (bI (f_X8_enter (oI (some k)) (nI y) (nI mm) D3) _) Q
    refine yBI en (fun r D4 h4 => ?_)
    dsimp only at h4
    obtain ⟨hF4, h4⟩ := h4
    have hF4' : Fr SG D0 D4 := hF3'.tr (hF4.mono (fun j k q => by unfold SE at q; unfold SG; omega))
    have mk : ∀ N'', okN G N'' → (∀ i, i < N'.length → N''.getD i nd0 = N'.getD i nd0) → N'.length ≤ N''.length → RC D4 N'' → IV G D0 k nd D4 N'' := by
      intro N'' o1 o2 o3 o4
      refine ⟨o1, by omega, by rw [o2 k hk]; exact hnk, o4, hF4', ?_, ?_, ?_, fun q hq => ?_⟩
      · rw [← h32]; unfold getGo; rw [hF4 _ _ (by unfold SE; omega), hF4 _ _ (by unfold SE; omega), hF4 _ _ (by unfold SE; omega), hFD _ _ (by omega), hFD _ _ (by omega), hFD _ _ (by omega)]
      · rw [← h34]; unfold getGo; rw [hF4 _ _ (by unfold SE; omega), hF4 _ _ (by unfold SE; omega), hF4 _ _ (by unfold SE; omega), hFD _ _ (by omega), hFD _ _ (by omega), hFD _ _ (by omega)]
      · rw [hF4 _ _ (by unfold SE; omega), hFD _ _ (by omega)]; exact hn13
      · rw [hF4 _ _ (by unfold SE; omega), hFD _ _ (by omega)]; exact hnm q hq
    unfold f_X8_goOn_h_136
    simp only [lt_d, nI_1]
    rcases h4 with ⟨hc, er, hR4⟩ | ⟨hc, er, hR4⟩
    · rw [er]
      refine yPos rfl (ih (i + 1) m D4 (by omega) ?_ ?_)
      · rw [hone, ef, if_pos hc]; exact mk N' hok (fun _ _ => rfl) (Nat.le_refl _) hR4
      · rw [hone, ef, if_pos hc]
    · rw [er]
      refine yNeg (by decide) ?_
      have hfn : (cds N').contains (cod (step T nd.1.1 (nI y, nI mm)) (sB nd.1.2 (nI y, nI mm))) ≠ true := by rw [hc]; decide
      rw [ef, if_neg hfn] at t1 t2
      have a4 : getGo D4 36 = step T nd.1.1 (nI y, nI mm) := by
        rw [← a3]; unfold getGo; rw [hF4 _ _ (by unfold SE; omega), hF4 _ _ (by unfold SE; omega), hF4 _ _ (by unfold SE; omega)]
      have b4 : getGo D4 38 = sB nd.1.2 (nI y, nI mm) := by
        rw [← b3]; unfold getGo; rw [hF4 _ _ (by unfold SE; omega), hF4 _ _ (by unfold SE; omega), hF4 _ _ (by unfold SE; omega)]
      rw [(hMD hF4').takes, bI_d, htak D4 hF4', bI_d, a4, b4]
      have hI4 : IV G D0 k nd D4 (N' ++ [((step T nd.1.1 (nI y, nI mm), sB nd.1.2 (nI y, nI mm)), k, (nI y, nI mm), nN nd + 1, max (nU nd) (mm + 1))]) := by
        refine mk _ t1 t2 (by simp) ?_
        have : (frN N' (some k)) = (nN nd + 1, nU nd) := by show (nN (N'.getD k nd0) + 1, nU (N'.getD k nd0)) = _; rw [hnk]
        rw [this, if_neg (by simp)] at hR4
        exact hR4
      refine yIte (fun e => ih (i + 1) m D4 (by omega) ?_ ?_) (fun e => yRet (hhit D4 ?_ ?_))
      · rw [hone, ef, if_neg hfn]; exact hI4
      · rw [hone, ef, if_neg hfn]
        show (tk acc _ != tB _) = false
        revert e
        cases tk acc (step T nd.1.1 (nI y, nI mm)) <;> cases tB (sB nd.1.2 (nI y, nI mm)) <;> decide
      · have hh2 : (goL f N (ltrs y ((nmI nd 5).take (i + 1)))).2 = true := by
          rw [hone, ef, if_neg hfn]
          show (tk acc _ != tB _) = true
          revert e
          cases tk acc (step T nd.1.1 (nI y, nI mm)) <;> cases tB (sB nd.1.2 (nI y, nI mm)) <;> decide
        have es : ltrs y (nmI nd 5) = ltrs y ((nmI nd 5).take (i + 1)) ++ ltrs y ((nmI nd 5).drop (i + 1)) := by
          unfold ltrs; rw [← List.map_append, List.take_append_drop]
        rw [es, goL_hit hh2, hone, ef, if_neg hfn]
        exact hI4
      · have hh2 : (goL f N (ltrs y ((nmI nd 5).take (i + 1)))).2 = true := by
          rw [hone, ef, if_neg hfn]
          show (tk acc _ != tB _) = true
          revert e
          cases tk acc (step T nd.1.1 (nI y, nI mm)) <;> cases tB (sB nd.1.2 (nI y, nI mm)) <;> decide
        have es : ltrs y (nmI nd 5) = ltrs y ((nmI nd 5).take (i + 1)) ++ ltrs y ((nmI nd 5).drop (i + 1)) := by
          unfold ltrs; rw [← List.map_append, List.take_append_drop]
        rw [es, goL_hit hh2]
        exact hh2
theorem go23_h (hM : MC D0 T acc) (hadv : ∀ (D : Dm) (a b : Cf) (n : Nat) (y nm : Int32), Fr SG D0 D → G a b n → getGo D 38 = b → isSy y → f_X2_advance 38 y nm D = some (setGo D 38 (sB b (y, nm)))) (htak : ∀ D : Dm, Fr SG D0 D → f_X2_takes 38 D = some (b01 (tB (getGo D 38)), D))
    (hcl : clG G (step T) sB Z) (hZ : Z ≤ 2) (hGP : ∀ a b n, G a b n → n ≤ 20 → okP a b) (hGC : ∀ a b n, G a b n → okSt a.1 ∧ okC a n ∧ okC b n) (hroom : ∀ N, okN G N → N.length ≤ 1351) {nd : Nd} (hnd : nN nd < 20) :
    ∀ (j y m : Nat) (D : Dm), y + j = Z → IV G D0 k nd D (goL (tryN (step T) sB (tk acc) tB k) N (allL nd y)).1 → (goL (tryN (step T) sB (tk acc) tB k) N (allL nd y)).2 = false → Y (f_X8_goOn_h_23 (j + 1 + m) (nI k) (nI Z) (nI y) D) (fun r => r.1 = b01 (goL (tryN (step T) sB (tk acc) tB k) N (allL nd Z)).2 ∧ IV G D0 k nd r.2 (goL (tryN (step T) sB (tk acc) tB k) N (allL nd Z)).1) := by
  intro j
  induction j with
  | zero =>
    intro y m D hy hI hh
    have hy : y = Z := by omega
    rw [show 0 + 1 + m = m + 1 by omega]
    show Y (f_X8_goOn_h_23_b _ _ _ _ _) _
    unfold f_X8_goOn_h_23_b
    rw [hy] at hI hh ⊢
    exact yPos (nI_le (Nat.le_refl _) (by omega)) (yRet ⟨by rw [hh]; rfl, hI⟩)
  | succ j ih =>
    intro y m D hy hI hh
    rw [show j + 1 + 1 + m = (j + 1 + m) + 1 by omega]
    show Y (f_X8_goOn_h_23_b _ _ _ _ _) _
    unfold f_X8_goOn_h_23_b
    refine yNeg (nI_nle2 (by omega) (by omega)) ?_
    obtain ⟨q, hq⟩ := FUs (nmI nd 5).length (by have := nmI_len (n := nd) 5; omega)
    have e : ∀ y, goL (tryN (step T) sB (tk acc) tB k) N (allL nd (y + 1)) = if (goL (tryN (step T) sB (tk acc) tB k) N (allL nd y)).2 = true then goL (tryN (step T) sB (tk acc) tB k) N (allL nd y) else goL (tryN (step T) sB (tk acc) tB k) (goL (tryN (step T) sB (tk acc) tB k) N (allL nd y)).1 (ltrs y (nmI nd 5)) := fun y => goL_app
    have e1 := e y
    rw [if_neg (by rw [hh]; decide)] at e1
    have := go33_h (N := (goL (tryN (step T) sB (tk acc) tB k) N (allL nd y)).1) hM hadv htak hcl hZ hGP hGC hroom hnd (show y < Z by omega) (k23 := f_X8_goOn_h_23 (j + 1 + m)) (Q := fun r => r.1 = b01 (goL (tryN (step T) sB (tk acc) tB k) N (allL nd Z)).2 ∧ IV G D0 k nd r.2 (goL (tryN (step T) sB (tk acc) tB k) N (allL nd Z)).1) (fun D2 h2 hf => ?_) (fun D2 h2 hf => ?_) (nmI nd 5).length 0 q D (by omega) hI rfl
    · rw [nI_0] at this
      rw [hq]
      exact this
    · rw [← e1] at h2 hf
      exact ih (y + 1) m D2 (by omega) h2 hf
    · rw [← e1] at h2 hf
      have st : ∀ z, goL (tryN (step T) sB (tk acc) tB k) N (allL nd (y + 1 + z)) = goL (tryN (step T) sB (tk acc) tB k) N (allL nd (y + 1)) := by
        intro z
        induction z with
        | zero => rfl
        | succ z ihz => rw [← Nat.add_assoc, e, ihz, if_pos hf]
      have st := st (Z - (y + 1))
      rw [show y + 1 + (Z - (y + 1)) = Z by omega] at st
      rw [st]
      exact ⟨by rw [hf]; rfl, h2⟩
theorem goOn_h_ok (hM : MC D0 T acc) (hadv : ∀ (D : Dm) (a b : Cf) (n : Nat) (y nm : Int32), Fr SG D0 D → G a b n → getGo D 38 = b → isSy y → f_X2_advance 38 y nm D = some (setGo D 38 (sB b (y, nm)))) (htak : ∀ D : Dm, Fr SG D0 D → f_X2_takes 38 D = some (b01 (tB (getGo D 38)), D))
    (hcl : clG G (step T) sB Z) (hZ : Z ≤ 2) (hGP : ∀ a b n, G a b n → n ≤ 20 → okP a b) (hGC : ∀ a b n, G a b n → okSt a.1 ∧ okC a n ∧ okC b n) (hroom : ∀ N, okN G N → N.length ≤ 1351) {D : Dm} (hF : Fr SG D0 D) (hok : okN G N) (hR : RC D N) (hk : k < N.length) (hnd : nN (N.getD k nd0) < 20) :
    Y (f_X8_goOn_h (nI k) (nI Z) D) (fun r => r.1 = b01 (goL (tryN (step T) sB (tk acc) tB k) N (allL (N.getD k nd0) Z)).2 ∧ okN G (goL (tryN (step T) sB (tk acc) tB k) N (allL (N.getD k nd0) Z)).1 ∧ RC r.2 (goL (tryN (step T) sB (tk acc) tB k) N (allL (N.getD k nd0) Z)).1 ∧ Fr SG D0 r.2) := by
  have hl := hR.1
  have hgk := hok.2.2.2.1 k hk
  obtain ⟨p27, -, p30, -⟩ := hR.2.2.1 k hk
  generalize hn : N.getD k nd0 = nd at *
  unfold f_X8_goOn_h
  rw [nI_clamp (by omega), p27]
  refine yGd (inB_nI (by omega) (by omega)) (yBV (unpack_ok (hGP _ _ _ hgk.1 (by omega))) (fun D1 h1 => ?_))
  obtain ⟨hF1, a1, b1⟩ := h1
  rw [hF1 30 k (by omega), p30]
  refine yGd (inB_nI (by omega) (by omega)) (yBV (gns_ok (n := nd) a1 b1) (fun D2 h2 => ?_))
  obtain ⟨hF2, hN2⟩ := h2
  obtain ⟨q, hq⟩ := FUs Z (by omega)
  have := go23_h (N := N) (k := k) hM hadv htak hcl hZ hGP hGC hroom hnd Z 0 q D2 (by omega) ⟨hok, hk, hn, ?_, ?_, ?_, ?_, hN2⟩ rfl
  · rw [nI_0] at this
    rw [hq]
    exact yMono this (fun r h => ⟨h.1, h.2.1, h.2.2.2.2.1, h.2.2.2.2.2.1⟩)
  · exact hR.fr (by rw [hF2 _ _ (by omega), hF1 _ _ (by omega)]) (fun j k h1 h2 => by rw [hF2 _ _ (by omega), hF1 _ _ (by omega)])
  · exact hF.tr ((hF1.mono (fun j k q => by unfold SG; omega)).tr (hF2.mono (fun j k q => by unfold SG; omega)))
  · rw [← a1]; unfold getGo; rw [hF2 _ _ (by omega), hF2 _ _ (by omega), hF2 _ _ (by omega)]
  · rw [← b1]; unfold getGo; rw [hF2 _ _ (by omega), hF2 _ _ (by omega), hF2 _ _ (by omega)]
end
