/-! ===== the reference's search: letters, nodes ===== -/
def IR (G : Cf → Cf → Nat → Prop) (D0 : Dm) (k : Nat) (nd : Nd) (D : Dm) (N : List Nd) : Prop := okN G N ∧ k < N.length ∧ N.getD k nd0 = nd ∧ RR D N ∧ Fr SKR D0 D
def newN (sA sB : Cf → Lt → Cf) (nd : Nd) (k : Nat) (y m : Nat) : Nd := ((sA nd.1.1 (nI y, nI m), sB nd.1.2 (nI y, nI m)), k, (nI y, nI m), nN nd + 1, max (nU nd) (m + 1))
def FOL (G : Cf → Cf → Nat → Prop) (D0 : Dm) (T : Tb) (sB : Cf → Lt → Cf) (Z g : Nat) : Prop := ∀ (D : Dm) (N : List Nd) (k y m : Nat), Fr SKR D0 D → okN G N → RR D N → k < N.length → nN (N.getD k nd0) < 20 → y < Z → m ≤ nU (N.getD k nd0) →
  Y (f_X12_follows (nI k) (nI y) (nI m) (nI g) D) (fun r => Fr SKR D r.2 ∧ (((cds N).contains (cod (step T (N.getD k nd0).1.1 (nI y, nI m)) (sB (N.getD k nd0).1.2 (nI y, nI m))) = true ∧ r.1 = 0 ∧ RR r.2 N) ∨ ((cds N).contains (cod (step T (N.getD k nd0).1.1 (nI y, nI m)) (sB (N.getD k nd0).1.2 (nI y, nI m))) = false ∧ r.1 = 1 ∧ RR r.2 (N ++ [newN (step T) sB (N.getD k nd0) k y m]))))
def UNL (G : Cf → Cf → Nat → Prop) (D0 : Dm) (tA tB : Cf → Bool) (g : Nat) : Prop := ∀ (D : Dm) (N : List Nd) (i : Nat), Fr SKR D0 D → okN G N → RR D N → i < N.length → Y (f_X12_isUnlike (nI i) (nI g) D) (fun r => r.1 = b01 (tA (N.getD i nd0).1.1 != tB (N.getD i nd0).1.2) ∧ Fr SKR D r.2 ∧ RR r.2 N)
section
variable {G : Cf → Cf → Nat → Prop} {T : Tb} {acc : Int32} {sB : Cf → Lt → Cf} {tB : Cf → Bool} {Z k g : Nat} {D0 : Dm} {N : List Nd}
theorem sk119 (hfol : FOL G D0 T sB Z g) (hunl : UNL G D0 (tk acc) tB g) (hcl : clG G (step T) sB Z) (hZ : Z ≤ 2) (hGC : ∀ a b n, G a b n → okSt a.1 ∧ okC a n ∧ okC b n) {nd : Nd} (hnd : nN nd < 20) {y : Nat} (hy : y < Z) {k81 : Int32 → Int32 → Dm → Option (Int32 × Dm)} {k106 : Int32 → Int32 → Int32 → Dm → Option (Int32 × Dm)} {Q : Int32 × Dm → Prop}
    (hcont : ∀ D2, IR G D0 k nd D2 (goL (tryN (step T) sB (tk acc) tB k) N (ltrs y (nmI nd 5))).1 → (goL (tryN (step T) sB (tk acc) tB k) N (ltrs y (nmI nd 5))).2 = false → Y (k106 (nI g) (nI k) (nI (y + 1)) D2) Q)
    (hhit : ∀ D2, IR G D0 k nd D2 (goL (tryN (step T) sB (tk acc) tB k) N (ltrs y (nmI nd 5))).1 → (goL (tryN (step T) sB (tk acc) tB k) N (ltrs y (nmI nd 5))).2 = true → Q (nI ((goL (tryN (step T) sB (tk acc) tB k) N (ltrs y (nmI nd 5))).1.length - 1), D2)) :
    ∀ (j i m : Nat) (D : Dm), i + j = 5 → IR G D0 k nd D (goL (tryN (step T) sB (tk acc) tB k) N (ltrs y (nmI nd i))).1 → (goL (tryN (step T) sB (tk acc) tB k) N (ltrs y (nmI nd i))).2 = false → Y (f_X12_seeks_119 k81 k106 (j + 1 + m) (nI g) (nI k) (nI y) (nI i) D) Q := by
  generalize hf : tryN (step T) sB (tk acc) tB k = f at *
  have pre : ∀ j i, i + j = 5 → ∃ R, nmI nd 5 = nmI nd i ++ R := by
    intro j
    induction j with
    | zero => intro i hi; rw [show i = 5 by omega]; exact ⟨[], by simp⟩
    | succ j ih =>
      intro i hi
      obtain ⟨R, hR⟩ := ih (i + 1) (by omega)
      rw [hR]
      show ∃ R', dd (nmI nd i) (nz nd i) ++ R = nmI nd i ++ R'
      unfold dd
      split
      · exact ⟨R, rfl⟩
      · exact ⟨[nz nd i] ++ R, by rw [List.append_assoc]⟩
  intro j
  induction j with
  | zero =>
    intro i m D hi hI hh
    have hi : i = 5 := by omega
    rw [show 0 + 1 + m = m + 1 by omega]
    show Y (f_X12_seeks_119_b _ _ _ _ _ _ _ _) _
    unfold f_X12_seeks_119_b
    rw [hi] at hI hh ⊢
    rw [lt_d, nI_1]
    exact yPos (by decide) (hcont D hI hh)
  | succ j ih =>
    intro i m D hi hI hh
    obtain ⟨hok, hk, hnk, hR, hF⟩ := id hI
    generalize hN' : (goL f N (ltrs y (nmI nd i))).1 = N' at *
    have hl := hR.1
    have hgk := hok.2.2.2.1 k hk
    rw [hnk] at hgk
    obtain ⟨ek, -, k314, -⟩ := hR.2.2.1 k hk
    rw [hnk] at ek k314
    rw [show j + 1 + 1 + m = (j + 1 + m) + 1 by omega]
    show Y (f_X12_seeks_119_b _ _ _ _ _ _ _ _) _
    unfold f_X12_seeks_119_b
    refine yNeg (show ¬ nI 5 ≤ nI i from nI_nle2 (by omega) (by omega)) ?_
    -- one name
    have one : Y (f_X12_seeks_167 k81 k106 (f_X12_seeks_119 k81 k106 (j + 1 + m)) (nI g) (nI k) (nI y) (nI i) (nz nd i) D) Q := by
      unfold f_X12_seeks_167 f_X12_seeks_224
      simp only [lt_d, nI_1]
      refine yIte (fun e => ?_) (fun e => ?_)
      · have ed : nmI nd (i + 1) = nmI nd i := by
          show dd (nmI nd i) (nz nd i) = _
          unfold dd; rw [if_pos (Or.inl e)]
        refine ih (i + 1) m D (by omega) ?_ ?_
        · rw [ed, hN']; exact hI
        · rw [ed]; exact hh
      · rw [isHad_ok hR hk (by omega) e, bI_d, hnk, b01_if]
        by_cases hm : nz nd i ∈ nmI nd i
        · rw [if_pos (decide_eq_true hm)]
          have ed : nmI nd (i + 1) = nmI nd i := by
            show dd (nmI nd i) (nz nd i) = _
            unfold dd; rw [if_pos (Or.inr hm)]
          refine ih (i + 1) m D (by omega) ?_ ?_
          · rw [ed, hN']; exact hI
          · rw [ed]; exact hh
        · rw [if_neg (by rw [decide_eq_true_eq]; exact hm)]
          have ed : nmI nd (i + 1) = nmI nd i ++ [nz nd i] := by
            show dd (nmI nd i) (nz nd i) = _
            unfold dd; rw [if_neg (fun q => q.elim e hm)]
          obtain ⟨mm, hmm, exm⟩ : ∃ m, m ≤ nU nd ∧ nz nd i = nI m := by
            refine nm_in (n := nd) ⟨(hGC _ _ _ hgk.1).2.1, (hGC _ _ _ hgk.1).2.2⟩ (i + 1) (by omega) _ ?_
            rw [ed]; simp
          have hone : goL f N (ltrs y (nmI nd (i + 1))) = f N' (nI y, nI mm) := by
            rw [ed, show ltrs y (nmI nd i ++ [nz nd i]) = ltrs y (nmI nd i) ++ [(nI y, nz nd i)] by unfold ltrs; rw [List.map_append]; rfl, goL_one hh, hN', exm]
          have ef : f N' (nI y, nI mm) = if (cds N').contains (cod (step T nd.1.1 (nI y, nI mm)) (sB nd.1.2 (nI y, nI mm))) = true then (N', false) else (N' ++ [newN (step T) sB nd k y mm], tk acc (step T nd.1.1 (nI y, nI mm)) != tB (sB nd.1.2 (nI y, nI mm))) := by
            rw [← hf]
            unfold tryN newN
            rw [hnk]
            show (if _ then _ else (N' ++ [(_, k, _, _, max (nU nd) ((nI mm).toNatClampNeg + 1))], _)) = _
            rw [nI_clamp (by omega)]
          obtain ⟨t1, t2⟩ := try_ok (tA := tk acc) (tB := tB) hcl hZ hok hk (by rw [hnk]; exact hnd) hy (by rw [hnk]; exact hmm)
          rw [hf] at t1 t2
          rw [exm]
          have hfl := hfol D N' k y mm hF hok hR hk (by rw [hnk]; exact hnd) hy (by rw [hnk]; exact hmm)
          rw [hnk] at hfl
          refine yBI hfl (fun r D1 h1 => ?_)
          dsimp only at h1
          obtain ⟨hF1, h1⟩ := h1
          have hF1' := hF.tr hF1
          rcases h1 with ⟨hc, er, hR1⟩ | ⟨hc, er, hR1⟩
          · rw [er]
            refine yPos rfl (ih (i + 1) m D1 (by omega) ?_ ?_)
            · rw [hone, ef, if_pos hc]; exact ⟨hok, hk, hnk, hR1, hF1'⟩
            · rw [hone, ef, if_pos hc]
          · rw [er]
            refine yNeg (by decide) ?_
            have hfn : (cds N').contains (cod (step T nd.1.1 (nI y, nI mm)) (sB nd.1.2 (nI y, nI mm))) ≠ true := by rw [hc]; decide
            rw [ef, if_neg hfn] at t1 t2
            have hl1 := hR1.1
            have elen : (N' ++ [newN (step T) sB nd k y mm]).length = N'.length + 1 := by simp
            have elast : (N' ++ [newN (step T) sB nd k y mm]).getD N'.length nd0 = newN (step T) sB nd k y mm := by rw [getD_app, if_neg (by omega), if_pos rfl]
            rw [hR1.2.1, elen, show nI (N'.length + 1) - 1 = nI N'.length from nI_m1 _]
            refine yBI (hunl D1 (N' ++ [newN (step T) sB nd k y mm]) N'.length hF1' t1 hR1 (by omega)) (fun r2 D2 h2 => ?_)
            dsimp only at h2
            obtain ⟨er2, hF2, hR2⟩ := h2
            rw [elast] at er2
            have er2 : r2 = b01 (tk acc (step T nd.1.1 (nI y, nI mm)) != tB (sB nd.1.2 (nI y, nI mm))) := er2
            have hI2 : IR G D0 k nd D2 (N' ++ [newN (step T) sB nd k y mm]) := ⟨t1, by omega, by rw [t2 k hk]; exact hnk, hR2, hF1'.tr hF2⟩
            rw [er2]
            cases hh2 : (tk acc (step T nd.1.1 (nI y, nI mm)) != tB (sB nd.1.2 (nI y, nI mm))) with
            | false =>
              refine yPos rfl (ih (i + 1) m D2 (by omega) ?_ ?_)
              · rw [hone, ef, if_neg hfn]; exact hI2
              · rw [hone, ef, if_neg hfn]; exact hh2
            | true =>
              refine yNeg (by decide) ?_
              rw [hR2.2.1, elen, show nI (N'.length + 1) - 1 = nI N'.length from nI_m1 _]
              obtain ⟨R, hRR⟩ := pre j (i + 1) (by omega)
              have es : ltrs y (nmI nd 5) = ltrs y (nmI nd (i + 1)) ++ ltrs y R := by
                unfold ltrs; rw [← List.map_append, ← hRR]
              have hht : (goL f N (ltrs y (nmI nd (i + 1)))).2 = true := by rw [hone, ef, if_neg hfn]; exact hh2
              have eg : goL f N (ltrs y (nmI nd 5)) = (N' ++ [newN (step T) sB nd k y mm], tk acc (step T nd.1.1 (nI y, nI mm)) != tB (sB nd.1.2 (nI y, nI mm))) := by
                rw [es, goL_hit hht, hone, ef, if_neg hfn]
              have hq := hhit D2
              rw [eg] at hq
              have hq := hq hI2 hh2
              rw [elen] at hq
              exact yRet hq
    have e6 : (6 : Int32) * nI k = nI (6 * k) := by rw [show (6 : Int32) = nI 6 from rfl, nI_mul]
    have ez : ∀ o, o < 4 → D 315 (6 * k + off4 o) = nz nd o := by
      intro o ho
      unfold nz
      rw [if_pos ho, ← ek]
      have : o = 0 ∨ o = 1 ∨ o = 2 ∨ o = 3 := by omega
      rcases this with rfl | rfl | rfl | rfl <;> rfl
    by_cases h4 : i = 4
    · subst h4
      refine yPos (by decide) (yGd (inB_nI (by omega) (by omega)) ?_)
      rw [nI_clamp (by omega), k314]
      exact one
    · refine yNeg (show ¬ nI 4 ≤ nI i from nI_nle2 (by omega) (by omega)) ?_
      unfold f_X12_seeks_156
      have two : ∀ z : Nat, z = off4 i → Y (gd (inB (nI (6 * k) + nI z) 21000) (f_X12_seeks_167 k81 k106 (f_X12_seeks_119 k81 k106 (j + 1 + m)) (nI g) (nI k) (nI y) (nI i) (D 315 (Int32.toNatClampNeg (nI (6 * k) + nI z))) D)) Q := by
        intro z hz
        have hz5 : z ≤ 5 := by rw [hz]; unfold off4; split <;> omega
        rw [nI_add, nI_clamp (by omega)]
        refine yGd (inB_nI (by omega) (by omega)) ?_
        rw [hz, ez i (by omega)]
        exact one
      rw [e6]
      refine yIte (fun h => ?_) (fun h => ?_)
      · rw [show (2 : Int32) = nI 2 from rfl, nI_leI (by omega) (by omega)] at h
        rw [show (2 : Int32) + nI i = nI (2 + i) from nI_add 2 i]
        exact two _ (by unfold off4; rw [if_neg (by omega)])
      · rw [show (2 : Int32) = nI 2 from rfl, nI_leI (by omega) (by omega)] at h
        rw [show (1 : Int32) + nI i = nI (1 + i) from nI_add 1 i]
        exact two _ (by unfold off4; rw [if_pos (by omega)])
theorem sk106 (hfol : FOL G D0 T sB Z g) (hunl : UNL G D0 (tk acc) tB g) (hsym : ∀ D, Fr SKR D0 D → f_X12_symbolsOf (nI g) D = some (nI Z, D)) (hcl : clG G (step T) sB Z) (hZ : Z ≤ 2) (hGC : ∀ a b n, G a b n → okSt a.1 ∧ okC a n ∧ okC b n) {nd : Nd} (hnd : nN nd < 20) {k81 : Int32 → Int32 → Dm → Option (Int32 × Dm)} {Q : Int32 × Dm → Prop}
    (hcont : ∀ D2, IR G D0 k nd D2 (goL (tryN (step T) sB (tk acc) tB k) N (allL nd Z)).1 → (goL (tryN (step T) sB (tk acc) tB k) N (allL nd Z)).2 = false → Y (k81 (nI g) (nI (k + 1)) D2) Q)
    (hhit : ∀ D2, IR G D0 k nd D2 (goL (tryN (step T) sB (tk acc) tB k) N (allL nd Z)).1 → (goL (tryN (step T) sB (tk acc) tB k) N (allL nd Z)).2 = true → Q (nI ((goL (tryN (step T) sB (tk acc) tB k) N (allL nd Z)).1.length - 1), D2)) :
    ∀ (j y m : Nat) (D : Dm), y + j = Z → IR G D0 k nd D (goL (tryN (step T) sB (tk acc) tB k) N (allL nd y)).1 → (goL (tryN (step T) sB (tk acc) tB k) N (allL nd y)).2 = false → Y (f_X12_seeks_106 k81 (j + 1 + m) (nI g) (nI k) (nI y) D) Q := by
  intro j
  induction j with
  | zero =>
    intro y m D hy hI hh
    have hy : y = Z := by omega
    rw [show 0 + 1 + m = m + 1 by omega]
    show Y (f_X12_seeks_106_b _ _ _ _ _ _) _
    unfold f_X12_seeks_106_b f_X12_seeks_236
    rw [hy] at hI hh ⊢
    rw [hsym D hI.2.2.2.2, bI_d, lt_d, nI_1]
    exact yPos (nI_le (Nat.le_refl _) (by omega)) (hcont D hI hh)
  | succ j ih =>
    intro y m D hy hI hh
    rw [show j + 1 + 1 + m = (j + 1 + m) + 1 by omega]
    show Y (f_X12_seeks_106_b _ _ _ _ _ _) _
    unfold f_X12_seeks_106_b
    rw [hsym D hI.2.2.2.2, bI_d]
    refine yNeg (nI_nle2 (by omega) (by omega)) ?_
    obtain ⟨q, hq⟩ := FUs 5 (by omega)
    have e : ∀ y, goL (tryN (step T) sB (tk acc) tB k) N (allL nd (y + 1)) = if (goL (tryN (step T) sB (tk acc) tB k) N (allL nd y)).2 = true then goL (tryN (step T) sB (tk acc) tB k) N (allL nd y) else goL (tryN (step T) sB (tk acc) tB k) (goL (tryN (step T) sB (tk acc) tB k) N (allL nd y)).1 (ltrs y (nmI nd 5)) := fun y => goL_app
    have e1 := e y
    rw [if_neg (by rw [hh]; decide)] at e1
    have := sk119 (N := (goL (tryN (step T) sB (tk acc) tB k) N (allL nd y)).1) hfol hunl hcl hZ hGC hnd (show y < Z by omega) (k81 := k81) (k106 := f_X12_seeks_106 k81 (j + 1 + m)) (Q := Q) (fun D2 h2 hf => ?_) (fun D2 h2 hf => ?_) 5 0 q D (by omega) hI rfl
    · rw [nI_0] at this
      rw [hq]
      exact this
    · rw [← e1] at h2 hf
      exact ih (y + 1) m D2 (by omega) h2 hf
    · rw [← e1] at h2 hf ⊢
      have st : ∀ z, goL (tryN (step T) sB (tk acc) tB k) N (allL nd (y + 1 + z)) = goL (tryN (step T) sB (tk acc) tB k) N (allL nd (y + 1)) := by
        intro z
        induction z with
        | zero => rfl
        | succ z ihz => rw [← Nat.add_assoc, e, ihz, if_pos hf]
      have st := st (Z - (y + 1))
      rw [show y + 1 + (Z - (y + 1)) = Z by omega] at st
      have hq := hhit D2
      rw [st] at hq
      exact hq h2 hf
end
/-- what the reference's search leaves -/
def snd (D D' : Dm) (R : List Nd × Bool) (r : Int32) : Prop := r = (if R.2 = true then nI (R.1.length - 1) else -1) ∧ RR D' R.1 ∧ Fr SKR D D'
section
variable {G : Cf → Cf → Nat → Prop} {T : Tb} {acc : Int32} {sB : Cf → Lt → Cf} {tB : Cf → Bool} {Z g : Nat} {D0 : Dm}
theorem sk81 (hfol : FOL G D0 T sB Z g) (hunl : UNL G D0 (tk acc) tB g) (hsym : ∀ D, Fr SKR D0 D → f_X12_symbolsOf (nI g) D = some (nI Z, D)) (hcl : clG G (step T) sB Z) (hZ : Z ≤ 2) (hGC : ∀ a b n, G a b n → okSt a.1 ∧ okC a n ∧ okC b n) :
    ∀ (f k m : Nat) (D : Dm) (N : List Nd), f + k = 1352 → okN G N → RR D N → Fr SKR D0 D → Y (f_X12_seeks_81 (f + 1 + m) (nI g) (nI k) D) (fun r => snd D0 r.2 (bfs (step T) sB (tk acc) tB Z f k N) r.1 ∧ okN G (bfs (step T) sB (tk acc) tB Z f k N).1) := by
  intro f
  induction f with
  | zero =>
    intro k m D N hf hN hR hF
    rw [show 0 + 1 + m = m + 1 by omega]
    show Y (f_X12_seeks_81_b _ _ _ _) _
    unfold f_X12_seeks_81_b
    rw [hR.2.1]
    have := hR.1
    exact yPos (nI_le (by omega) (by omega)) (yRet ⟨⟨rfl, hR, hF⟩, hN⟩)
  | succ f ih =>
    intro k m D N hf hN hR hF
    have hlen := hR.1
    rw [show f + 1 + 1 + m = (f + 1 + m) + 1 by omega]
    show Y (f_X12_seeks_81_b _ _ _ _) _
    unfold f_X12_seeks_81_b f_X12_seeks_236 bfs
    rw [hR.2.1]
    refine yIte (fun h => ?_) (fun h => ?_)
    · rw [nI_leI (by omega) (by omega)] at h
      rw [if_neg (by omega)]
      exact yRet ⟨⟨rfl, hR, hF⟩, hN⟩
    · rw [nI_leI (by omega) (by omega)] at h
      have hk : k < N.length := by omega
      rw [if_pos hk]
      obtain ⟨-, p31, -⟩ := hR.2.2.1 k hk
      have hn20 := (hN.2.2.2.1 k hk).2.2
      refine yGd (inB_nI (by omega) (by omega)) ?_
      rw [nI_clamp (by omega), p31]
      simp only [lt_d, nI_1]
      refine yIte (fun h2 => ?_) (fun h2 => ?_)
      · have h2 : nN (N.getD k nd0) = 20 := nI_inj (b := 20) (by omega) (by omega) h2
        rw [if_neg (by omega)]
        exact ih (k + 1) m D N (by omega) hN hR hF
      · have h2 : nN (N.getD k nd0) ≠ 20 := fun q => h2 (by rw [q]; rfl)
        rw [if_pos (by omega)]
        obtain ⟨q, hq⟩ := FUs Z (by omega)
        have := sk106 (k := k) (N := N) hfol hunl hsym hcl hZ hGC (nd := N.getD k nd0) (by omega) (k81 := f_X12_seeks_81 (f + 1 + m)) (Q := fun r => snd D0 r.2 (if (goL (tryN (step T) sB (tk acc) tB k) N (allL (N.getD k nd0) Z)).2 = true then goL (tryN (step T) sB (tk acc) tB k) N (allL (N.getD k nd0) Z) else bfs (step T) sB (tk acc) tB Z f (k + 1) (goL (tryN (step T) sB (tk acc) tB k) N (allL (N.getD k nd0) Z)).1) r.1 ∧ okN G (if (goL (tryN (step T) sB (tk acc) tB k) N (allL (N.getD k nd0) Z)).2 = true then goL (tryN (step T) sB (tk acc) tB k) N (allL (N.getD k nd0) Z) else bfs (step T) sB (tk acc) tB Z f (k + 1) (goL (tryN (step T) sB (tk acc) tB k) N (allL (N.getD k nd0) Z)).1).1) (fun D2 h2 hf2 => ?_) (fun D2 h2 hf2 => ?_) Z 0 q D (by omega) ⟨hN, hk, rfl, hR, hF⟩ rfl
        · rw [nI_0] at this
          rw [hq]
          exact this
        · rw [if_neg (by rw [hf2]; decide)]
          exact ih (k + 1) m D2 _ (by omega) h2.1 h2.2.2.2.1 h2.2.2.2.2
        · rw [if_pos hf2]
          exact ⟨⟨by rw [if_pos hf2], h2.2.2.2.1, h2.2.2.2.2⟩, h2.1⟩
theorem seeks_ok (hfol : FOL G D0 T sB Z g) (hunl : UNL G D0 (tk acc) tB g) (hsym : ∀ D, Fr SKR D0 D → f_X12_symbolsOf (nI g) D = some (nI Z, D)) (hcl : clG G (step T) sB Z) (hZ : Z ≤ 2) (hGC : ∀ a b n, G a b n → okSt a.1 ∧ okC a n ∧ okC b n) (hg : g = 0 ∨ g = 1) (hG0 : okN G [nd0]) :
    Y (f_X12_seeks (nI g) D0) (fun r => snd D0 r.2 (srch (step T) sB (tk acc) tB Z) r.1 ∧ okN G (srch (step T) sB (tk acc) tB Z).1) := by
  have loop : ∀ (j i m : Nat) (D : Dm), i + j = 41250 → Fr SKR D0 D → (∀ c, c < i → D 317 c = 0) → Y (f_X12_seeks_2 (j + 1 + m) (nI g) (nI i) D) (fun r => snd D0 r.2 (srch (step T) sB (tk acc) tB Z) r.1 ∧ okN G (srch (step T) sB (tk acc) tB Z).1) := by
    intro j
    induction j with
    | zero =>
      intro i m D hi hF hz
      have hi : i = 41250 := by omega
      rw [hi] at hz ⊢
      rw [show 0 + 1 + m = m + 1 by omega]
      show Y (f_X12_seeks_2_b _ _ _ _) _
      unfold f_X12_seeks_2_b
      refine yPos (by decide) (yLt (fun D1 hD1 => ?_))
      rw [r_starts, bV_d]
      unfold f_X12_keepsPair f_X12_guesses
      simp only [lt_d, bV_d]
      generalize hD2 : setR D1 (0, -1, -1) = D2
      generalize hD3 : ud (ud (ud D2 281 78 (D2 281 3)) 281 79 (ud D2 281 78 (D2 281 3) 281 4)) 281 80 (ud (ud D2 281 78 (D2 281 3)) 281 79 (ud D2 281 78 (D2 281 3) 281 4) 281 5) = D3
      generalize hD4 : ud (ud (ud D3 281 66 0) 281 67 (-1)) 281 68 (-1) = D4
      have g2 : D2 281 3 = 0 ∧ D2 281 4 = -1 ∧ D2 281 5 = -1 := by rw [← hD2]; simp [setR_at]
      have hF4 : Fr (fun j k => j = 281 ∧ (k = 3 ∨ k = 4 ∨ k = 5 ∨ (66 ≤ k ∧ k ≤ 68) ∨ (77 ≤ k ∧ k ≤ 80))) D D4 := by
        rw [← hD4, ← hD3, ← hD2, hD1]
        exact (((((((Fr.refl.ud (by omega)).r (by omega) (by omega) (by omega)).ud (by omega)).ud (by omega)).ud (by omega)).ud (by omega)).ud (by omega)).ud (by omega)
      have a4 : getR D4 = c0 := by
        unfold getR
        rw [← hD4, ← hD3]
        simp [ud_at, g2]
      have b4 : gB g D4 = c0 := by
        unfold gB gPair gGue
        rw [← hD4, ← hD3]
        rcases hg with rfl | rfl <;> simp [ud_at, g2]
      have r4 : RR D4 [] := by
        refine ⟨by simp, ?_, fun i hi => absurd hi (Nat.not_lt_zero i), fun c hc => ?_⟩
        · rw [← hD4, ← hD3, ← hD2, hD1]
          simp [ud_at, setR_at, nI_0]
        · rw [hF4 _ _ (by omega), hz c hc]; rfl
      have P0 : okP c0 c0 := ⟨Or.inr ⟨0, by omega, rfl⟩, Or.inr ⟨0, by omega, rfl⟩, ⟨Or.inl rfl, Or.inl rfl⟩, ⟨Or.inl rfl, Or.inl rfl⟩⟩
      refine yBI (comes_ok r4 hg a4 b4 P0) (fun r D5 h5 => ?_)
      dsimp only at h5
      obtain ⟨hF5, h5⟩ := h5
      rcases h5 with ⟨hc, -⟩ | ⟨-, -, v77, vc, vm⟩
      · simp [cds] at hc
      · generalize hD6' : ud (ud (ud D5 310 0 (-1)) 313 0 0) 314 0 0 = D6
        have hD6 := hD6'.symm
        have hF6 : Fr (fun j k => (j = 310 ∨ j = 313 ∨ j = 314) ∧ k = 0) D5 D6 := by
          rw [hD6]; exact ((Fr.refl.ud (by omega)).ud (by omega)).ud (by omega)
        have R6 : RR D6 [nd0] := by
          refine ⟨by simp, ?_, fun i hi => ?_, fun c hc => ?_⟩
          · rw [hF6 _ _ (by omega)]; exact v77
          · have : i = 0 := by simp at hi; omega
            subst this
            refine ⟨?_, ?_, ?_, fun q => absurd q (Nat.lt_irrefl 0)⟩
            · rw [cpl_congr (D' := D6) (D := D5) (fun q hq => hF6 _ _ (by omega))]; exact vc
            · rw [hD6]; simp [ud_at]; rfl
            · rw [hD6]; simp [ud_at]; rfl
          · rw [hF6 _ _ (by omega), vm c hc]
            simp [cds, nd0]
        have hF6' : Fr SKR D0 D6 := hF.tr ((hF4.mono (fun j k q => by unfold SKR; omega)).tr ((hF5.mono (fun j k q => by unfold SCm at q; unfold SKR; omega)).tr (hF6.mono (fun j k q => by unfold SKR; omega))))
        have hu := hunl D6 [nd0] 0 hF6' hG0 R6 (by simp)
        rw [nI_0] at hu
        refine yBI hu (fun r2 D7 h7 => ?_)
        dsimp only at h7
        obtain ⟨er, hF7, hR7⟩ := h7
        have er : r2 = b01 (tk acc c0 != tB c0) := er
        rw [er]
        unfold srch
        cases hh : (tk acc c0 != tB c0) with
        | false =>
          refine yPos rfl ?_
          rw [if_neg (show ¬ (false = true) by decide)]
          obtain ⟨q, hq⟩ := FUs 1352 (by omega)
          have := sk81 hfol hunl hsym hcl hZ hGC 1352 0 q D7 [nd0] (by omega) hG0 hR7 (hF6'.tr hF7)
          rw [nI_0] at this
          rw [hq]
          exact this
        | true =>
          refine yNeg (by decide) ?_
          rw [if_pos (rfl : true = true)]
          exact yRet ⟨⟨rfl, hR7, hF6'.tr hF7⟩, hG0⟩
    | succ j ih =>
      intro i m D hi hF hz
      rw [show j + 1 + 1 + m = (j + 1 + m) + 1 by omega]
      show Y (f_X12_seeks_2_b _ _ _ _) _
      unfold f_X12_seeks_2_b
      refine yNeg (show ¬ nI 41250 ≤ nI i from nI_nle2 (by omega) (by omega)) (yGd (inB_nI (by omega) (by omega)) ?_)
      rw [lt_d, lt_d, nI_1, nI_clamp (by omega)]
      refine ih (i + 1) m _ (by omega) (hF.ud (by unfold SKR; omega)) (fun c hc => ?_)
      rw [ud_at]
      by_cases e : c = i
      · rw [if_pos ⟨rfl, e⟩]
      · rw [if_neg (by omega)]; exact hz c (by omega)
  unfold f_X12_seeks
  obtain ⟨q, hq⟩ := FUs 41250 (by omega)
  have := loop 41250 0 q D0 (by omega) Fr.refl (fun c hc => absurd hc (Nat.not_lt_zero c))
  rw [nI_0] at this
  rw [hq]
  exact this
end
