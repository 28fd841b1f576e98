/-! ===== step and learn ===== -/
section
variable {D D' E E' H : Dm} {T : Tb} {acc AH : Int32} {ts ss : Tst} {b a Z : Nat}
theorem CIv.fr (h : CIv D T acc ts b ss a Z) (hF : ∀ j k, ((9 ≤ j ∧ j ≤ 12) ∨ (43 ≤ j ∧ j ≤ 261)) → D' j k = D j k) : CIv D' T acc ts b ss a Z := by
  obtain ⟨h1, h2, h3, h4, h5⟩ := h
  have ha := h1.2.2.1
  refine ⟨h1.fr (fun j k q => hF j k (by omega)), ?_, h3.fr ha.2 (fun j k q1 q2 q3 => hF j k (by omega)), h4.fr h1.2.1.1 (fun j k q1 q2 => hF j k (by omega)), by rw [hF _ _ (by omega)]; exact h5⟩
  rcases h2 with q | ⟨q1, q2⟩
  · exact Or.inl (by rw [hF _ _ (by omega)]; exact q)
  · exact Or.inr ⟨by rw [hF _ _ (by omega)]; exact q1, q2.fr ha.2 (fun j k q1 q2 q3 => hF j k (by omega))⟩
theorem DEC.fr (h : DEC D T acc ts b ss a Z H AH) (ha : a ≤ 10) (hF : ∀ j k, ((9 ≤ j ∧ j ≤ 12) ∨ (43 ≤ j ∧ j ≤ 261)) → D' j k = D j k) : DEC D' T acc ts b ss a Z H AH := by
  obtain ⟨h1, h2, h3, h4, h5⟩ := h
  exact ⟨by rw [hF _ _ (by omega)]; exact h1, by rw [hF _ _ (by omega)]; exact h2, h3.fr ha (fun j k q1 q2 q3 => hF j k (by omega)), h4.fr (fun j k q => hF j k (by omega)), h5.fr (fun j k q => hF j k (by omega))⟩
theorem JNT.c (h : JNT D E T acc ts b ss a Z) (hF : ∀ j k, ((9 ≤ j ∧ j ≤ 12) ∨ (43 ≤ j ∧ j ≤ 261)) → D' j k = D j k) : JNT D' E T acc ts b ss a Z := by
  obtain ⟨hp, hC, hR, hc⟩ := h
  refine ⟨hp, hC.fr hF, hR, ?_⟩
  rcases hc with ⟨q1, q2⟩ | ⟨H, AH, q1, q2⟩
  · exact Or.inl ⟨by rw [hF _ _ (by omega)]; exact q1, q2⟩
  · exact Or.inr ⟨H, AH, q1.fr hC.1.2.2.1.2 hF, q2⟩
theorem JNT.r (h : JNT D E T acc ts b ss a Z) (hF : ∀ j k, 281 ≤ j → ¬ SXG j k → E' j k = E j k) : JNT D E' T acc ts b ss a Z := by
  obtain ⟨hp, hC, hR, hc⟩ := h
  refine ⟨hp, hC, ⟨hR.1.fr (fun j k q => hF j k (by omega) (by unfold SXG; omega)), by rw [hF _ _ (by omega) (by unfold SXG; omega)]; exact hR.2⟩, ?_⟩
  rcases hc with ⟨q1, q2⟩ | ⟨H, AH, q1, q2⟩
  · exact Or.inl ⟨q1, by rw [hF _ _ (by omega) (by unfold SXG; omega)]; exact q2⟩
  · refine Or.inr ⟨H, AH, q1, ?_⟩
    rcases q2 with q2 | q2
    · exact Or.inl (by rw [hF _ _ (by omega) (by unfold SXG; omega)]; exact q2)
    · exact Or.inr (q2.fr hF)
/-- both are run one after the other over one memory -/
theorem two {f g : Dm → Option (Int32 × Dm)} {Q : Dm → Dm → Prop} (key : ∀ E, JNT D E T acc ts b ss a Z → Q D E → ∃ r D' E' ts' b' ss' a', f D = some (r, D') ∧ g E = some (r, E') ∧ Fr SCS D D' ∧ Fr SRS E E' ∧ JNT D' E' T acc ts' b' ss' a' Z) (hJ : JNT D D T acc ts b ss a Z) (hQ : Q D D) (hQr : ∀ E, (∀ j k, 281 ≤ j → ¬ (j = 281 ∧ k = 0) → E j k = D j k) → Q D E) :
    ∃ r D1 D2, f D = some (r, D1) ∧ g (ud D1 281 0 0) = some (r, D2) ∧ Fr SCS D D1 ∧ Fr SRS (ud D1 281 0 0) D2 ∧ ∃ ts' b' ss' a', JNT D2 D2 T acc ts' b' ss' a' Z := by
  obtain ⟨r, D1, -, -, -, -, -, e1, -, F1, -, -⟩ := key D hJ hQ
  have hE : ∀ j k, 281 ≤ j → ¬ (j = 281 ∧ k = 0) → (ud D1 281 0 0) j k = D j k := fun j k q1 q2 => by
    rw [ud_at, if_neg q2, F1 j k (by unfold SCS; omega)]
  obtain ⟨r2, D1', D2, ts', b', ss', a', e2, e3, -, F3, J3⟩ := key (ud D1 281 0 0) (hJ.r (fun j k q1 q2 => hE j k q1 (by unfold SXG at q2; omega))) (hQr _ hE)
  rw [e1] at e2
  cases e2
  refine ⟨r, D1, D2, e1, e3, F1, F3, ts', b', ss', a', J3.c (fun j k q => ?_)⟩
  rw [F3 j k (by unfold SRS; omega), ud_at, if_neg (by omega)]
theorem step_eq (hJ : JNT D D T acc ts b ss a Z) : ∃ r D1 D2, f_X11_step D = some (r, D1) ∧ f_X12_step D1 = some (r, D2) ∧ Fr SCS D D1 ∧ Fr SRS (ud D1 281 0 0) D2 ∧ ∃ ts' b' ss' a', JNT D2 D2 T acc ts' b' ss' a' Z := by
  obtain ⟨r, D1, D2, e1, e2, F⟩ := two (f := f_X11_step) (g := f_X12_steps) (Q := fun _ _ => True) (fun E hE _ => by
    obtain ⟨D1, e1, F1, r, D', E', ts', b', ss', a', h1, h2, h3, h4, h5, -⟩ := step_j hE
    refine ⟨r, D', E', ts', b', ss', a', ?_, h2, F1.tr h3, h4, h5⟩
    unfold f_X11_step
    rw [e1, bV_d, h1, bI_d]) hJ trivial (fun _ _ => trivial)
  refine ⟨r, D1, D2, e1, ?_, F⟩
  unfold f_X12_step
  rw [lt_d, e2, bI_d]
theorem learn_loop : ∀ (j c z z' : Nat) (D E : Dm) (ts : Tst) (b : Nat) (ss : Tst) (a : Nat), c + j = 40 → JNT D E T acc ts b ss a Z → ∃ r D' E' ts' b' ss' a', f_X11_learn_4 (j + 1 + z) (nI c) (nI c) D = some (r, D') ∧ f_X12_learn_7 (j + 1 + z') (nI c) E = some (r, E') ∧ Fr SCS D D' ∧ Fr SRS E E' ∧ JNT D' E' T acc ts' b' ss' a' Z := by
  intro j
  induction j with
  | zero =>
    intro c z z' D E ts b ss a hc hJ
    have hc : c = 40 := by omega
    subst hc
    refine ⟨nI 40, D, E, ts, b, ss, a, ?_, ?_, Fr.refl, Fr.refl, hJ⟩
    · rw [show 0 + 1 + z = z + 1 by omega]
      show f_X11_learn_4_b _ _ _ _ = _
      unfold f_X11_learn_4_b
      rw [if_pos (show (40 : Int32) ≤ nI 40 by decide)]
    · rw [show 0 + 1 + z' = z' + 1 by omega]
      show f_X12_learn_7_b _ _ _ = _
      unfold f_X12_learn_7_b
      rw [if_pos (show (40 : Int32) ≤ nI 40 by decide)]
      rfl
  | succ j ih =>
    intro c z z' D E ts b ss a hc hJ
    obtain ⟨D1, e1, F1, r, D', E', ts', b', ss', a', h1, h2, h3, h4, h5, hr⟩ := step_j hJ
    have n40 : ¬ (40 : Int32) ≤ nI c := nI_nle2 (a := c) (b := 40) (by omega) (by omega)
    have ec : f_X11_learn_4 (j + 1 + 1 + z) (nI c) (nI c) D = if 0 < r then f_X11_learn_4 (j + 1 + z) (nI (c + 1)) (nI (c + 1)) D' else (if r = 0 then (some (nI c, D')) else (some (r, D'))) := by
      rw [show j + 1 + 1 + z = (j + 1 + z) + 1 by omega]
      show f_X11_learn_4_b _ _ _ _ = _
      unfold f_X11_learn_4_b
      rw [if_neg n40, e1, bV_d, h1, bI_d, lt_d, lt_d, nI_1]
    have er : f_X12_learn_7 (j + 1 + 1 + z') (nI c) E = if 0 < r then f_X12_learn_7 (j + 1 + z') (nI (c + 1)) E' else (if 0 ≤ r then (some (nI c, E')) else (some (r, E'))) := by
      rw [show j + 1 + 1 + z' = (j + 1 + z') + 1 by omega]
      show f_X12_learn_7_b _ _ _ = _
      unfold f_X12_learn_7_b
      rw [if_neg n40, h2, bI_d, lt_d, nI_1]
    rw [ec, er]
    have pos : (0 : Int32) < r → ∃ r2 D2 E2 ts' b' ss' a', (if 0 < r then f_X11_learn_4 (j + 1 + z) (nI (c + 1)) (nI (c + 1)) D' else (if r = 0 then (some (nI c, D')) else (some (r, D')))) = some (r2, D2) ∧ (if 0 < r then f_X12_learn_7 (j + 1 + z') (nI (c + 1)) E' else (if 0 ≤ r then (some (nI c, E')) else (some (r, E')))) = some (r2, E2) ∧ Fr SCS D D2 ∧ Fr SRS E E2 ∧ JNT D2 E2 T acc ts' b' ss' a' Z := fun hp => by
      obtain ⟨r2, D2, E2, ts2, b2, ss2, a2, g1, g2, g3, g4, g5⟩ := ih (c + 1) z z' D' E' ts' b' ss' a' (by omega) h5
      exact ⟨r2, D2, E2, ts2, b2, ss2, a2, by rw [if_pos hp]; exact g1, by rw [if_pos hp]; exact g2, (F1.tr h3).tr g3, h4.tr g4, g5⟩
    rcases hr with rfl | rfl | rfl | rfl | rfl
    · exact ⟨nI c, D', E', ts', b', ss', a', by rw [if_neg (by decide), if_pos rfl], by rw [if_neg (by decide), if_pos (by decide)], F1.tr h3, h4, h5⟩
    · exact ⟨-4, D', E', ts', b', ss', a', by rw [if_neg (by decide), if_neg (by decide)], by rw [if_neg (by decide), if_neg (by decide)], F1.tr h3, h4, h5⟩
    · exact pos (by decide)
    · exact pos (by decide)
    · exact pos (by decide)
theorem learn_eq (hJ : JNT D D T acc ts b ss a Z) : ∃ r D1 D2, f_X11_learn D = some (r, D1) ∧ f_X12_learn D1 = some (r, D2) ∧ Fr SCS D D1 ∧ Fr SRS (ud D1 281 0 0) D2 ∧ ∃ ts' b' ss' a', JNT D2 D2 T acc ts' b' ss' a' Z := by
  obtain ⟨z, hz⟩ := FUs 40 (by omega)
  obtain ⟨r, D1, D2, e1, e2, F⟩ := two (f := f_X11_learn) (g := f_X12_learn_7 FU 0) (Q := fun _ _ => True) (fun E hE _ => by
    obtain ⟨r, D', E', ts', b', ss', a', h1, h2, h3⟩ := learn_loop 40 0 z z D E ts b ss a (by omega) hE
    rw [nI_0] at h1 h2
    refine ⟨r, D', E', ts', b', ss', a', ?_, ?_, h3⟩
    · unfold f_X11_learn
      rw [hz]; exact h1
    · rw [hz]; exact h2) hJ trivial (fun _ _ => trivial)
  refine ⟨r, D1, D2, e1, ?_, F⟩
  unfold f_X12_learn
  rw [lt_d]
  exact e2
end
