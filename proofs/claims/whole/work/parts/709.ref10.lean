/-! ===== the reference: the way to a short word, the first that is alike ===== -/
theorem LKm.copy {D D' : Dm} {l : List Lt} {M n : Nat} (h : LKm D l M) (h36 : D 281 36 = nI n) (h36' : D' 281 36 = nI n) (hn : n < 2 ^ 31) (hc : ∀ k, k < n → D' 299 k = D 299 k ∧ D' 300 k = D 300 k) : LKm D' l M := by
  obtain ⟨m, h1, h2, h3, h4, h5⟩ := h
  have e : m = n := nI_inj (by omega) hn (by rw [← h2, h36])
  subst e
  refine ⟨m, h1, h36', ?_, fun k hk => ?_, ?_⟩
  · rw [h3]; exact lts_congr (fun k _ hk => ⟨((hc k (by omega)).1).symm, ((hc k (by omega)).2).symm⟩)
  · rw [(hc k hk).1, (hc k hk).2]; exact h4 k hk
  · rw [h5]; exact mxf_congr (fun k hk => by rw [(hc k hk).2])
section
variable {D : Dm} {T : Tb} {acc : Int32} {ts ss : Tst} {b a : Nat}
theorem ho76 {D0 : Dm} {n : Nat} {x3 : Int32} (hn : n ≤ 40) : ∀ (j i m : Nat) (D : Dm), i + j = n → Fr (fun j k => j = 299 ∨ j = 300) D0 D → (∀ k, k < i → D 299 k = D0 304 k ∧ D 300 k = D0 305 k) → Y (f_X12_hasOf_76 (j + 1 + m) (nI n) x3 (nI i) D) (fun r => r.1 = x3 ∧ Fr (fun j k => j = 299 ∨ j = 300) D0 r.2 ∧ ∀ k, k < n → r.2 299 k = D0 304 k ∧ r.2 300 k = D0 305 k) := by
  intro j
  induction j with
  | zero =>
    intro i m D hi hF hk
    have hi : i = n := by omega
    rw [show 0 + 1 + m = m + 1 by omega]
    show Y (f_X12_hasOf_76_b _ _ _ _ _) _
    unfold f_X12_hasOf_76_b
    rw [hi] at hk ⊢
    exact yPos (nI_le (Nat.le_refl _) (by omega)) (yRet ⟨rfl, hF, hk⟩)
  | succ j ih =>
    intro i m D hi hF hk
    rw [show j + 1 + 1 + m = (j + 1 + m) + 1 by omega]
    show Y (f_X12_hasOf_76_b _ _ _ _ _) _
    unfold f_X12_hasOf_76_b
    rw [nI_clamp (show i < 2 ^ 31 by omega), nI_1]
    refine yNeg (nI_nle2 (by omega) (by omega)) (yGd (inB_nI (by omega) (by omega)) (yGd (inB_nI (by omega) (by omega)) (yLt0 (yGd (inB_nI (by omega) (by omega)) (yGd (inB_nI (by omega) (by omega)) (yLt0 (yLt0 ?_)))))))
    refine ih (i + 1) m _ (by omega) ((hF.ud (by omega)).ud (by omega)) (fun k hk2 => ?_)
    have w : ud D 299 i (D 304 i) 305 i = D 305 i := by rw [ud_at, if_neg (by omega)]
    rw [w]
    by_cases e : k = i
    · refine ⟨?_, ?_⟩
      · rw [ud_at, if_neg (by omega), ud_at, if_pos ⟨rfl, e⟩, hF 304 _ (by omega), e]
      · rw [ud_at, if_pos ⟨rfl, e⟩, hF 305 _ (by omega), e]
    · rw [ud_at, if_neg (by omega), ud_at, if_neg (by omega), ud_at, if_neg (by omega), ud_at, if_neg (by omega)]; exact hk k (by omega)
theorem hasOf_ok (h : RS D T acc ts b ss a) {u M : Nat} {l : List Lt} (hu : u < a) (hK : LKm D l M) : Y (f_X12_hasOf (nI u) D) (fun r => r.1 = nI (bts (kpN T acc ts b (cu T ss u))) ∧ RS r.2 T acc ts b ss a ∧ Fr SXC D r.2 ∧ LKm r.2 l M ∧ ∀ j k, (j = 297 ∨ j = 298 ∨ (j = 296 ∧ D j k = nI b)) → r.2 j k = D j k) := by
  obtain ⟨hMR, hT, hS, hC, hL⟩ := id h
  have hb := hT.1
  have ha := hS.1
  obtain ⟨f, hf, e296, e295⟩ := hC.1 u hu
  obtain ⟨n, hn, h36, -⟩ := id hK
  unfold f_X12_hasOf
  rw [hT.2.1, nI_clamp (show u < 2 ^ 31 by omega), e296]
  refine yGd (inB_nI (by omega) (by omega)) (yIte (fun he => yGd (inB_nI (by omega) (by omega)) (yRet ?_)) (fun he => ?_))
  · have : f = b := nI_inj (by omega) (by omega) he
    rw [this] at e295
    exact ⟨e295, h, Fr.refl, hK, fun _ _ _ => rfl⟩
  · rw [lt_d, h36]
    have loop : ∀ (j i m : Nat) (D1 : Dm), i + j = n → Fr (fun j k => j = 304 ∨ j = 305) D D1 → (∀ k, k < i → D1 304 k = D 299 k ∧ D1 305 k = D 300 k) → Y (f_X12_hasOf_27 (j + 1 + m) (nI u) (nI n) (nI i) D1) (fun r => r.1 = nI (bts (kpN T acc ts b (cu T ss u))) ∧ RS r.2 T acc ts b ss a ∧ Fr SXC D r.2 ∧ LKm r.2 l M ∧ ∀ j k, (j = 297 ∨ j = 298 ∨ (j = 296 ∧ D j k = nI b)) → r.2 j k = D j k) := by
      intro j
      induction j with
      | zero =>
        intro i m D1 hi hF hk
        have hi : i = n := by omega
        rw [show 0 + 1 + m = m + 1 by omega]
        show Y (f_X12_hasOf_27_b _ _ _ _ _) _
        unfold f_X12_hasOf_27_b
        rw [hi] at hk ⊢
        have h1 : RS D1 T acc ts b ss a := h.fr (fun j k q => hF j k (by omega))
        refine yPos (nI_le (Nat.le_refl _) (by omega)) (yBI (hasShort_ok h1 hu) (fun r D2 h2 => ?_))
        dsimp only at h2
        obtain ⟨er, hRS, hF2, -, hk2⟩ := h2
        refine yLt (fun D3 hD3 => ?_)
        have o : ∀ j k, ¬ (j = 281 ∧ k = 36) → D3 j k = D2 j k := fun j k q => by rw [hD3, ud_at, if_neg q]
        obtain ⟨q, hq⟩ := FUs n (by omega)
        have := ho76 (D0 := D3) (x3 := r) hn n 0 q D3 (by omega) Fr.refl (fun k hk => absurd hk (Nat.not_lt_zero k))
        rw [nI_0] at this
        rw [hq]
        refine yMono this (fun r4 h4 => ?_)
        obtain ⟨e4, hF4, hc4⟩ := h4
        refine ⟨by rw [e4]; exact er, ?_, ?_, ?_, fun j k q => ?_⟩
        · refine hRS.fr (fun j k q => ?_)
          rw [hF4 j k (by omega), o j k (by omega)]
        · intro j k q
          unfold SXC at q
          rw [hF4 j k (by omega), o j k (by omega), hF2 j k (by unfold SXC; omega), hF j k (by omega)]
        · refine hK.copy h36 ?_ (by omega) (fun k hkn => ?_)
          · rw [hF4 _ _ (by omega), hD3, ud_at, if_pos ⟨rfl, rfl⟩]
          · obtain ⟨z1, z2⟩ := hc4 k hkn
            rw [z1, z2, o _ _ (by omega), o _ _ (by omega), hk2 _ _ (by omega), hk2 _ _ (by omega)]
            exact hk k hkn
        · have qj : j = 297 ∨ j = 298 ∨ j = 296 := q.imp id (fun z => z.imp id (fun w => w.1))
          rw [hF4 j k (by omega), o j k (by omega), hk2 j k (by
            rcases q with q | q | q
            · exact Or.inl q
            · exact Or.inr (Or.inl q)
            · exact Or.inr (Or.inr (Or.inr (Or.inr (Or.inr ⟨q.1, by rw [hF j k (by omega)]; exact q.2⟩))))), hF j k (by omega)]
      | succ j ih =>
        intro i m D1 hi hF hk
        rw [show j + 1 + 1 + m = (j + 1 + m) + 1 by omega]
        show Y (f_X12_hasOf_27_b _ _ _ _ _) _
        unfold f_X12_hasOf_27_b
        rw [nI_clamp (show i < 2 ^ 31 by omega), nI_1]
        refine yNeg (nI_nle2 (by omega) (by omega)) (yGd (inB_nI (by omega) (by omega)) (yGd (inB_nI (by omega) (by omega)) (yLt0 (yGd (inB_nI (by omega) (by omega)) (yGd (inB_nI (by omega) (by omega)) (yLt0 (yLt0 ?_)))))))
        refine ih (i + 1) m _ (by omega) ((hF.ud (by omega)).ud (by omega)) (fun k hk2 => ?_)
        have w : ud D1 304 i (D1 299 i) 300 i = D1 300 i := by rw [ud_at, if_neg (by omega)]
        rw [w]
        by_cases e : k = i
        · refine ⟨?_, ?_⟩
          · rw [ud_at, if_neg (by omega), ud_at, if_pos ⟨rfl, e⟩, hF 299 _ (by omega), e]
          · rw [ud_at, if_pos ⟨rfl, e⟩, hF 300 _ (by omega), e]
        · rw [ud_at, if_neg (by omega), ud_at, if_neg (by omega), ud_at, if_neg (by omega), ud_at, if_neg (by omega)]; exact hk k (by omega)
    obtain ⟨q, hq⟩ := FUs n (by omega)
    have := loop n 0 q D (by omega) Fr.refl (fun k hk => absurd hk (Nat.not_lt_zero k))
    rw [nI_0] at this
    rw [hq]
    exact this
theorem nI_01 {w : Nat} (h : w = 0 ∨ w = 1) : nI w = 0 ∨ nI w = 1 := by
  rcases h with rfl | rfl
  · exact Or.inl rfl
  · exact Or.inr rfl
/-- the way by which the word that is looked at is alike to a short one -/
theorem rwayTo_ok (h : RS D T acc ts b ss a) {u M : Nat} {l : List Lt} {hl : List Nat} (hu : u < a) (hK : LKm D l M) (hM : M < 5) (hh : hl ∈ hss M) : Y (f_X12_wayTo (nI (bts hl)) (nI u) D) (fun r => r.1 = wyL T acc ts b (run T c0 l) hl (cu T ss u) (kpN T acc ts b (cu T ss u)) ∧ RS r.2 T acc ts b ss a ∧ Fr SXC D r.2 ∧ LKm r.2 l M ∧ ∀ j k, (j = 297 ∨ j = 298 ∨ (j = 296 ∧ D j k = nI b)) → r.2 j k = D j k) := by
  obtain ⟨hMR, hT, hS, hC, hL⟩ := id h
  have hb := hT.1
  obtain ⟨hd, -, -⟩ := hS.sy hu
  obtain ⟨st', hc'⟩ := hS.cu hMR.1 hu (T := T)
  have hst : okSt (run T c0 l).1 ∧ okC (run T c0 l) M := by
    obtain ⟨n, h1, h2, h3, h4⟩ := hK.lk
    refine ⟨run_ok hMR.1 c0_ok (fun a ha => ?_), run_okC (fun a ha => ?_)⟩ <;> rw [h3] at ha <;> obtain ⟨k, -, hk, rfl⟩ := lts_mem ha
    · exact (h4 k (by omega)).1
    · exact (h4 k (by omega)).2
  generalize hc : run T c0 l = c at *
  generalize hcu : cu T ss u = c' at *
  generalize hkp : kpN T acc ts b c' = l' at *
  have hl' : l' ∈ hss (ss u).2 := by rw [← hkp]; exact kpN_in (by omega) hc'
  have nm := hss_nm hM hh
  have nm' := hss_nm (show (ss u).2 < 5 by omega) hl'
  have rv' := hss_rv (show (ss u).2 < 5 by omega) hl'
  have hok : okT ts b := hT.okT
  unfold f_X12_wayTo
  have hOf := hasOf_ok h hu hK
  rw [hcu, hkp] at hOf
  refine yBI hOf (fun r D1 h1 => ?_)
  dsimp only at h1
  obtain ⟨er, hR1, hF1, hK1, hk1⟩ := h1
  rw [er, bits_l hM hh, bI_d, bits_l (by omega) hl', bI_d]
  unfold wyL
  refine yIte (fun e => ?_) (fun e => yRet ⟨?_, hR1, hF1, hK1, hk1⟩)
  · have e : hl.length = l'.length := nI_inj (by have := nm.1; omega) (by have := nm'.1; omega) e
    rw [if_pos e]
    refine yLt0 (yLt (fun D2 hD2 => ?_))
    have o2 : Fr (fun j k => j = 281 ∧ (k = 47 ∨ k = 48)) D1 D2 := by rw [hD2]; exact (Fr.refl.ud (by omega)).ud (by omega)
    have v47 : D2 281 47 = nI (bts hl) := by rw [hD2]; simp [ud_at]
    have v48 : D2 281 48 = nI (bts l') := by rw [hD2]; simp [ud_at]
    have hR2 : RS D2 T acc ts b ss a := hR1.fr (fun j k q => o2 j k (by omega))
    have hK2 : LKm D2 l M := hK1.fr (o2 _ _ (by omega)) (fun j k q => o2 j k (by omega))
    refine yBV (keepsOne_ok hR2.1 hK2.lk) (fun D3 h3 => ?_)
    obtain ⟨hF3, hO3⟩ := h3
    rw [hc] at hO3
    have hR3 : RS D3 T acc ts b ss a := hR2.fr (fun j k q => hF3 j k (by unfold SKO; omega))
    have rsh := runsShort_ok hR3.1 hR3.2.2.1 hu
    rw [hcu] at rsh
    refine yBV rsh (fun D4 h4 => ?_)
    obtain ⟨hF4, hP4⟩ := h4
    have hR4 : RS D4 T acc ts b ss a := hR3.fr (fun j k q => hF4 j k (by unfold SP2; omega))
    have hO4 : getO D4 = c := by
      rw [← hO3]; unfold getO
      rw [hF4 _ _ (by unfold SP2; omega), hF4 _ _ (by unfold SP2; omega), hF4 _ _ (by unfold SP2; omega)]
    have w47 : D4 281 47 = nI (bts hl) := by rw [hF4 _ _ (by unfold SP2; omega), hF3 _ _ (by unfold SKO; omega)]; exact v47
    have w48 : D4 281 48 = nI (bts l') := by rw [hF4 _ _ (by unfold SP2; omega), hF3 _ _ (by unfold SKO; omega)]; exact v48
    have hK4 : LKm D4 l M := by
      refine hK2.fr ?_ (fun j k q => ?_)
      · rw [hF4 _ _ (by unfold SP2; omega), hF3 _ _ (by unfold SKO; omega)]
      · rw [hF4 _ _ (by unfold SP2; omega), hF3 _ _ (by unfold SKO; omega)]
    have hFD : Fr SXC D D4 := fun j k q => by
      rw [hF4 j k (by unfold SXC at q; unfold SP2; omega), hF3 j k (by unfold SXC at q; unfold SKO; omega), o2 j k (by unfold SXC at q; omega), hF1 j k q]
    have hkD : ∀ j k, (j = 297 ∨ j = 298 ∨ (j = 296 ∧ D j k = nI b)) → D4 j k = D j k := fun j k q => by
      have qj : j = 297 ∨ j = 298 ∨ j = 296 := q.imp id (fun z => z.imp id (fun w => w.1))
      rw [hF4 j k (by unfold SP2; omega), hF3 j k (by unfold SKO; omega), o2 j k (by omega), hk1 j k q]
    -- what goes on from here changes but the rows of names and the machine's place
    have goal : ∀ (r : Int32) (D5 : Dm), Fr SAA D4 D5 → r = (if alk T acc ts b c hl c' l' = true then 0 else if hl.length = 2 ∧ alk T acc ts b c hl c' l'.reverse = true then 1 else -1) → (r = (if alk T acc ts b c hl c' l' = true then 0 else if hl.length = 2 ∧ alk T acc ts b c hl c' l'.reverse = true then 1 else -1) ∧ RS D5 T acc ts b ss a ∧ Fr SXC D D5 ∧ LKm D5 l M ∧ ∀ j k, (j = 297 ∨ j = 298 ∨ (j = 296 ∧ D j k = nI b)) → D5 j k = D j k) := by
      intro r D5 hF5 er
      refine ⟨er, hR4.fr (fun j k q => hF5 j k (by unfold SAA; omega)), fun j k q => ?_, hK4.fr (hF5 _ _ (by unfold SAA; omega)) (fun j k q => hF5 j k (by unfold SAA; omega)), fun j k q => ?_⟩
      · rw [hF5 j k (by unfold SXC at q; unfold SAA; omega), hFD j k q]
      · have qj : j = 297 ∨ j = 298 ∨ j = 296 := q.imp id (fun z => z.imp id (fun w => w.1))
        rw [hF5 j k (by unfold SAA; omega), hkD j k q]
    have tl : ∀ (way : Nat) (k41 : Int32 → Int32 → Dm → Option (Int32 × Dm)), (way = 0 ∨ (way = 1 ∧ hl.length = 2)) → ∀ (Q : Int32 × Dm → Prop), (∀ D5, Fr SAA D4 D5 → allB (eqI T acc ts c hl c' (wyr way l')) b = true → Q (nI way, D5)) → (∀ D5, Fr SAA D4 D5 → allB (eqI T acc ts c hl c' (wyr way l')) b = false → Y (k41 (nI (bts hl)) (nI (way + 1)) D5) Q) → ∀ (j i m : Nat) (D5 : Dm), i + j = b → Fr SAA D4 D5 → Y (f_X12_wayTo_65 k41 (j + 1 + m) (nI (bts hl)) (nI way) (b01 (allB (eqI T acc ts c hl c' (wyr way l')) i)) (nI i) D5) Q := by
      intro way k41 hw Q q1 q2
      have e102 : ∀ (i : Nat) (D5 : Dm), Fr SAA D4 D5 → (allB (eqI T acc ts c hl c' (wyr way l')) i = allB (eqI T acc ts c hl c' (wyr way l')) b) → Y (f_X12_wayTo_102 k41 (nI (bts hl)) (nI way) (b01 (allB (eqI T acc ts c hl c' (wyr way l')) i)) D5) Q := by
        intro i D5 hF5 ei
        unfold f_X12_wayTo_102
        rw [ei, lt_d, nI_1]
        cases hb : allB (eqI T acc ts c hl c' (wyr way l')) b with
        | true => exact yNeg (by decide) (yRet (q1 D5 hF5 hb))
        | false => exact yPos rfl (q2 D5 hF5 hb)
      intro j
      induction j with
      | zero =>
        intro i m D5 hi hF5
        have hi : i = b := by omega
        rw [show 0 + 1 + m = m + 1 by omega]
        show Y (f_X12_wayTo_65_b _ _ _ _ _ _ _) _
        unfold f_X12_wayTo_65_b
        rw [hF5 281 28 (by unfold SAA; omega), hR4.2.1.2.1]
        exact yPos (by rw [hi]; exact nI_le (Nat.le_refl _) (by omega)) (e102 i D5 hF5 (by rw [hi]))
      | succ j ih =>
        intro i m D5 hi hF5
        rw [show j + 1 + 1 + m = (j + 1 + m) + 1 by omega]
        show Y (f_X12_wayTo_65_b _ _ _ _ _ _ _) _
        unfold f_X12_wayTo_65_b
        have hR5 : RS D5 T acc ts b ss a := hR4.fr (fun j k q => hF5 j k (by unfold SAA; omega))
        rw [hR5.2.1.2.1]
        refine yNeg (nI_nle2 (by omega) (by omega)) ?_
        cases hal : allB (eqI T acc ts c hl c' (wyr way l')) i with
        | false =>
          refine yPos rfl ?_
          have := e102 i D5 hF5 ?_
          · rw [hal] at this; exact this
          · rw [hal]
            symm
            rw [← Bool.not_eq_true, allB_iff]
            intro q
            have : allB (eqI T acc ts c hl c' (wyr way l')) i = true := allB_iff.mpr (fun t ht => q t (by omega))
            rw [hal] at this; cases this
        | true =>
          refine yNeg (by decide) ?_
          rw [ownOf_ok hR5.2.1 (show i < b by omega), bI_d]
          have hdi := (hok i (by omega)).1
          obtain ⟨q, hq⟩ := rf1 (ts i).2 (by omega)
          have hO5 : getO D5 = c := by
            rw [← hO4]; unfold getO
            rw [hF5 _ _ (by unfold SAA; omega), hF5 _ _ (by unfold SAA; omega), hF5 _ _ (by unfold SAA; omega)]
          have hP5 : getP D5 = c' := by
            rw [← hP4]; unfold getP
            rw [hF5 _ _ (by unfold SAA; omega), hF5 _ _ (by unfold SAA; omega), hF5 _ _ (by unfold SAA; omega)]
          have aa := aa_ok (T := T) (acc := acc) (ts := ts) (b := b) (t := i) (way := way) hM (show (ss u).2 < 5 by omega) hh hl' e hw hst.1 st' (show i < b by omega) (ts i).2 q [] D5 hR5.1 hR5.2.1 hO5 hP5 (by rw [hF5 _ _ (by unfold SAA; omega)]; exact w47) (by rw [hF5 _ _ (by unfold SAA; omega)]; exact w48) (by simp) (fun i hi => absurd hi (Nat.not_lt_zero i))
          rw [show ([] : List Nat).length = 0 from rfl, nI_0] at aa
          rw [hq]
          refine yBI aa (fun v D6 h6 => ?_)
          dsimp only at h6
          obtain ⟨e6, hF6, -⟩ := h6
          rw [lt_d, nI_1, e6]
          have := ih (i + 1) m D6 (by omega) (hF5.tr hF6)
          rw [allB_succ, hal, Bool.true_and] at this
          exact this
    obtain ⟨z, hz⟩ := FUs b (by omega)
    obtain ⟨y1, hy1⟩ := FUs 2 (by omega)
    have run1 : ∀ (way : Nat) (k41 : Int32 → Int32 → Dm → Option (Int32 × Dm)), (way = 0 ∨ (way = 1 ∧ hl.length = 2)) → ∀ (Q : Int32 × Dm → Prop), (∀ D5, Fr SAA D4 D5 → allB (eqI T acc ts c hl c' (wyr way l')) b = true → Q (nI way, D5)) → (∀ D5, Fr SAA D4 D5 → allB (eqI T acc ts c hl c' (wyr way l')) b = false → Y (k41 (nI (bts hl)) (nI (way + 1)) D5) Q) → ∀ (D5 : Dm), Fr SAA D4 D5 → Y (f_X12_wayTo_41_b k41 (nI (bts hl)) (nI way) D5) Q := by
      intro way k41 hw Q q1 q2 D5 hF5
      unfold f_X12_wayTo_41_b
      rw [bits_l hM hh, bI_d]
      have t := tl way k41 hw Q q1 q2 b 0 z D5 (by omega) hF5
      rw [nI_0] at t
      have t2 : ∀ n : Nat, way < n → n ≤ 2 → Y (f_X12_wayTo_56 k41 (nI (bts hl)) (nI way) (nI n) (nI way) D5) Q := by
        intro n hn hn2
        unfold f_X12_wayTo_56
        rw [hz]
        exact yNeg (nI_nle2 (by omega) (by omega)) t
      refine yIte (fun q => t2 1 ?_ (by omega)) (fun q => t2 2 (by omega) (by omega))
      rcases hw with rfl | ⟨-, h2⟩
      · omega
      · rw [h2] at q; exact absurd q (by decide)
    have ea := alk_eq (T := T) (acc := acc) hM hst.2 (show (ss u).2 < 5 by omega) hc' hok nm nm' e
    have ear := alk_eq (T := T) (acc := acc) hM hst.2 (show (ss u).2 < 5 by omega) hc' hok nm rv' (by rw [List.length_reverse]; exact e)
    rw [hy1, show 2 + 1 + y1 = (y1 + 1) + 1 + 1 by omega]
    show Y (f_X12_wayTo_41_b _ _ 0 _) _
    have := run1 0 (f_X12_wayTo_41 (y1 + 1 + 1)) (Or.inl rfl) (fun r => r.1 = (if alk T acc ts b c hl c' l' = true then 0 else if hl.length = 2 ∧ alk T acc ts b c hl c' l'.reverse = true then 1 else -1) ∧ RS r.2 T acc ts b ss a ∧ Fr SXC D r.2 ∧ LKm r.2 l M ∧ ∀ j k, (j = 297 ∨ j = 298 ∨ (j = 296 ∧ D j k = nI b)) → r.2 j k = D j k) (fun D5 hF5 hal => ?_) (fun D5 hF5 hal => ?_) D4 Fr.refl
    · rw [nI_0] at this; exact this
    · refine goal _ D5 hF5 ?_
      rw [if_pos (by rw [ea]; exact hal), nI_0]
    · have a0 : ¬ alk T acc ts b c hl c' l' = true := by rw [ea]; rw [show wyr 0 l' = l' from rfl] at hal; rw [hal]; decide
      show Y (f_X12_wayTo_41_b _ _ (nI (0 + 1)) _) _
      by_cases h2 : hl.length = 2
      · refine run1 1 _ (Or.inr ⟨rfl, h2⟩) _ (fun D6 hF6 hal2 => goal _ D6 hF6 ?_) (fun D6 hF6 hal2 => ?_) D5 hF5
        · rw [if_neg a0, if_pos ⟨h2, by rw [ear]; exact hal2⟩]; rfl
        · show Y (f_X12_wayTo_41_b _ _ (nI (1 + 1)) _) _
          unfold f_X12_wayTo_41_b f_X12_wayTo_56
          rw [bits_l hM hh, bI_d]
          refine yNeg (by rw [h2]; decide) (yPos (by decide) (yRet (goal _ D6 hF6 ?_)))
          rw [if_neg a0, if_neg]
          rw [ear]
          rw [show wyr 1 l' = l'.reverse from rfl] at hal2
          rw [hal2]
          simp
      · unfold f_X12_wayTo_41_b f_X12_wayTo_56
        rw [bits_l hM hh, bI_d]
        have hl1 : hl.length ≤ 1 := by have := nm.1; omega
        refine yPos (show nI hl.length ≤ nI 1 from nI_le hl1 (by omega)) (yPos (by decide) (yRet (goal _ D5 hF5 ?_)))
        rw [if_neg a0, if_neg (fun q => h2 q.1)]
  · rw [if_neg (fun q => e (by rw [q]))]
/-- the first of the short words to which something is alike -/
def lkF (T : Tb) (acc : Int32) (ts : Tst) (b : Nat) (ss : Tst) (c : Cf) (l : List Nat) (n : Nat) : Option Nat := fst1 (fun u => decide (¬ wyL T acc ts b c l (cu T ss u) (kpN T acc ts b (cu T ss u)) = -1)) n
theorem fst1_some {P : Nat → Bool} {n q : Nat} (h : fst1 P n = some q) : P q = true := List.find?_some h
theorem fst1_mono {P : Nat → Bool} {n q k : Nat} (h : fst1 P n = some q) : fst1 P (n + k) = some q := by
  induction k with
  | zero => exact h
  | succ k ih => rw [← Nat.add_assoc, fst1_succ, ih]
theorem likeOf_ok (h : RS D T acc ts b ss a) {M : Nat} {l : List Lt} {hl : List Nat} (hK : LKm D l M) (hM : M < 5) (hh : hl ∈ hss M) : Y (f_X12_likeOf (nI (bts hl)) D) (fun r => r.1 = oI (lkF T acc ts b ss (run T c0 l) hl a) ∧ RS r.2 T acc ts b ss a ∧ Fr SXC D r.2 ∧ (∀ u, lkF T acc ts b ss (run T c0 l) hl a = some u → r.2 281 54 = wyL T acc ts b (run T c0 l) hl (cu T ss u) (kpN T acc ts b (cu T ss u))) ∧ ∀ j k, (j = 297 ∨ j = 298 ∨ (j = 296 ∧ D j k = nI b)) → r.2 j k = D j k) := by
  have ha := h.2.2.1.1
  have loop : ∀ (j i m : Nat) (D1 : Dm), i + j = a → RS D1 T acc ts b ss a → Fr SXC D D1 → LKm D1 l M → (∀ j k, (j = 297 ∨ j = 298 ∨ (j = 296 ∧ D j k = nI b)) → D1 j k = D j k) → lkF T acc ts b ss (run T c0 l) hl i = none → Y (f_X12_likeOf_2 (j + 1 + m) (nI (bts hl)) (nI i) D1) (fun r => r.1 = oI (lkF T acc ts b ss (run T c0 l) hl a) ∧ RS r.2 T acc ts b ss a ∧ Fr SXC D r.2 ∧ (∀ u, lkF T acc ts b ss (run T c0 l) hl a = some u → r.2 281 54 = wyL T acc ts b (run T c0 l) hl (cu T ss u) (kpN T acc ts b (cu T ss u))) ∧ ∀ j k, (j = 297 ∨ j = 298 ∨ (j = 296 ∧ D j k = nI b)) → r.2 j k = D j k) := by
    intro j
    induction j with
    | zero =>
      intro i m D1 hi hR hF hK hk hn
      have hi : i = a := by omega
      rw [show 0 + 1 + m = m + 1 by omega]
      show Y (f_X12_likeOf_2_b _ _ _ _) _
      unfold f_X12_likeOf_2_b
      rw [hR.2.2.1.2.1]
      rw [hi] at hn ⊢
      refine yPos (nI_le (Nat.le_refl _) (by omega)) (yRet ⟨by rw [hn]; rfl, hR, hF, fun u hu => ?_, hk⟩)
      rw [hn] at hu; cases hu
    | succ j ih =>
      intro i m D1 hi hR hF hK hk hn
      rw [show j + 1 + 1 + m = (j + 1 + m) + 1 by omega]
      show Y (f_X12_likeOf_2_b _ _ _ _) _
      unfold f_X12_likeOf_2_b
      rw [hR.2.2.1.2.1]
      refine yNeg (nI_nle2 (by omega) (by omega)) (yBI (rwayTo_ok hR (show i < a by omega) hK hM hh) (fun r D2 h2 => ?_))
      dsimp only at h2
      obtain ⟨er, hR2, hF2, hK2, hk2⟩ := h2
      refine yLt (fun D3 hD3 => ?_)
      have o : ∀ j k, ¬ (j = 281 ∧ k = 54) → D3 j k = D2 j k := fun j k q => by rw [hD3, ud_at, if_neg q]
      have v54 : D3 281 54 = r := by rw [hD3, ud_at, if_pos ⟨rfl, rfl⟩]
      have hR3 : RS D3 T acc ts b ss a := hR2.fr (fun j k q => o j k (by omega))
      have hF3 : Fr SXC D D3 := fun j k q => by rw [o j k (by unfold SXC at q; omega), hF2 j k q, hF j k q]
      have hk3 : ∀ j k, (j = 297 ∨ j = 298 ∨ (j = 296 ∧ D j k = nI b)) → D3 j k = D j k := fun j k q => by
        have qj : j = 297 ∨ j = 298 ∨ j = 296 := q.imp id (fun z => z.imp id (fun w => w.1))
        have e := hk j k q
        rw [o j k (by omega), hk2 j k (q.imp id (fun z => z.imp id (fun w => ⟨w.1, by rw [e]; exact w.2⟩))), e]
      rw [v54, lt_d, nI_1]
      have step : lkF T acc ts b ss (run T c0 l) hl (i + 1) = if ¬ r = -1 then some i else none := by
        unfold lkF at hn ⊢
        rw [fst1_succ, hn, er]
        simp
      refine yIte (fun e => ?_) (fun e => ?_)
      · refine ih (i + 1) m D3 (by omega) hR3 hF3 (hK2.fr (o _ _ (by omega)) (fun j k q => o j k (by omega))) hk3 ?_
        rw [step, if_neg (fun q => q e)]
      · rw [if_pos e] at step
        have := fst1_mono (k := a - (i + 1)) step
        rw [show i + 1 + (a - (i + 1)) = a by omega] at this
        have hs : lkF T acc ts b ss (run T c0 l) hl a = some i := this
        refine yRet ⟨by rw [hs]; rfl, hR3, hF3, fun u hu => ?_, hk3⟩
        rw [hs] at hu
        cases hu
        dsimp only
        rw [v54, er]
  unfold f_X12_likeOf
  obtain ⟨q, hq⟩ := FUs a (by omega)
  have := loop a 0 q D (by omega) h Fr.refl hK (fun _ _ _ => rfl) rfl
  rw [nI_0] at this
  rw [hq]
  exact this
end
