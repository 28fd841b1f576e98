/-! ===== spare; what the other questions leave of the learner ===== -/
section
variable {D D' E E' H : Dm} {T : Tb} {acc AH : Int32} {ts ss : Tst} {b a Z : Nat}
theorem JNT.k (h : JNT D E T acc ts b ss a Z) (hR : RS E' T acc ts b ss a) (hF : ∀ j k, 281 ≤ j → ¬ SXR j k → E' j k = E j k) (hK : KP b E E') : JNT D E' T acc ts b ss a Z := by
  obtain ⟨hp, hC, hR0, hc⟩ := h
  refine ⟨hp, hC, ⟨hR, by rw [hF _ _ (by omega) (by unfold SXR SXC; omega)]; exact hR0.2⟩, ?_⟩
  have g : ∀ k, (k = 33 ∨ (55 ≤ k ∧ k ≤ 65)) → E' 281 k = E 281 k := fun k q => hF _ _ (by omega) (by unfold SXR SXC; omega)
  rcases hc with ⟨q1, q2⟩ | ⟨H, AH, q1, q2⟩
  · exact Or.inl ⟨q1, by rw [g _ (by omega)]; exact q2⟩
  · refine Or.inr ⟨H, AH, q1, ?_⟩
    rcases q2 with q2 | ⟨q2, q3⟩
    · exact Or.inl (by rw [g _ (by omega)]; exact q2)
    · refine Or.inr ⟨by rw [g _ (by omega)]; exact q2, ?_⟩
      rcases q3 with ⟨r1, u, y, i, e, r2, r3, r4, r5, r6, r7, r8⟩ | ⟨r1, r2, u, y, i, r3, r4, r5, r6, r7, r8⟩ | ⟨⟨s1, s2, s3, s4, s5⟩, r2⟩
      · exact Or.inl ⟨by rw [g _ (by omega)]; exact r1, u, y, i, e, r2, r3, r4, by rw [g _ (by omega)]; exact r5, by rw [g _ (by omega)]; exact r6, by rw [g _ (by omega)]; exact r7, by rw [g _ (by omega)]; exact r8⟩
      · exact Or.inr (Or.inl ⟨by rw [g _ (by omega)]; exact r1, r2, u, y, i, r3, r4, r5, by rw [g _ (by omega)]; exact r6, by rw [g _ (by omega)]; exact r7, by rw [g _ (by omega)]; exact r8⟩)
      · refine Or.inr (Or.inr ⟨⟨hR, by rw [hF _ _ (by omega) (by unfold SXR SXC; omega)]; exact s2, s3, fun u y i hv => ?_, fun u y i hv => ?_⟩, ?_⟩)
        · obtain ⟨z1, z2⟩ := s4 u y i hv
          exact ⟨hK 298 _ (Or.inr rfl) z1, hK 296 _ (Or.inl rfl) z2⟩
        · obtain ⟨v, z1, z2, z3⟩ := s5 u y i hv
          exact ⟨v, z1, by rw [hF _ _ (by omega) (by unfold SXR SXC; omega)]; exact z2, by rw [hF _ _ (by omega) (by unfold SXR SXC; omega)]; exact z3⟩
        · rcases r2 with ⟨q1, q2, q3, q4⟩ | ⟨q1, q2, ⟨q3, q4, q5⟩, s, q6, q7, q8⟩
          · exact Or.inl ⟨q1, by rw [g _ (by omega)]; exact q2, by rw [g _ (by omega)]; exact q3, by rw [g _ (by omega)]; exact q4⟩
          · refine Or.inr ⟨q1, by rw [g _ (by omega)]; exact q2, ⟨q3, by rw [g _ (by omega)]; exact q4, fun p hp => ?_⟩, s, q6, q7, by rw [g _ (by omega)]; exact q8⟩
            rw [hF 308 _ (by omega) (by unfold SXR SXC; omega), hF 309 _ (by omega) (by unfold SXR SXC; omega)]; exact q5 p hp
def mxk (f : Nat → Nat) : Nat → Nat
  | 0 => 0
  | n + 1 => max (mxk f n) (f n)
theorem mxk_le {f : Nat → Nat} {m : Nat} : ∀ {n : Nat}, (∀ k, k < n → f k ≤ m) → mxk f n ≤ m
  | 0, _ => Nat.zero_le _
  | n + 1, h => by
    have h1 := mxk_le (f := f) (m := m) (n := n) (fun k hk => h k (by omega))
    have h2 := h n (by omega)
    show max (mxk f n) (f n) ≤ m
    omega
theorem mostKept_ok (hC : CIv D T acc ts b ss a Z) (hP : PS D T acc ts b ss a) (hS : SR E ss a) (hT : wfT T) : f_X3_mostKept D = some (nI (mxk (fun u => (kpN T acc ts b (cu T ss u)).length) a), D) := by
  have ha := hC.1.2.2.1
  have h4 := hC.1.2.2.2.1
  have k2 : ∀ u, u < a → (kpN T acc ts b (cu T ss u)).length ≤ 2 := fun u hu => (kcr (T := T) (acc := acc) (ts := ts) (b := b) hS hT hu).2.2
  have loop : ∀ (j i z : Nat), i + j = a → f_X3_mostKept_4 (j + 1 + z) (nI (mxk (fun u => (kpN T acc ts b (cu T ss u)).length) i)) (nI i) D = some (nI (mxk (fun u => (kpN T acc ts b (cu T ss u)).length) a), D) := by
    intro j
    induction j with
    | zero =>
      intro i z hi
      have hi : i = a := by omega
      rw [hi, show 0 + 1 + z = z + 1 by omega]
      show f_X3_mostKept_4_b _ _ _ _ = _
      unfold f_X3_mostKept_4_b
      rw [h4, if_pos (nI_le (Nat.le_refl _) (by omega))]
    | succ j ih =>
      intro i z hi
      rw [show j + 1 + 1 + z = (j + 1 + z) + 1 by omega]
      show f_X3_mostKept_4_b _ _ _ _ = _
      unfold f_X3_mostKept_4_b
      rw [h4, if_neg (nI_nle2 (by omega) (by omega)), gd_t (inB_nI (by omega) (by omega)), nI_clamp (by omega), ar45 i (by omega), (hP i (by omega)).k.1, lt_d, lt_d, nI_1]
      have e : mxI (nI (mxk (fun u => (kpN T acc ts b (cu T ss u)).length) i)) (nI (kpN T acc ts b (cu T ss i)).length) = nI (mxk (fun u => (kpN T acc ts b (cu T ss u)).length) (i + 1)) := by
        have m2 := mxk_le (f := fun u => (kpN T acc ts b (cu T ss u)).length) (m := 2) (n := i) (fun k hk => k2 k (by omega))
        have := k2 i (by omega)
        show _ = nI (max (mxk (fun u => (kpN T acc ts b (cu T ss u)).length) i) (kpN T acc ts b (cu T ss i)).length)
        unfold mxI
        by_cases c : mxk (fun u => (kpN T acc ts b (cu T ss u)).length) i < (kpN T acc ts b (cu T ss i)).length
        · rw [if_pos (nI_lt c (by omega)), Nat.max_eq_right (by omega)]
        · rw [if_neg (nI_nlt (by omega) (by omega)), Nat.max_eq_left (by omega)]
      rw [e]
      exact ih (i + 1) z (by omega)
  unfold f_X3_mostKept
  obtain ⟨z, hz⟩ := FUs a (by omega)
  have := loop a 0 z (by omega)
  rw [show nI (mxk (fun u => (kpN T acc ts b (cu T ss u)).length) 0) = 0 from nI_0, nI_0] at this
  rw [hz]
  exact this
theorem hasS_kp (h : RS E T acc ts b ss a) {u : Nat} (hu : u < a) : Y (f_X12_hasShort (nI u) E) (fun r => r.1 = nI (bts (kpN T acc ts b (cu T ss u))) ∧ RS r.2 T acc ts b ss a ∧ Fr SXC E r.2 ∧ KP b E r.2) := by
  refine yMono (hasShort_ok h hu) (fun r hr => ?_)
  obtain ⟨h1, h2, h3, -, hk⟩ := hr
  refine ⟨h1, h2, h3, fun j k q e => ?_⟩
  rcases q with rfl | rfl
  · rw [hk 296 k (Or.inr (Or.inr (Or.inr (Or.inr (Or.inr ⟨rfl, e⟩)))))]; exact e
  · rw [hk 298 k (Or.inr (Or.inl rfl))]; exact e
theorem spare19 (hR : RS E T acc ts b ss a) {v : Int32} (hv : E 282 1 = v) : Y (f_X12_spare_19 FU 0 0 E) (fun r => r.1 = v - nI (mxk (fun u => (kpN T acc ts b (cu T ss u)).length) a) ∧ RS r.2 T acc ts b ss a ∧ Fr SXC E r.2 ∧ KP b E r.2) := by
  have ha := hR.2.2.1.1
  have k2 : ∀ u, u < a → (ss u).2 ≤ 3 ∧ kpN T acc ts b (cu T ss u) ∈ hss (ss u).2 ∧ (kpN T acc ts b (cu T ss u)).length ≤ 2 := fun u hu => kcr (T := T) (acc := acc) (ts := ts) (b := b) hR.2.2.1 hR.1.1 hu
  have loop : ∀ (j i z : Nat) (E1 : Dm), i + j = a → RS E1 T acc ts b ss a → Fr SXC E E1 → KP b E E1 → Y (f_X12_spare_19 (j + 1 + z) (nI (mxk (fun u => (kpN T acc ts b (cu T ss u)).length) i)) (nI i) E1) (fun r => r.1 = v - nI (mxk (fun u => (kpN T acc ts b (cu T ss u)).length) a) ∧ RS r.2 T acc ts b ss a ∧ Fr SXC E r.2 ∧ KP b E r.2) := by
    intro j
    induction j with
    | zero =>
      intro i z E1 hi hR1 hF hK
      have hi : i = a := by omega
      rw [hi, show 0 + 1 + z = z + 1 by omega]
      show Y (f_X12_spare_19_b _ _ _ _) _
      unfold f_X12_spare_19_b
      refine yPos (by rw [hR1.2.2.1.2.1]; exact nI_le (Nat.le_refl _) (by omega)) ?_
      rw [its_ok (k := 1) (q := 1) mc0 rfl (by omega), bI_d]
      refine yRet ⟨?_, hR1, hF, hK⟩
      show E1 282 1 - _ = _
      rw [hF 282 1 (by unfold SXC; omega), hv]
    | succ j ih =>
      intro i z E1 hi hR1 hF hK
      rw [show j + 1 + 1 + z = (j + 1 + z) + 1 by omega]
      show Y (f_X12_spare_19_b _ _ _ _) _
      unfold f_X12_spare_19_b f_X12_spare_51
      obtain ⟨d3, din, dl⟩ := k2 i (by omega)
      have m2 := mxk_le (f := fun u => (kpN T acc ts b (cu T ss u)).length) (m := 2) (n := i) (fun k hk => (k2 k (by omega)).2.2)
      refine yNeg (by rw [hR1.2.2.1.2.1]; exact nI_nle2 (by omega) (by omega)) ?_
      refine yBI (hasS_kp hR1 (show i < a by omega)) (fun r E2 h2 => ?_)
      dsimp only at h2
      obtain ⟨er, hR2, hF2, hK2⟩ := h2
      rw [er, bits_l (M := (ss i).2) (by omega) din, bI_d]
      by_cases c : (kpN T acc ts b (cu T ss i)).length ≤ mxk (fun u => (kpN T acc ts b (cu T ss u)).length) i
      · refine yPos (nI_le c (by omega)) (yLt0 ?_)
        rw [nI_1]
        have := ih (i + 1) z E2 (by omega) hR2 (hF.tr hF2) (hK.tr hK2)
        rw [show mxk (fun u => (kpN T acc ts b (cu T ss u)).length) (i + 1) = mxk (fun u => (kpN T acc ts b (cu T ss u)).length) i from Nat.max_eq_left c] at this
        exact this
      · refine yNeg (nI_nle2 (by omega) (by omega)) ?_
        refine yBI (hasS_kp hR2 (show i < a by omega)) (fun r E3 h3 => ?_)
        dsimp only at h3
        obtain ⟨er3, hR3, hF3, hK3⟩ := h3
        rw [er3, bits_l (M := (ss i).2) (by omega) din, bI_d, lt_d, nI_1]
        have := ih (i + 1) z E3 (by omega) hR3 ((hF.tr hF2).tr hF3) ((hK.tr hK2).tr hK3)
        rw [show mxk (fun u => (kpN T acc ts b (cu T ss u)).length) (i + 1) = (kpN T acc ts b (cu T ss i)).length from Nat.max_eq_right (show mxk (fun u => (kpN T acc ts b (cu T ss u)).length) i ≤ (kpN T acc ts b (cu T ss i)).length by omega)] at this
        exact this
  obtain ⟨z, hz⟩ := FUs a (by omega)
  have := loop a 0 z E (by omega) hR Fr.refl (fun j k q e => e)
  rw [show nI (mxk (fun u => (kpN T acc ts b (cu T ss u)).length) 0) = 0 from nI_0, nI_0] at this
  rw [hz]
  exact this
theorem spare_eq (hJ : JNT D D T acc ts b ss a Z) (hr : D 282 1 = D 9 1) : LRQ D T acc Z f_X11_spare f_X12_spare := by
  obtain ⟨r, D1, D2, e1, e2, F⟩ := two (f := f_X11_spare) (g := fun E => bI (f_X12_isStanding E) fun y5 D3 => if y5 = 0 then (some ((-5), D3)) else (f_X12_spare_19 FU 0 0 D3)) (Q := fun D E => E 282 1 = D 9 1) (fun E hE hQ => by
    obtain ⟨D1, E1, v, e1, e2, e3, F1, F2, J, hP, hv⟩ := st_j0 hE
    unfold f_X11_spare
    try dsimp only
    rw [e1, bV_d, e2, bI_d, e3, bI_d]
    rcases hv with rfl | ⟨rfl, H, AH, h3, h4⟩
    · exact ⟨-5, D1, E1, ts, b, ss, a, by rw [if_pos rfl], by rw [if_pos rfl], F1, F2, J⟩
    · rw [if_neg i10, if_neg i10]
      obtain ⟨⟨r, E2⟩, x1, x2, x3, x4, x5⟩ := spare19 h4.1.1 (v := D1 9 1) (by rw [F2 _ _ (by unfold SRS; omega), F1 _ _ (by unfold SCS; omega)]; exact hQ)
      dsimp only at x2 x3 x4 x5
      rw [mostKept_ok J.2.1 hP h4.1.1.2.2.1 h4.1.1.1.1, bI_d, x1, x2]
      exact ⟨_, D1, E2, ts, b, ss, a, rfl, rfl, F1, F2.tr (x4.mono (fun j k q => by unfold SXC at q; unfold SRS; omega)), J.k x3 (fun j k q1 q2 => x4 j k (fun q => q2 (Or.inl q))) x5⟩) hJ hr (fun E hE => by rw [hE _ _ (by omega) (by omega)]; exact hr)
  refine ⟨r, D1, D2, e1, ?_, F⟩
  unfold f_X12_spare
  rw [lt_d]
  exact e2
end
