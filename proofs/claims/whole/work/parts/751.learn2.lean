/-! ===== what is told of the word and of short ones ===== -/
theorem lsf_lt {f : Nat → Int32} {k n : Nat} (h : k < n) : lsf f k < dsf f n := by
  obtain ⟨a1, a2, a3⟩ := fi_spec f (f k) k
  unfold lsf
  have h1 : dsf f (fi f (f k) k) < dsf f (k + 1) := by
    by_cases c : fi f (f k) k < k
    · have e := a3 c
      have := dsf_lt (f := f) (i := fi f (f k) k) (n := k) c (fun j hj => by rw [e]; exact a2 j hj)
      have := dsf_mono (f := f) (m := k) (k + 1) (by omega)
      omega
    · have e : fi f (f k) k = k := by omega
      show _ < dsf f k + if fi f (f k) k < k then 0 else 1
      rw [if_neg c, e]; omega
  have := dsf_mono (f := f) (m := k + 1) n (by omega)
  omega
theorem mxf_lsf {f : Nat → Int32} : ∀ n, mxf (fun k => lsf f k) n = dsf f n
  | 0 => rfl
  | n + 1 => by
    unfold mxf
    rw [mxf_lsf n]
    show _ = dsf f n + if fi f (f n) n < n then 0 else 1
    obtain ⟨a1, a2, a3⟩ := fi_spec f (f n) n
    by_cases c : fi f (f n) n < n
    · have := dsf_lt (f := f) (i := fi f (f n) n) (n := n) c (fun j hj => by rw [a3 c]; exact a2 j hj)
      rw [if_pos c, if_neg (by unfold lsf; omega)]; rfl
    · have e : fi f (f n) n = n := by omega
      rw [if_neg c, if_pos (by unfold lsf; rw [e]; omega)]
      unfold lsf; rw [e]
section
variable {D : Dm} {T : Tb} {acc : Int32} {ts ss : Tst} {b a : Nat}
/-- the word in least form -/
def twl (D : Dm) (n : Nat) : List Lt := lts (D 18) (fun k => nI (lsf (D 19) k)) 0 n
theorem la17_ok (h : LCs D T acc ts b ss a) {n : Nat} (hW : RW D n) (hI : isW D 17 n) (hM : dsf (D 19) n < 5) : Y (f_X3_lookAt 17 D) (fun D' => Fr SLk D D' ∧ PR D' 46 T acc ts b (run T c0 (twl D n))) := by
  obtain ⟨hn, h17, -, hk⟩ := hW
  obtain ⟨-, -, -, hl⟩ := hI
  unfold f_X3_lookAt
  obtain ⟨D2, e2, hc⟩ := copyLeast_ok (D := D) (w := 64) (v := 17) h17 (by omega) (by omega)
  rw [e2, bV_d]
  have hF : Fr (fun j k => 64 ≤ j ∧ j ≤ 67) D D2 := fun j k q => hc.2.2 j k (by omega)
  have h2 := h.fr (D' := D2) (fun j k q => hF j k (by omega))
  have hW2 : WW D2 64 (twl D n) (dsf (D 19) n) := by
    refine ⟨n, by omega, hc.1.2.1, ?_, fun k hk2 => ?_⟩
    · unfold twl
      refine lts_congr (fun k _ hk2 => ?_)
      obtain ⟨q1, q2⟩ := hc.2.1 k (by omega)
      rw [q1, q2]
      exact ⟨rfl, (hl k (by omega)).symm⟩
    · obtain ⟨q1, q2⟩ := hc.2.1 k hk2
      rw [q1, q2]
      exact ⟨(hk k hk2).2.2.1, _, lsf_lt hk2, hl k hk2⟩
  refine yBV (look_ok (r0 := 46) (r2 := 64) h2.1 h2.2.1 (by omega) (by omega) (by omega) hW2 hM) (fun D3 h3 => yRet ⟨?_, h3.2⟩)
  exact (hF.mono (fun j k q => by unfold SLk; omega)).tr (h3.1.mono (fun j k q => by unfold SP at q; unfold SLk; omega))
theorem twl_ok {n : Nat} (hW : RW D n) : ∀ x ∈ twl D n, isSy x.1 ∧ ∃ j, j < dsf (D 19) n ∧ x.2 = nI j := by
  intro x hx
  unfold twl at hx
  obtain ⟨k, -, hk, rfl⟩ := lts_mem hx
  exact ⟨(hW.2.2.2 k (by omega)).2.2.1, _, lsf_lt (by omega), rfl⟩
theorem twl_c {n : Nat} (hW : RW D n) (hT : wfT T) : okSt (run T c0 (twl D n)).1 ∧ okC (run T c0 (twl D n)) (dsf (D 19) n) := ⟨run_ok hT c0_ok (fun x hx => (twl_ok hW x hx).1), run_okC (fun x hx => (twl_ok hW x hx).2)⟩
theorem tt_ok {n : Nat} (hW : RW D n) : Y (f_X12_takesTold D) (fun D' => Fr (fun j k => j = 299 ∨ j = 300 ∨ (j = 281 ∧ k = 36)) D D' ∧ LKm D' (twl D n) (dsf (D 19) n) ∧ D' 281 36 = nI n) := by
  obtain ⟨hn, h17, h281, hk⟩ := id hW
  have e286 : ∀ k, k < n → lsf (D 286) k = lsf (D 19) k := fun k hk2 => lsf_congr (fun j hj => (hk j (by omega)).2.1)
  unfold f_X12_takesTold
  refine yLt (fun D1 hD1 => ?_)
  rw [h281] at hD1
  have loop : ∀ (j i m : Nat) (D' : Dm), i + j = n → Fr (fun j k => j = 299 ∨ j = 300) D1 D' → (∀ k, k < i → D' 299 k = D 18 k ∧ D' 300 k = nI (lsf (D 19) k)) → Y (f_X12_takesTold_10 (j + 1 + m) (nI i) D') (fun D2 => Fr (fun j k => j = 299 ∨ j = 300) D1 D2 ∧ ∀ k, k < n → D2 299 k = D 18 k ∧ D2 300 k = nI (lsf (D 19) k)) := by
    intro j
    induction j with
    | zero =>
      intro i m D' hi hF hq
      have hi : i = n := by omega
      rw [show 0 + 1 + m = m + 1 by omega]
      show Y (f_X12_takesTold_10_b _ _ _) _
      unfold f_X12_takesTold_10_b
      rw [hi] at hq ⊢
      have f18 : D' 281 18 = nI n := by rw [hF 281 18 (by omega), hD1, ud_at, if_neg (by omega)]; exact h281
      rw [f18]
      exact yPos (nI_le (Nat.le_refl _) (by omega)) (yRet ⟨hF, hq⟩)
    | succ j ih =>
      intro i m D' hi hF hq
      rw [show j + 1 + 1 + m = (j + 1 + m) + 1 by omega]
      show Y (f_X12_takesTold_10_b _ _ _) _
      unfold f_X12_takesTold_10_b
      have f18 : D' 281 18 = nI n := by rw [hF 281 18 (by omega), hD1, ud_at, if_neg (by omega)]; exact h281
      have f285 : D' 285 i = D 18 i := by rw [hF 285 _ (by omega), hD1, ud_at, if_neg (by omega)]; exact (hk i (by omega)).1
      rw [f18, nI_clamp (by omega), f285]
      refine yNeg (nI_nle2 (by omega) (by omega)) (yGd (inB_nI (by omega) (by omega)) (yGd (inB_nI (by omega) (by omega)) ?_))
      rw [lt_d, rl_ok (by omega), bI_d]
      have e2 : ud D' 299 i (D 18 i) 286 = D 286 := funext (fun k => by rw [ud_at, if_neg (by omega), hF 286 _ (by omega), hD1, ud_at, if_neg (by omega)])
      rw [e2, e286 i (by omega), lt_d, lt_d, nI_1]
      refine yGd (inB_nI (by omega) (by omega)) (ih (i + 1) m _ (by omega) ((hF.ud (by omega)).ud (by omega)) (fun k hk2 => ?_))
      by_cases e : k = i
      · refine ⟨?_, ?_⟩
        · rw [ud_at, if_neg (by omega), ud_at, if_pos ⟨rfl, e⟩, e]
        · rw [ud_at, if_pos ⟨rfl, e⟩, e]
      · rw [ud_at, if_neg (by omega), ud_at, if_neg (by omega), ud_at, if_neg (by omega), ud_at, if_neg (by omega)]; exact hq k (by omega)
  obtain ⟨q, hq⟩ := FUs n (by omega)
  have := loop n 0 q D1 (by omega) Fr.refl (fun k hk => absurd hk (Nat.not_lt_zero k))
  rw [nI_0] at this
  rw [hq]
  have v36 : ∀ D2 : Dm, Fr (fun j k => j = 299 ∨ j = 300) D1 D2 → D2 281 36 = nI n := fun D2 hF => by rw [hF _ _ (by omega), hD1, ud_at, if_pos ⟨rfl, rfl⟩]
  refine yMono this (fun D2 h2 => ⟨fun j k hj => ?_, ⟨n, by omega, v36 D2 h2.1, ?_, fun k hk2 => ?_, ?_⟩, v36 D2 h2.1⟩)
  · rw [h2.1 j k (by omega), hD1, ud_at, if_neg (by omega)]
  · unfold twl
    exact lts_congr (fun k _ hk2 => ⟨((h2.2 k (by omega)).1).symm, ((h2.2 k (by omega)).2).symm⟩)
  · obtain ⟨q1, q2⟩ := h2.2 k hk2
    rw [q1, q2]
    have h1 := lsf_lt (f := D 19) hk2
    have h2 := dsf_le (D 19) n
    exact ⟨(hk k hk2).2.2.1, _, by omega, rfl⟩
  · rw [← mxf_lsf (f := D 19) n]
    refine mxf_congr (fun k hk2 => ?_)
    have h1 := lsf_lt (f := D 19) hk2
    have h3 := dsf_le (D 19) n
    rw [(h2.2 k hk2).2, nI_clamp (by omega)]
abbrev SQC (j k : Nat) : Prop := SPf j k ∨ SLk j k
abbrev SXR (j k : Nat) : Prop := SXC j k ∨ (j = 281 ∧ k = 0)
def okPf (D : Dm) (T : Tb) (acc : Int32) (ts : Tst) (b : Nat) (ss : Tst) (a : Nat) : Prop := D 43 16 = 0 ∨ (D 43 16 = 1 ∧ PS D T acc ts b ss a)
/-- class and reference answer one thing; what is kept stays -/
def KP (b : Nat) (D1 D2 : Dm) : Prop := ∀ j k, (j = 296 ∨ j = 298) → D1 j k = nI b → D2 j k = nI b
theorem KP_of {D1 D2 : Dm} {b : Nat} (h : ∀ j k, (j = 296 ∨ j = 298) → D2 j k = D1 j k) : KP b D1 D2 := fun j k q e => by rw [h j k q, e]
theorem KP_z {D1 D2 : Dm} {b : Nat} (h : KP b (ud D1 281 0 0) D2) : KP b D1 D2 := fun j k q e => h j k q (by rw [ud_at, if_neg (by omega), e])
theorem KP.tr {D1 D2 D3 : Dm} {b : Nat} (h : KP b D1 D2) (h' : KP b D2 D3) : KP b D1 D3 := fun j k q e => h' j k q (h j k q e)
def EQ1 (D : Dm) (T : Tb) (acc : Int32) (ts : Tst) (b : Nat) (ss : Tst) (a : Nat) (f g : Dm → Option (Int32 × Dm)) : Prop := ∃ r D1 D2, f D = some (r, D1) ∧ g D1 = some (r, D2) ∧ Fr SQC D D1 ∧ okPf D1 T acc ts b ss a ∧ Fr SXR D1 D2 ∧ RS D2 T acc ts b ss a ∧ (D 43 16 = 1 → D1 43 16 = 1) ∧ KP b D1 D2
theorem RS.q {D' : Dm} (h : RS D T acc ts b ss a) (hF : Fr SQC D D') : RS D' T acc ts b ss a := h.fr (fun j k q => hF j k (by unfold SQC SPf SLk; omega))
theorem RS.z (h : RS D T acc ts b ss a) : RS (ud D 281 0 0) T acc ts b ss a := h.fr (fun j k q => by rw [ud_at, if_neg (by omega)])
theorem LCs.q {D' : Dm} (h : LCs D T acc ts b ss a) (hF : Fr SQC D D') : LCs D' T acc ts b ss a := h.fr (fun j k q => hF j k (by unfold SQC SPf SLk; omega))
theorem SXR_of {D' : Dm} (h : Fr SXC (ud D 281 0 0) D') : Fr SXR D D' := fun j k q => by
  rw [h j k (fun z => q (Or.inl z)), ud_at, if_neg (fun z => q (Or.inr z))]
theorem tooLong_ok {n : Nat} (hW : RW D n) (hI : isW D 17 n) : f_X11_isWordTooLong D = some (if n ≤ 6 ∧ dsf (D 19) n ≤ 4 then 0 else 1, D) := by
  have hn := hW.1
  have hd := dsf_le (D 19) n
  unfold f_X11_isWordTooLong f_X11_isWordTooLong_23
  rw [hI.2.1, hI.2.2.1]
  show (if nI 6 < nI n then _ else if nI (dsf (D 19) n) ≤ nI 4 then _ else _) = _
  by_cases c : n ≤ 6
  · rw [if_neg (nI_nlt c (by omega))]
    by_cases c2 : dsf (D 19) n ≤ 4
    · rw [if_pos (nI_le c2 (by omega)), if_pos ⟨c, c2⟩]
    · rw [if_neg (nI_nle2 (by omega) (by omega)), if_neg (fun q => c2 q.2)]
  · rw [if_pos (nI_lt (by omega) (by omega)), if_neg (fun q => c q.1)]
theorem isLong_ok {n M : Nat} {l : List Lt} (hK : LKm D l M) (h36 : D 281 36 = nI n) (hn : n ≤ 12) (hM : M ≤ 12) : f_X12_isLong D = some (if n ≤ 6 ∧ M ≤ 4 then 0 else 1, D) := by
  unfold f_X12_isLong f_X12_isLong_26
  rw [hK.names, bI_d, h36]
  show (if nI 6 < nI n then _ else if nI M ≤ nI 4 then _ else _) = _
  by_cases c : n ≤ 6
  · rw [if_neg (nI_nlt c (by omega))]
    by_cases c2 : M ≤ 4
    · rw [if_pos (nI_le c2 (by omega)), if_pos ⟨c, c2⟩]
    · rw [if_neg (nI_nle2 (by omega) (by omega)), if_neg (fun q => c2 q.2)]
  · rw [if_pos (nI_lt (by omega) (by omega)), if_neg (fun q => c q.1)]
theorem RWfr {D' : Dm} {n : Nat} (hW : RW D n) (hF : ∀ j k, ((17 ≤ j ∧ j ≤ 20) ∨ j = 285 ∨ j = 286 ∨ (j = 281 ∧ k = 18)) → D' j k = D j k) : RW D' n ∧ (isW D 17 n → isW D' 17 n) ∧ twl D' n = twl D n ∧ D' 19 = D 19 := by
  have e : D' 19 = D 19 := funext (fun k => hF _ _ (by omega))
  have e8 : D' 18 = D 18 := funext (fun k => hF _ _ (by omega))
  refine ⟨⟨hW.1, by rw [hF _ _ (by omega)]; exact hW.2.1, by rw [hF _ _ (by omega)]; exact hW.2.2.1, fun k hk => ?_⟩, fun h => isW_congr h (hF _ _ (by omega)) (hF _ _ (by omega)) (fun k _ => hF _ _ (by omega)) (fun k _ => hF _ _ (by omega)), by unfold twl; rw [e, e8], e⟩
  rw [hF _ _ (by omega), hF 18 _ (by omega), hF 286 _ (by omega), hF 19 _ (by omega)]
  exact hW.2.2.2 k hk
theorem remembered_eq (h : LCs D T acc ts b ss a) (hR : RS D T acc ts b ss a) (hP : okPf D T acc ts b ss a) {n : Nat} (hW : RW D n) (hI : isW D 17 n) : EQ1 D T acc ts b ss a f_X11_remembered f_X12_remembered := by
  have hn := hW.1
  have hd := dsf_le (D 19) n
  have ref : ∀ D1 : Dm, Fr SLk D D1 → Y (f_X12_remembered D1) (fun r => r.1 = (if n ≤ 6 ∧ dsf (D 19) n ≤ 4 then nI (bts (kpN T acc ts b (run T c0 (twl D n)))) else -4) ∧ Fr SXR D1 r.2 ∧ RS r.2 T acc ts b ss a ∧ KP b D1 r.2) := by
    intro D1 hF
    have hR1 := (hR.fr (D' := D1) (fun j k q => hF j k (by unfold SLk; omega))).z
    obtain ⟨w1, -, w3, w4⟩ := RWfr (D' := ud D1 281 0 0) hW (fun j k q => by rw [ud_at, if_neg (by omega), hF j k (by unfold SLk; omega)])
    unfold f_X12_remembered
    rw [lt_d]
    have tt := tt_ok w1
    rw [w3, w4] at tt
    refine yBV tt (fun D2 h2 => ?_)
    obtain ⟨hF2, hK2, h36⟩ := h2
    rw [isLong_ok hK2 h36 hn (by omega), bI_d]
    have hR2 : RS D2 T acc ts b ss a := hR1.fr (fun j k q => hF2 j k (by omega))
    have hFx : Fr SXC (ud D1 281 0 0) D2 := hF2.mono (fun j k q => by unfold SXC; omega)
    by_cases c : n ≤ 6 ∧ dsf (D 19) n ≤ 4
    · rw [if_pos c, if_pos c]
      refine yPos rfl ?_
      have rk := remembers_kp (T := T) (acc := acc) (ts := ts) (b := b) (fm := 0) (M := dsf (D 19) n) (by omega) hR2.1 hR2.2.1 hK2 (Nat.zero_le _)
      have e0 : kpN T acc ts 0 (run T c0 (twl D n)) = [] := by
        unfold kpN shE1 shn
        simp
      rw [e0, show nI (bts []) = 0 from nI_0, nI_0] at rk
      refine yBI rk (fun r D3 h3 => yRet ?_)
      dsimp only at h3 ⊢
      refine ⟨h3.2, SXR_of (hFx.tr (h3.1.mono (fun j k q => by unfold SRM at q; unfold SXC; omega))), hR2.fr (fun j k q => h3.1 j k (by unfold SRM; omega)), KP_of (fun j k q => by rw [h3.1 j k (by unfold SRM; omega), hF2 j k (by omega), ud_at, if_neg (by omega)])⟩
    · rw [if_neg c, if_neg c]
      exact yNeg (by decide) (yRet ⟨rfl, SXR_of hFx, hR2, KP_of (fun j k q => by show D2 j k = _; rw [hF2 j k (by omega), ud_at, if_neg (by omega)])⟩)
  unfold EQ1 f_X11_remembered
  rw [tooLong_ok hW hI, bI_d]
  by_cases c : n ≤ 6 ∧ dsf (D 19) n ≤ 4
  · obtain ⟨D1, e1, hF1, hp1⟩ := la17_ok h hW hI (show dsf (D 19) n < 5 by omega)
    obtain ⟨⟨r, D2⟩, e2, er, hF2, hR2, hk2⟩ := ref D1 hF1
    dsimp only at er hF2 hR2 hk2
    rw [if_pos c] at er
    refine ⟨r, D1, D2, ?_, e2, hF1.mono (fun j k q => Or.inr q), ?_, hF2, hR2, fun q => by rw [hF1 _ _ (by unfold SLk; omega)]; exact q, hk2⟩
    · rw [if_pos c, if_pos rfl, e1, bV_d, keptBits_ok hp1.k (show dsf (D 19) n < 5 by omega) (kpN_in (by omega) (twl_c hW h.1.wfT).2), bI_d, er]
    · rcases hP with q | ⟨q1, q2⟩
      · exact Or.inl (by rw [hF1 _ _ (by unfold SLk; omega)]; exact q)
      · exact Or.inr ⟨by rw [hF1 _ _ (by unfold SLk; omega)]; exact q1, q2.fr (by have := h.2.2.1; omega) (fun j k z1 z2 z3 => hF1 j k (by unfold SLk; omega))⟩
  · obtain ⟨⟨r, D2⟩, e2, er, hF2, hR2, hk2⟩ := ref D Fr.refl
    dsimp only at er hF2 hR2 hk2
    rw [if_neg c] at er
    refine ⟨r, D, D2, ?_, e2, Fr.refl, hP, hF2, hR2, fun q => q, hk2⟩
    rw [if_neg c, if_neg (by decide), er]
theorem isShort_c {x : Int32} (h : D 43 4 = nI a) (ha : a ≤ 10) : f_X3_isShort x D = some (if 0 ≤ x.toInt ∧ x.toInt < a then 1 else 0, D) := by
  unfold f_X3_isShort
  rw [h]
  by_cases c : x < 0
  · rw [if_pos c, if_neg]
    rw [lt0] at c; omega
  · rw [if_neg c]
    rw [lt0] at c
    by_cases c2 : nI a ≤ x
    · rw [if_pos c2, if_neg]
      rw [Int32.le_iff_toInt_le, nI_toInt (by omega)] at c2; omega
    · rw [if_neg c2, if_pos]
      rw [Int32.le_iff_toInt_le, nI_toInt (by omega)] at c2; omega
theorem registers_eq (h : LCs D T acc ts b ss a) (hR : RS D T acc ts b ss a) (hP : okPf D T acc ts b ss a) (x1 : Int32) : EQ1 D T acc ts b ss a (f_X11_registers x1) (f_X12_registers x1) := by
  have ha := h.2.2.1
  unfold EQ1 f_X11_registers
  rw [isShort_c h.2.2.2.1 ha.2, bI_d]
  by_cases c : 0 ≤ x1.toInt ∧ x1.toInt < a
  · obtain ⟨u, hu, rfl⟩ := clt c (by omega)
    rw [if_pos c, if_neg (by decide)]
    obtain ⟨D1, e1, hF1, p1, p2⟩ := lsw_ok h hP
    have hFq : Fr SQC D D1 := hF1.mono (fun j k q => Or.inl q)
    obtain ⟨⟨r, D2⟩, e2, er, hR2, hF2, h6, hk2⟩ := hasShort_ok (hR.q hFq).z hu
    dsimp only at er hR2 hF2 h6 hk2
    have hk3 : KP b (ud D1 281 0 0) D2 := fun j k q e => by
      rcases q with rfl | rfl
      · rw [hk2 296 k (Or.inr (Or.inr (Or.inr (Or.inr (Or.inr ⟨rfl, e⟩)))))]; exact e
      · rw [hk2 298 k (Or.inr (Or.inl rfl))]; exact e
    have hd := (h.2.2.sy hu).1
    refine ⟨r, D1, D2, ?_, ?_, hFq, Or.inr ⟨p1, p2⟩, SXR_of hF2, hR2, fun _ => p1, KP_z hk3⟩
    · rw [e1, bV_d, gd_t (inB_nI (by omega) (by omega)), nI_clamp (by omega), ar45 u (by omega), keptBits_ok (p2 u hu).k (show (ss u).2 < 5 by omega) (kpN_in (by omega) (h.2.2.cu h.1.wfT hu).2), bI_d, er]
    · unfold f_X12_registers
      rw [lt_d, isInN ((hR.q hFq).z.2.2.1.2.1) (by omega), bI_d, if_pos c, if_neg (by decide), e2, bI_d]
  · refine ⟨-2, D, ud D 281 0 0, ?_, ?_, Fr.refl, hP, SXR_of Fr.refl, hR.z, fun q => q, KP_z (fun j k q e => e)⟩
    · rw [if_neg c, if_pos rfl]
    · unfold f_X12_registers
      rw [lt_d, isInN (hR.z.2.2.1.2.1) (by omega), bI_d, if_neg c, if_pos rfl]
end
