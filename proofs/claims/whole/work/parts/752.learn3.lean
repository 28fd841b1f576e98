section
variable {D : Dm} {T : Tb} {acc : Int32} {ts ss : Tst} {b a : Nat}
theorem wy_3 {c c' : Cf} {l l' : List Nat} : wyL T acc ts b c l c' l' = -1 ∨ (l.length = l'.length ∧ (wyL T acc ts b c l c' l' = 0 ∨ (wyL T acc ts b c l c' l' = 1 ∧ l.length = 2))) := by
  unfold wyL
  split
  · rename_i e
    split
    · exact Or.inr ⟨e, Or.inl rfl⟩
    · split
      · rename_i q; exact Or.inr ⟨e, Or.inr ⟨rfl, q.1⟩⟩
      · exact Or.inl rfl
  · exact Or.inl rfl
/-- a way, told -/
def twy (l : List Nat) (w : Int32) : Int32 := if w = -1 then -1 else if l.length = 2 then (if w = 0 then 12 else 21) else nI l.length
theorem tell_ok {r1 : Nat} {c c' : Cf} (hb : b ≤ 10) (h : PR D 46 T acc ts b c) (h' : PR D r1 T acc ts b c') (hl : (kpN T acc ts b c).length ≤ 2) (hl' : (kpN T acc ts b c').length ≤ 2) : f_X6_tellWay 46 r1 D = some (twy (kpN T acc ts b c) (wyL T acc ts b c (kpN T acc ts b c) c' (kpN T acc ts b c')), D) := by
  unfold f_X6_tellWay twy
  rw [way_ok hb h h' hl hl', bI_d, h.k.1]
  by_cases e : wyL T acc ts b c (kpN T acc ts b c) c' (kpN T acc ts b c') = -1
  · rw [if_pos e, if_pos e]
  · rw [if_neg e, if_neg e]
    by_cases e2 : (kpN T acc ts b c).length = 2
    · rw [if_pos e2, if_pos (by rw [e2]; decide)]
      split <;> rfl
    · rw [if_neg e2, if_neg (show ¬ (2 : Int32) ≤ nI _ from nI_nle2 (b := 2) (by omega) (by omega))]
theorem al65 {M : Nat} {l : List Nat} (hM : M < 5) (hl : l ∈ hss M) {w : Int32} (hw : w = 0 ∨ (w = 1 ∧ l.length = 2)) : f_X12_alike_65 FU (nI (bts l)) w 0 0 D = some (twy l w, D) := by
  have h2 := (hss_in M hM l hl).1
  have bl1 := bits_l (D := D) hM hl
  obtain ⟨q, hq⟩ := FUs 3 (by omega)
  rw [hq, show 3 + 1 + q = (q + 1) + 1 + 1 + 1 by omega]
  have stp : ∀ (f : Nat) (v : Int32) (i : Nat), i < 3 → f_X12_alike_65 (f + 1) (nI (bts l)) w v (nI i) D = if l.length ≤ i then some (v, D) else f_X12_alike_65 f (nI (bts l)) w (10 * v + 1 + if w = 0 then nI i else 1 - nI i) (nI (i + 1)) D := by
    intro f v i hi
    show f_X12_alike_65_b _ _ _ _ _ _ = _
    unfold f_X12_alike_65_b f_X12_alike_94
    rw [bl1, bI_d, lt_d, lt_d, lt_d, lt_d, nI_1]
    by_cases c : l.length ≤ i
    · rw [if_pos c, if_pos (nI_le c (by omega))]
    · rw [if_neg c, if_neg (nI_nle2 (by omega) (by omega))]
      by_cases cw : w = 0
      · rw [if_pos cw, if_pos cw]
      · rw [if_neg cw, if_neg cw]
  have hwn : w ≠ -1 := by rcases hw with rfl | ⟨rfl, -⟩ <;> decide
  have h3 : l.length = 0 ∨ l.length = 1 ∨ l.length = 2 := by omega
  rw [show f_X12_alike_65 (q + 1 + 1 + 1 + 1) (nI (bts l)) w 0 0 D = f_X12_alike_65 (q + 1 + 1 + 1 + 1) (nI (bts l)) w 0 (nI 0) D by rw [nI_0]]
  unfold twy
  rw [if_neg hwn]
  rcases h3 with e | e | e
  · rw [e] at stp ⊢
    rw [stp _ _ _ (by omega), if_pos (show 0 ≤ 0 by omega), if_neg (show ¬ (0 = 2) by omega), nI_0]
  · rw [e] at stp ⊢
    rw [stp _ _ _ (by omega), if_neg (show ¬ (1 ≤ 0) by omega), stp _ _ _ (by omega), if_pos (show 1 ≤ 0 + 1 by omega), if_neg (show ¬ (1 = 2) by omega)]
    rcases hw with rfl | ⟨-, q⟩
    · rfl
    · omega
  · rw [e] at stp ⊢
    rw [stp _ _ _ (by omega), if_neg (show ¬ (2 ≤ 0) by omega), stp _ _ _ (by omega), if_neg (show ¬ (2 ≤ 0 + 1) by omega), stp _ _ _ (by omega), if_pos (show 2 ≤ 0 + 1 + 1 by omega), if_pos (show 2 = 2 from rfl)]
    rcases hw with rfl | ⟨rfl, -⟩
    · rfl
    · rfl
theorem alike_eq (h : LCs D T acc ts b ss a) (hR : RS D T acc ts b ss a) (hP : okPf D T acc ts b ss a) {n : Nat} (hW : RW D n) (hI : isW D 17 n) (x1 : Int32) : EQ1 D T acc ts b ss a (f_X11_alike x1) (f_X12_alike x1) := by
  have hn := hW.1
  have hd := dsf_le (D 19) n
  have ha := h.2.2.1
  unfold EQ1 f_X11_alike
  rw [isShort_c h.2.2.2.1 ha.2, bI_d]
  by_cases c : 0 ≤ x1.toInt ∧ x1.toInt < a
  · obtain ⟨u, hu, rfl⟩ := clt c (by omega)
    rw [if_pos c, if_neg (by decide), tooLong_ok hW hI, bI_d]
    have ref : ∀ D1 : Dm, Fr SQC D D1 → Y (f_X12_alike (nI u) D1) (fun r => r.1 = (if n ≤ 6 ∧ dsf (D 19) n ≤ 4 then twy (kpN T acc ts b (run T c0 (twl D n))) (wyL T acc ts b (run T c0 (twl D n)) (kpN T acc ts b (run T c0 (twl D n))) (cu T ss u) (kpN T acc ts b (cu T ss u))) else -4) ∧ Fr SXR D1 r.2 ∧ RS r.2 T acc ts b ss a ∧ KP b D1 r.2) := by
      intro D1 hF
      have hR1 := (hR.q hF).z
      obtain ⟨w1, -, w3, w4⟩ := RWfr (D' := ud D1 281 0 0) hW (fun j k q => by rw [ud_at, if_neg (by omega), hF j k (by unfold SQC SPf SLk; omega)])
      unfold f_X12_alike
      rw [lt_d, isInN (hR1.2.2.1.2.1) (by omega), bI_d, if_pos c]
      have tt := tt_ok w1
      rw [w3, w4] at tt
      refine yNeg (by decide) (yBV tt (fun D2 h2 => ?_))
      obtain ⟨hF2, hK2, h36⟩ := h2
      rw [isLong_ok hK2 h36 hn (by omega), bI_d]
      have hR2 : RS D2 T acc ts b ss a := hR1.fr (fun j k q => hF2 j k (by omega))
      have hFx : Fr SXC (ud D1 281 0 0) D2 := hF2.mono (fun j k q => by unfold SXC; omega)
      by_cases cc : n ≤ 6 ∧ dsf (D 19) n ≤ 4
      · rw [if_pos cc, if_pos cc]
        refine yPos rfl ?_
        have rk := remembers_kp (T := T) (acc := acc) (ts := ts) (b := b) (fm := 0) (M := dsf (D 19) n) (by omega) hR2.1 hR2.2.1 hK2 (Nat.zero_le _)
        have e0 : kpN T acc ts 0 (run T c0 (twl D n)) = [] := by
          unfold kpN shE1 shn
          simp
        rw [e0, show nI (bts []) = 0 from nI_0, nI_0] at rk
        refine yBI rk (fun r D3 h3 => ?_)
        dsimp only at h3
        obtain ⟨hF3, er⟩ := h3
        have hkin : kpN T acc ts b (run T c0 (twl D n)) ∈ hss (dsf (D 19) n) := kpN_in (by omega) (twl_c hW h.1.wfT).2
        have hR3 : RS D3 T acc ts b ss a := hR2.fr (fun j k q => hF3 j k (by unfold SRM; omega))
        have hK3 : LKm D3 (twl D n) (dsf (D 19) n) := hK2.fr (hF3 _ _ (by unfold SRM; omega)) (fun j k q => hF3 j k (by unfold SRM; omega))
        have hF3' : Fr SXC (ud D1 281 0 0) D3 := hFx.tr (hF3.mono (fun j k q => by unfold SRM at q; unfold SXC; omega))
        rw [er]
        refine yBI (rwayTo_ok hR3 hu hK3 (by omega) hkin) (fun w D4 h4 => ?_)
        dsimp only at h4
        obtain ⟨ew, hR4, hF4, -, hk4⟩ := h4
        have hF4' := hF3'.tr hF4
        have hk3 : KP b D1 D3 := KP_of (fun j k q => by rw [hF3 j k (by unfold SRM; omega), hF2 j k (by omega), ud_at, if_neg (by omega)])
        have hk5 : KP b D1 D4 := hk3.tr (fun j k q e => by
          rcases q with rfl | rfl
          · rw [hk4 296 k (Or.inr (Or.inr ⟨rfl, e⟩))]; exact e
          · rw [hk4 298 k (Or.inr (Or.inl rfl))]; exact e)
        refine yIte (fun e => yRet ⟨?_, SXR_of hF4', hR4, hk5⟩) (fun e => ?_)
        · show -1 = twy _ _
          unfold twy; rw [← ew, if_pos e]
        · rw [al65 (M := dsf (D 19) n) (by omega) hkin (by
            rcases wy_3 (T := T) (acc := acc) (ts := ts) (b := b) (c := run T c0 (twl D n)) (c' := cu T ss u) (l := kpN T acc ts b (run T c0 (twl D n))) (l' := kpN T acc ts b (cu T ss u)) with q | ⟨-, q⟩
            · exact absurd (ew.trans q) e
            · rw [← ew] at q; exact q)]
          exact yRet ⟨by rw [ew], SXR_of hF4', hR4, hk5⟩
      · rw [if_neg cc, if_neg cc]
        exact yNeg (by decide) (yRet ⟨rfl, SXR_of hFx, hR2, KP_of (fun j k q => by show D2 j k = _; rw [hF2 j k (by omega), ud_at, if_neg (by omega)])⟩)
    by_cases cc : n ≤ 6 ∧ dsf (D 19) n ≤ 4
    · obtain ⟨D1, e1, hF1, p1, p2⟩ := lsw_ok h hP
      have hFq : Fr SQC D D1 := hF1.mono (fun j k q => Or.inl q)
      have h1 := h.q hFq
      obtain ⟨w1, wI, w3, w4⟩ := RWfr (D' := D1) hW (fun j k q => hFq j k (by unfold SQC SPf SLk; omega))
      obtain ⟨D2, e2, hF2, hp2⟩ := la17_ok h1 w1 (wI hI) (by rw [w4]; omega)
      rw [w3] at hp2
      have hFq2 : Fr SQC D D2 := hFq.tr (hF2.mono (fun j k q => Or.inr q))
      have p2' : PS D2 T acc ts b ss a := p2.fr ha.2 (fun j k z1 z2 z3 => hF2 j k (by unfold SLk; omega))
      obtain ⟨⟨r, D3⟩, e3, er, hF3, hR3, hk3⟩ := ref D2 hFq2
      dsimp only at er hF3 hR3 hk3
      rw [if_pos cc] at er
      have hdu := (h.2.2.sy hu).1
      have l1 := (hss_in _ (show dsf (D 19) n < 5 by omega) _ (kpN_in (T := T) (acc := acc) (ts := ts) (b := b) (show dsf (D 19) n < 5 by omega) (twl_c hW h.1.wfT).2)).1
      have l2 := (hss_in _ (show (ss u).2 < 5 by omega) _ (kpN_in (T := T) (acc := acc) (ts := ts) (b := b) (show (ss u).2 < 5 by omega) (h.2.2.cu h.1.wfT hu).2)).1
      refine ⟨r, D2, D3, ?_, e3, hFq2, Or.inr ⟨by rw [hF2 _ _ (by unfold SLk; omega)]; exact p1, p2'⟩, hF3, hR3, fun _ => by rw [hF2 _ _ (by unfold SLk; omega)]; exact p1, hk3⟩
      rw [if_pos cc, if_pos rfl, e1, bV_d, e2, bV_d, gd_t (inB_nI (by omega) (by omega)), nI_clamp (by omega), ar45 u (by omega), tell_ok h.2.1.1 hp2 (p2' u hu) l1 l2, bI_d, er]
    · obtain ⟨⟨r, D3⟩, e3, er, hF3, hR3, hk3⟩ := ref D Fr.refl
      dsimp only at er hF3 hR3 hk3
      rw [if_neg cc] at er
      refine ⟨r, D, D3, ?_, e3, Fr.refl, hP, hF3, hR3, fun q => q, hk3⟩
      rw [if_neg cc, if_neg (by decide), er]
  · refine ⟨-2, D, ud D 281 0 0, ?_, ?_, Fr.refl, hP, SXR_of Fr.refl, hR.z, fun q => q, KP_z (fun j k q e => e)⟩
    · rw [if_neg c, if_pos rfl]
    · unfold f_X12_alike
      rw [lt_d, isInN (hR.z.2.2.1.2.1) (by omega), bI_d, if_neg c, if_pos rfl]
theorem isInM {x m : Int32} {n : Nat} (h : m = nI n) (hn : n < 2 ^ 31) : f_X12_isIn (Int32.toInt64 x) 0 (Int32.toInt64 m) D = some (if 0 ≤ x.toInt ∧ x.toInt ≤ n then 1 else 0, D) := isIn_i (l := 0) (h := (n : Int)) rfl (t64 (by rw [h, nI_toInt hn]))
theorem goes_eq (h : LCs D T acc ts b ss a) (hR : RS D T acc ts b ss a) (hP : okPf D T acc ts b ss a) {Z : Nat} (hY : D 9 2 = nI Z) (hY2 : D 282 2 = nI Z) (hZ : Z ≤ 2) (x1 x2 x3 : Int32) : EQ1 D T acc ts b ss a (f_X11_goes x1 x2 x3) (f_X12_goes x1 x2 x3) := by
  have ha := h.2.2.1
  unfold EQ1 f_X11_goes
  rw [isShort_c h.2.2.2.1 ha.2, bI_d]
  have no : ∀ v, f_X12_goes x1 x2 x3 D = some (v, ud D 281 0 0) → ∀ f : Option (Int32 × Dm), f = some (v, D) → ∃ r D1 D2, f = some (r, D1) ∧ f_X12_goes x1 x2 x3 D1 = some (r, D2) ∧ Fr SQC D D1 ∧ okPf D1 T acc ts b ss a ∧ Fr SXR D1 D2 ∧ RS D2 T acc ts b ss a ∧ (D 43 16 = 1 → D1 43 16 = 1) ∧ KP b D1 D2 := fun v e f ef => ⟨v, D, _, ef, e, Fr.refl, hP, SXR_of Fr.refl, hR.z, fun q => q, KP_z (fun j k q e => e)⟩
  have i27 := isInN (x := x1) (D := ud D 281 0 0) (hR.z.2.2.1.2.1) (by omega)
  have iY : f_X12_its 0 2 (ud D 281 0 0) = some (nI Z, ud D 281 0 0) := by rw [its_ok (k := 2) (q := 2) mc0 rfl (by omega), show ud D 281 0 0 282 (94 * 0 + 2) = nI Z from hY2]
  have iS := isInN (x := x2) (a := nI Z) (n := Z) (D := ud D 281 0 0) rfl (by omega)
  by_cases c : 0 ≤ x1.toInt ∧ x1.toInt < a
  · obtain ⟨u, hu, rfl⟩ := clt c (by omega)
    rw [if_pos c, if_neg (by decide), hY]
    have e1r : f_X12_goes (nI u) x2 x3 D = bI (f_X12_isIn (Int32.toInt64 x2) 0 (Int32.toInt64 (nI Z - 1)) (ud D 281 0 0)) fun y12 D10 => if y12 = 0 then (some ((-2), D10)) else (bI (f_X12_namesOfShort (nI u) D10) fun y16 D14 => bI (f_X12_isIn (Int32.toInt64 x3) 0 (Int32.toInt64 y16) D14) fun y19 D17 => if y19 = 0 then (some ((-3), D17)) else (bI (f_X12_hasLong (nI u) x2 x3 D17) fun y23 D21 => bV (f_X12_takesLong (nI u) x2 x3 D21) fun D24 => bI (f_X12_likeOf y23 D24) fun y28 D26 => some (y28, D26))) := by
      unfold f_X12_goes
      rw [lt_d, i27, bI_d, if_pos c, if_neg (by decide), iY, bI_d]
    by_cases c2 : 0 ≤ x2.toInt ∧ x2.toInt < Z
    · obtain ⟨y, hy, rfl⟩ := clt c2 (by omega)
      rw [if_neg (nI_pos (by omega)), if_pos (nI_lt hy (by omega))]
      obtain ⟨n, hn, hw, -, ed, hd, -⟩ := h.2.2.2.2 u hu
      have hd4 : D (122 + 14 * u) 4 = nI (ss u).2 := by rw [ed]; exact hw.2.2.1
      rw [gd_t (inB_nI (by omega) (by omega)), nI_clamp (by omega), ar44 u (by omega), hd4]
      have iN := isInM (x := x3) (m := nI (ss u).2) (n := (ss u).2) (D := ud D 281 0 0) rfl (by omega)
      by_cases c3 : 0 ≤ x3.toInt ∧ x3.toInt ≤ (ss u).2
      · obtain ⟨k, hk, rfl⟩ : ∃ k, k ≤ (ss u).2 ∧ x3 = nI k := ⟨x3.toInt.toNat, by omega, nIt c3.1⟩
        rw [if_neg (nI_pos (by omega)), if_pos (nI_le hk (by omega))]
        obtain ⟨D1, e1, hF1, p1, p2⟩ := lsw_ok h hP
        have hFq : Fr SQC D D1 := hF1.mono (fun j k q => Or.inl q)
        have h1 := h.q hFq
        obtain ⟨D2, e2, hF2, hp2⟩ := lal_ok h1 hu (show y < 2 by omega) hk
        have hFq2 : Fr SQC D D2 := hFq.tr (hF2.mono (fun j k q => Or.inr q))
        have h2 := h.q hFq2
        have p2' : PS D2 T acc ts b ss a := p2.fr ha.2 (fun j k z1 z2 z3 => hF2 j k (by unfold SLk; omega))
        have hg := lgM_le hk
        have hcl := (h.2.2.cl (T := T) h.1.wfT hu (show y < 2 by omega) hk).2
        have hkin := kpN_in (T := T) (acc := acc) (ts := ts) (b := b) (show lgM (ss u).2 k < 5 by omega) hcl
        have l1 := (hss_in _ (show lgM (ss u).2 k < 5 by omega) _ hkin).1
        have hR2 := (hR.q hFq2).z
        obtain ⟨⟨r3, D3⟩, e3, er3, hR3, hF3, h38, hk3, hk3'⟩ := hasLong_ok hR2 hu (show y < 2 by omega) hk
        dsimp only at er3 hR3 hF3 h38 hk3 hk3'
        obtain ⟨D4, e4, hF4, hK4⟩ := takesLong_ok hR3.2.2.1 hu (isSy_n (show y < 2 by omega)) (show k < 1000 by omega)
        have hR4 : RS D4 T acc ts b ss a := hR3.fr (fun j k q => hF4 j k (by omega))
        have lo := likeOf_ok hR4 hK4 (show lgM (ss u).2 k < 5 by omega) hkin
        rw [lg_run] at lo
        obtain ⟨⟨r5, D5⟩, e5, er5, hR5, hF5, -, hk5⟩ := lo
        dsimp only at er5 hR5 hF5 hk5
        have kp3 : KP b (ud D2 281 0 0) D3 := fun j q z e => by
          rcases z with rfl | rfl
          · rw [hk3 296 q (Or.inr rfl)]; exact e
          · by_cases eq : q = 8 * u + 4 * y + k
            · rw [eq]; exact h38
            · rw [hk3' 298 q (Or.inr rfl) eq]; exact e
        have kp4 : KP b D3 D4 := KP_of (fun j q z => hF4 j q (by omega))
        have kp5 : KP b D4 D5 := fun j q z e => by
          rcases z with rfl | rfl
          · rw [hk5 296 q (Or.inr (Or.inr ⟨rfl, e⟩))]; exact e
          · rw [hk5 298 q (Or.inr (Or.inl rfl))]; exact e
        have hFF : Fr SXC (ud D2 281 0 0) D5 := hF3.tr ((hF4.mono (fun j k q => by unfold SXC; omega)).tr hF5)
        refine ⟨r5, D2, D5, ?_, ?_, hFq2, Or.inr ⟨by rw [hF2 _ _ (by unfold SLk; omega)]; exact p1, p2'⟩, SXR_of hFF, hR5, fun _ => by rw [hF2 _ _ (by unfold SLk; omega)]; exact p1, KP_z (kp3.tr (kp4.tr kp5))⟩
        · rw [e1, bV_d, e2, bV_d, fa_ok h2 p2' hp2 l1, bI_d, er5]
        · unfold f_X12_goes
          have iY2 : f_X12_its 0 2 (ud D2 281 0 0) = some (nI Z, ud D2 281 0 0) := by
            rw [its_ok (k := 2) (q := 2) mc0 rfl (by omega), show ud D2 281 0 0 282 (94 * 0 + 2) = nI Z by rw [ud_at, if_neg (by omega), hFq2 _ _ (by unfold SQC SPf SLk; omega)]; exact hY2]
          rw [lt_d, isInN (hR2.2.2.1.2.1) (by omega), bI_d, if_pos c, if_neg (by decide), iY2, bI_d, isInN (a := nI Z) (n := Z) rfl (by omega), bI_d, if_pos c2, if_neg (by decide), namesOfShort_ok hR2.2.2.1 hu, bI_d, isInM rfl (by omega), bI_d, if_pos c3, if_neg (by decide), e3, bI_d, e4, bV_d, er3, e5, bI_d]
      · have er : f_X12_goes (nI u) (nI y) x3 D = some (-3, ud D 281 0 0) := by
          rw [e1r, iS, bI_d, if_pos c2, if_neg (by decide), namesOfShort_ok hR.z.2.2.1 hu, bI_d, iN, bI_d, if_neg c3, if_pos rfl]
        refine no (-3) er _ ?_
        by_cases c4 : x3 < 0
        · rw [if_pos c4]
        · rw [if_neg c4, if_neg]
          intro q
          rw [lt0] at c4
          rw [Int32.le_iff_toInt_le, nI_toInt (by omega)] at q
          omega
    · have er : f_X12_goes (nI u) x2 x3 D = some (-2, ud D 281 0 0) := by
        rw [e1r, iS, bI_d, if_neg c2, if_pos rfl]
      refine no (-2) er _ ?_
      by_cases c4 : x2 < 0
      · rw [if_pos c4]
      · rw [if_neg c4, if_neg]
        intro q
        rw [lt0] at c4
        rw [Int32.lt_iff_toInt_lt, nI_toInt (by omega)] at q
        omega
  · have er : f_X12_goes x1 x2 x3 D = some (-2, ud D 281 0 0) := by
      unfold f_X12_goes
      rw [lt_d, i27, bI_d, if_neg c, if_pos rfl]
    refine no (-2) er _ ?_
    rw [if_neg c, if_pos rfl]
/-- sums of short words -/
theorem lw_loop (h : SC D ss a) (hP : PS D T acc ts b ss a) {Z : Nat} (hY : D 9 2 = nI Z) : ∀ (j i m : Nat), i + j = a → f_X3_countLongWords_8 (j + 1 + m) (sI (fun u => nI (Z * ((kpN T acc ts b (cu T ss u)).length + 1))) i) (nI i) D = some (sI (fun u => nI (Z * ((kpN T acc ts b (cu T ss u)).length + 1))) a, D) := by
  have ha := h.1
  intro j
  induction j with
  | zero =>
    intro i m hi
    have hi : i = a := by omega
    rw [show 0 + 1 + m = m + 1 by omega]
    show f_X3_countLongWords_8_b _ _ _ _ = _
    unfold f_X3_countLongWords_8_b
    rw [hi, h.2.1, if_pos (nI_le (Nat.le_refl _) (by omega))]
  | succ j ih =>
    intro i m hi
    rw [show j + 1 + 1 + m = (j + 1 + m) + 1 by omega]
    show f_X3_countLongWords_8_b _ _ _ _ = _
    unfold f_X3_countLongWords_8_b
    rw [h.2.1, if_neg (nI_nle2 (by omega) (by omega)), gd_t (inB_nI (by omega) (by omega)), nI_clamp (by omega), ar45 i (by omega), (hP i (by omega)).k.1, hY, lt_d, lt_d, nI_1, nI_1, nI_mul]
    exact ih (i + 1) m (by omega)
theorem ca4_loop (hR : RS D T acc ts b ss a) {Z : Nat} (hY2 : D 282 2 = nI Z) : ∀ (j i m : Nat) (D1 : Dm), i + j = a → RS D1 T acc ts b ss a → Fr SXC D D1 → KP b D D1 → Y (f_X12_countAll_4 (j + 1 + m) 4 (sI (fun u => nI (Z * ((kpN T acc ts b (cu T ss u)).length + 1))) i) (nI i) D1) (fun r => r.1 = sI (fun u => nI (Z * ((kpN T acc ts b (cu T ss u)).length + 1))) a ∧ Fr SXC D r.2 ∧ RS r.2 T acc ts b ss a ∧ KP b D r.2) := by
  have ha := hR.2.2.1.1
  intro j
  induction j with
  | zero =>
    intro i m D1 hi hR1 hF hkp
    have hi : i = a := by omega
    rw [show 0 + 1 + m = m + 1 by omega]
    show Y (f_X12_countAll_4_b _ _ _ _ _) _
    unfold f_X12_countAll_4_b
    rw [hi, hR1.2.2.1.2.1]
    exact yPos (nI_le (Nat.le_refl _) (by omega)) (yRet ⟨rfl, hF, hR1, hkp⟩)
  | succ j ih =>
    intro i m D1 hi hR1 hF hkp
    rw [show j + 1 + 1 + m = (j + 1 + m) + 1 by omega]
    show Y (f_X12_countAll_4_b _ _ _ _ _) _
    unfold f_X12_countAll_4_b f_X12_countAll_66
    have hu : i < a := by omega
    have iY : f_X12_its 0 2 D1 = some (nI Z, D1) := by
      rw [its_ok (k := 2) (q := 2) mc0 rfl (by omega), show D1 282 (94 * 0 + 2) = nI Z by rw [hF _ _ (by unfold SXC; omega)]; exact hY2]
    rw [hR1.2.2.1.2.1]
    refine yNeg (nI_nle2 (by omega) (by omega)) (yNeg (by decide) (yNeg (by decide) ?_))
    rw [iY, bI_d]
    refine yBI (hasShort_ok hR1 hu) (fun r D2 h2 => ?_)
    dsimp only at h2
    obtain ⟨er, hR2, hF2, -, hk2⟩ := h2
    have hk3 : KP b D1 D2 := fun j k q e => by
      rcases q with rfl | rfl
      · rw [hk2 296 k (Or.inr (Or.inr (Or.inr (Or.inr (Or.inr ⟨rfl, e⟩)))))]; exact e
      · rw [hk2 298 k (Or.inr (Or.inl rfl))]; exact e
    have hd := (hR.2.2.1.sy hu).1
    rw [er, bits_l (M := (ss i).2) (by omega) (kpN_in (by omega) (hR.2.2.1.cu hR.1.1 hu).2), bI_d, lt_d, lt_d, nI_1, show (1 : Int32) + nI (kpN T acc ts b (cu T ss i)).length = nI (1 + (kpN T acc ts b (cu T ss i)).length) from nI_add 1 _, nI_mul, show 1 + (kpN T acc ts b (cu T ss i)).length = (kpN T acc ts b (cu T ss i)).length + 1 by omega]
    exact ih (i + 1) m D2 (by omega) hR2 (hF.tr hF2) (hkp.tr hk3)
theorem isGood_ok (hR : RS D T acc ts b ss a) {u : Nat} (hu : u < a) : Y (f_X12_isGood (nI u) D) (fun r => r.1 = b01 (tk acc (cu T ss u)) ∧ Fr SP2 D r.2) := by
  have ha := hR.2.2.1.1
  unfold f_X12_isGood
  refine yNeg (nI_n1 (by omega)) (yBV (runsShort_ok hR.1 hR.2.2.1 hu) (fun D1 h1 => ?_))
  obtain ⟨hF1, hP⟩ := h1
  have e49 : D1 281 49 = (cu T ss u).1 := by rw [← hP]; rfl
  have iA : f_X12_its 0 3 D1 = some (acc, D1) := by
    rw [its_ok (k := 3) (q := 3) mc0 rfl (by omega), show D1 282 (94 * 0 + 3) = acc by rw [hF1 _ _ (by unfold SP2; omega)]; exact hR.1.2.2]
  rw [e49, iA]
  unfold tk
  refine yIte (fun e => yRet ⟨?_, hF1⟩) (fun e => ?_)
  · rw [decide_eq_false (fun q => q e)]; rfl
  · rw [bI_d, decide_eq_true e, Bool.true_and, e49]
    rcases bit1 (acc >>> ((cu T ss u).1 &&& 31)) with q | q
    · exact yNeg (by rw [q]; decide) (yRet ⟨by rw [q]; rfl, hF1⟩)
    · exact yPos q (yRet ⟨by rw [q]; rfl, hF1⟩)
theorem ts_loop (h : LCs D T acc ts b ss a) (hP : PS D T acc ts b ss a) : ∀ (j i m : Nat), i + j = a → f_X3_countTakenShorts_8 (j + 1 + m) (sI (fun u => b01 (tk acc (cu T ss u))) i) (nI i) D = some (sI (fun u => b01 (tk acc (cu T ss u))) a, D) := by
  have ha := h.2.2.1
  intro j
  induction j with
  | zero =>
    intro i m hi
    have hi : i = a := by omega
    rw [show 0 + 1 + m = m + 1 by omega]
    show f_X3_countTakenShorts_8_b _ _ _ _ = _
    unfold f_X3_countTakenShorts_8_b
    rw [hi, h.2.2.2.1, if_pos (nI_le (Nat.le_refl _) (by omega))]
  | succ j ih =>
    intro i m hi
    rw [show j + 1 + 1 + m = (j + 1 + m) + 1 by omega]
    show f_X3_countTakenShorts_8_b _ _ _ _ = _
    unfold f_X3_countTakenShorts_8_b f_X3_countTakenShorts_38
    rw [h.2.2.2.1, if_neg (nI_nle2 (by omega) (by omega)), gd_t (inB_nI (by omega) (by omega)), nI_clamp (by omega), ar45 i (by omega), h.1.takes, bI_d, (hP i (by omega)).h.1, lt_d, lt_d, lt_d, nI_1]
    rw [← ih (i + 1) m (by omega)]
    show _ = f_X3_countTakenShorts_8 _ (sI _ i + b01 (tk acc (cu T ss i))) _ _
    cases tk acc (cu T ss i)
    · rw [if_pos (show b01 false = 0 from rfl), show b01 false = 0 from rfl, Int32.add_zero]
    · rw [if_neg (show ¬ b01 true = 0 by decide)]; rfl
theorem ca6_loop (hR : RS D T acc ts b ss a) : ∀ (j i m : Nat) (D1 : Dm), i + j = a → Fr SP2 D D1 → Y (f_X12_countAll_4 (j + 1 + m) 6 (sI (fun u => b01 (tk acc (cu T ss u))) i) (nI i) D1) (fun r => r.1 = sI (fun u => b01 (tk acc (cu T ss u))) a ∧ Fr SP2 D r.2) := by
  have ha := hR.2.2.1.1
  intro j
  induction j with
  | zero =>
    intro i m D1 hi hF
    have hi : i = a := by omega
    rw [show 0 + 1 + m = m + 1 by omega]
    show Y (f_X12_countAll_4_b _ _ _ _ _) _
    unfold f_X12_countAll_4_b
    rw [hi, hF _ _ (by unfold SP2; omega), hR.2.2.1.2.1]
    exact yPos (nI_le (Nat.le_refl _) (by omega)) (yRet ⟨rfl, hF⟩)
  | succ j ih =>
    intro i m D1 hi hF
    rw [show j + 1 + 1 + m = (j + 1 + m) + 1 by omega]
    show Y (f_X12_countAll_4_b _ _ _ _ _) _
    unfold f_X12_countAll_4_b f_X12_countAll_66
    have hR1 : RS D1 T acc ts b ss a := hR.fr (fun j k q => hF j k (by unfold SP2; omega))
    rw [hR1.2.2.1.2.1]
    refine yNeg (nI_nle2 (by omega) (by omega)) (yNeg (by decide) (yPos rfl (yBI (isGood_ok hR1 (show i < a by omega)) (fun r D2 h2 => ?_))))
    dsimp only at h2
    obtain ⟨er, hF2⟩ := h2
    have := ih (i + 1) m D2 (by omega) (hF.tr hF2)
    rw [er]
    simp only [lt_d, nI_1]
    rw [show sI (fun u => b01 (tk acc (cu T ss u))) (i + 1) = sI (fun u => b01 (tk acc (cu T ss u))) i + b01 (tk acc (cu T ss i)) from rfl] at this
    cases hh : tk acc (cu T ss i)
    · rw [hh] at this; exact yPos rfl this
    · rw [hh] at this; exact yNeg (by decide) this
theorem count4_eq (h : LCs D T acc ts b ss a) (hR : RS D T acc ts b ss a) (hP : okPf D T acc ts b ss a) {Z : Nat} (hY : D 9 2 = nI Z) (hY2 : D 282 2 = nI Z) : EQ1 D T acc ts b ss a (f_X11_count 4) (f_X12_count 4) := by
  have ha := h.2.2.1
  obtain ⟨D1, e1, hF1, p1, p2⟩ := lsw_ok h hP
  have hFq : Fr SQC D D1 := hF1.mono (fun j k q => Or.inl q)
  have hR1 := (hR.q hFq).z
  obtain ⟨q, hq⟩ := FUs a (by omega)
  obtain ⟨⟨r, D2⟩, e2, er, hF2, hR2, hk2⟩ := ca4_loop (Z := Z) hR1 (by rw [ud_at, if_neg (by omega), hFq _ _ (by unfold SQC SPf SLk; omega)]; exact hY2) a 0 q (ud D1 281 0 0) (by omega) hR1 Fr.refl (fun j k q e => e)
  dsimp only at er hF2 hR2 hk2
  refine ⟨r, D1, D2, ?_, ?_, hFq, Or.inr ⟨p1, p2⟩, SXR_of hF2, hR2, fun _ => p1, KP_z hk2⟩
  · unfold f_X11_count f_X3_countLongWords
    have := lw_loop (h.q hFq).2.2 p2 (Z := Z) (by rw [hFq _ _ (by unfold SQC SPf SLk; omega)]; exact hY) a 0 q (by omega)
    rw [nI_0] at this
    rw [if_neg (by decide), if_neg (by decide), if_neg (by decide), if_neg (by decide), if_pos rfl, e1, bV_d, hq, show f_X3_countLongWords_8 (a + 1 + q) 0 0 D1 = _ from this, bI_d, er]
  · unfold f_X12_count f_X12_countAll
    rw [nI_0] at e2
    rw [lt_d, if_neg (by decide), if_neg (by decide), if_neg (by decide), if_neg (by decide), if_pos rfl, hq]
    exact (congrArg (fun z => bI z _) e2)
theorem count6_eq (h : LCs D T acc ts b ss a) (hR : RS D T acc ts b ss a) (hP : okPf D T acc ts b ss a) : EQ1 D T acc ts b ss a (f_X11_count 6) (f_X12_count 6) := by
  have ha := h.2.2.1
  obtain ⟨D1, e1, hF1, p1, p2⟩ := lsw_ok h hP
  have hFq : Fr SQC D D1 := hF1.mono (fun j k q => Or.inl q)
  have hR1 := (hR.q hFq).z
  obtain ⟨q, hq⟩ := FUs a (by omega)
  obtain ⟨⟨r, D2⟩, e2, er, hF2⟩ := ca6_loop hR1 a 0 q (ud D1 281 0 0) (by omega) Fr.refl
  dsimp only at er hF2
  refine ⟨r, D1, D2, ?_, ?_, hFq, Or.inr ⟨p1, p2⟩, SXR_of (hF2.mono (fun j k q => by unfold SP2 at q; unfold SXC; omega)), hR1.fr (fun j k q => hF2 j k (by unfold SP2; omega)), fun _ => p1, KP_z (KP_of (fun j k q => hF2 j k (by unfold SP2; omega)))⟩
  · unfold f_X11_count f_X3_countTakenShorts
    have := ts_loop (h.q hFq) p2 a 0 q (by omega)
    rw [nI_0] at this
    rw [if_neg (by decide), if_neg (by decide), if_neg (by decide), if_neg (by decide), if_neg (by decide), if_neg (by decide), if_pos rfl, e1, bV_d, hq, show f_X3_countTakenShorts_8 (a + 1 + q) 0 0 D1 = _ from this, bI_d, er]
  · unfold f_X12_count f_X12_countAll
    rw [nI_0] at e2
    rw [lt_d, if_neg (by decide), if_neg (by decide), if_neg (by decide), if_neg (by decide), if_neg (by decide), if_neg (by decide), if_pos rfl, hq]
    exact (congrArg (fun z => bI z _) e2)
end
