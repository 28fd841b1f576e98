/-! ===== the reference lays: long words ===== -/
def lostN (A B d : Nat) : Nat := bts ((bl A).filter (fun n => decide (n < d) && !(B.testBit n)))
def bLost (A B d : Nat) : Bool := decide (((nI A &&& (((1 : Int32) <<< (nI d &&& 31)) - 1)) &&& (nI B ^^^ (-1))) = nI (lostN A B d)) && decide (lostN A B d < 16) && decide (bl (lostN A B d) = (bl A).filter (fun n => decide (n < d) && !(B.testBit n)))
theorem lost_d : ∀ A, A < 16 → ∀ B, B < 16 → ∀ d, d < 4 → bLost A B d = true := by decide +kernel
theorem bts_bit : ∀ M, M < 5 → ∀ l ∈ hss M, ∀ n, n < 4 → (bts l).testBit n = l.contains n := by decide +kernel
theorem plc1_none {l : List Nat} {n : Nat} : ∀ {i : Nat}, i ≤ l.length → (plc1 l n i = none ↔ ∀ q, q < i → l.getD q 0 ≠ n)
  | 0, _ => ⟨fun _ q hq => absurd hq (Nat.not_lt_zero q), fun _ => rfl⟩
  | i + 1, h => by
    have ih := plc1_none (l := l) (n := n) (i := i) (by omega)
    unfold plc1
    cases h2 : plc1 l n i with
    | some z =>
      constructor
      · intro q; cases q
      · intro q
        have := ih.mpr (fun j hj => q j (by omega))
        rw [h2] at this; cases this
    | none =>
      have h3 := ih.mp h2
      dsimp only
      split
      · rename_i e
        constructor
        · intro q; cases q
        · intro q; exact absurd e (q i (by omega))
      · rename_i e
        constructor
        · intro _ q hq
          by_cases eq : q = i
          · rw [eq]; exact e
          · exact h3 q (by omega)
        · intro _; rfl
theorem plc1_c {l : List Nat} {n : Nat} : (plc1 l n l.length).isNone = !(l.contains n) := by
  have h := plc1_none (l := l) (n := n) (i := l.length) (Nat.le_refl _)
  cases hc : l.contains n with
  | true =>
    obtain ⟨i, hi, e⟩ := List.mem_iff_getElem.mp (contains_iff.mp hc)
    cases hp : plc1 l n l.length with
    | some z => rfl
    | none => exact absurd (by rw [List.getD_eq_getElem?_getD, List.getElem?_eq_getElem hi, e]; rfl) (h.mp hp i hi)
  | false =>
    rw [h.mpr (fun q hq e => ?_)]
    · rfl
    · have : l.contains n = true := by
        rw [contains_iff, ← e, List.getD_eq_getElem?_getD, List.getElem?_eq_getElem hq]
        exact List.getElem_mem _
      rw [hc] at this; cases this
section
variable {D : Dm} {T : Tb} {acc : Int32} {ts ss : Tst} {b a : Nat}
/-- what the reference loses is what the class misses -/
theorem lost_fg {u y i M : Nat} (hM : M < 5) (hMu : (ss u).2 ≤ 3) (hcu : okC (cu T ss u) (ss u).2) (hc : okC (clo T acc ts b ss u y i) M) : (bl (lostN (bts (kpN T acc ts b (clo T acc ts b ss u y i))) (bts (kpN T acc ts b (cu T ss u))) (ss u).2)).head? = (fgO T acc ts b ss u y i).map (fun e => (hsN (clo T acc ts b ss u y i)).getD e 0) := by
  have k1 := kpN_in (T := T) (acc := acc) (ts := ts) (b := b) hM hc
  have k2 := kpN_in (T := T) (acc := acc) (ts := ts) (b := b) (show (ss u).2 < 5 by omega) hcu
  have b1 := bl_bts M hM _ k1
  have b2 := bl_bts _ (show (ss u).2 < 5 by omega) _ k2
  have hl := lost_d _ b1.2 _ b2.2 (ss u).2 (by omega)
  unfold bLost at hl
  rw [Bool.and_eq_true, decide_eq_true_eq] at hl
  rw [hl.2, b1.1, List.head?_filter]
  unfold fgO fgE fst1
  generalize clo T acc ts b ss u y i = c at *
  have hh := hsN_in hM hc
  have hlt := hss_in M hM _ hh
  show ((List.range (hsN c).length).filter (fun e => (shE1 T acc ts c b e).isSome) |>.map (fun e => (hsN c).getD e 0)).find? _ = _
  rw [List.find?_map, List.find?_filter]
  refine congrArg _ (find_congr (fun e he => ?_))
  have he := List.mem_range.mp he
  have hn := (hlt.2 e he).1
  have e4 : (hsN c).getD e 0 < 4 ∨ ¬ (hsN c).getD e 0 < (ss u).2 := by omega
  show decide ((shE1 T acc ts c b e).isSome = true ∧ (decide ((hsN c).getD e 0 < (ss u).2) && !((bts (kpN T acc ts b (cu T ss u))).testBit ((hsN c).getD e 0))) = true) = _
  rw [Bool.decide_and, Bool.decide_eq_true, Bool.decide_eq_true, plc1_c, ← Bool.and_assoc]
  rcases e4 with q | q
  · rw [bts_bit _ (show (ss u).2 < 5 by omega) _ k2 _ q]
  · rw [decide_eq_false q]; simp
theorem longName_ok (h : RS D T acc ts b ss a) {u i : Nat} (hu : u < a) (hi : i ≤ (kpN T acc ts b (cu T ss u)).length) : Y (f_X12_longName (nI u) (nI i) D) (fun r => r.1 = nI (nmi T acc ts b ss u i) ∧ RS r.2 T acc ts b ss a ∧ Fr SXC D r.2 ∧ r.2 296 u = nI b ∧ ∀ j k, (j = 297 ∨ j = 298 ∨ (j = 296 ∧ D j k = nI b)) → r.2 j k = D j k) := by
  have hd := (h.2.2.1.sy hu).1
  have k2 := kpN_in (T := T) (acc := acc) (ts := ts) (b := b) (show (ss u).2 < 5 by omega) (h.2.2.1.cu (T := T) h.1.1 hu).2
  have hl2 := (hss_in _ (show (ss u).2 < 5 by omega) _ k2).1
  unfold f_X12_longName
  refine yBI (hasShort_ok h hu) (fun r D1 h1 => ?_)
  dsimp only at h1
  obtain ⟨er, hR1, hF1, h296, hk⟩ := h1
  have hk' : ∀ j k, (j = 297 ∨ j = 298 ∨ (j = 296 ∧ D j k = nI b)) → D1 j k = D j k := fun j k q => hk j k (by rcases q with q | q | q; exact Or.inl q; exact Or.inr (Or.inl q); exact Or.inr (Or.inr (Or.inr (Or.inr (Or.inr q)))))
  have bb := bits_l (D := D1) (show (ss u).2 < 5 by omega) k2
  rw [er, bb, bI_d]
  unfold nmi
  by_cases c : i < (kpN T acc ts b (cu T ss u)).length
  · rw [if_pos c]
    refine yNeg (nI_nle2 c (by omega)) ?_
    rw [nameAt_l (show (ss u).2 < 5 by omega) k2 (by omega), bI_d, if_pos c]
    exact yRet ⟨rfl, hR1, hF1, h296, hk'⟩
  · have e : i = (kpN T acc ts b (cu T ss u)).length := by omega
    rw [if_neg c]
    refine yPos (nI_le (by omega) (by omega)) ?_
    rw [bb, bI_d]
    refine yPos (by rw [e]) ?_
    rw [namesOfShort_ok hR1.2.2.1 hu, bI_d]
    exact yRet ⟨rfl, hR1, hF1, h296, hk'⟩
/-- what the reference's laying may change -/
abbrev SLY (j k : Nat) : Prop := SXC j k ∨ j = 306 ∨ j = 307 ∨ (j = 281 ∧ (56 ≤ k ∧ k ≤ 59))
theorem nmi_le2 (h : SR D ss a) (hT : wfT T) {u i : Nat} (hu : u < a) : nmi T acc ts b ss u i ≤ (ss u).2 := by
  have hd := (h.sy hu).1
  have hl := hss_lt1 _ (show (ss u).2 < 5 by omega) _ (kpN_in (T := T) (acc := acc) (ts := ts) (b := b) (show (ss u).2 < 5 by omega) (h.cu hT hu).2)
  unfold nmi
  split
  · rename_i c
    have := hl (i + 1) (by omega) (by omega)
    simp only [Nat.add_sub_cancel] at this
    omega
  · omega
def atn (T : Tb) (acc : Int32) (ts : Tst) (b : Nat) (ss : Tst) (u y i : Nat) : Nat := 8 * u + 4 * y + nmi T acc ts b ss u i
theorem forgets_ok (h : RS D T acc ts b ss a) {u y i : Nat} (hu : u < a) (hy : y < 2) : Y (f_X12_forgets (nI u) (nI y) (nI (nmi T acc ts b ss u i)) D) (fun r => r.1 = b01 (fgO T acc ts b ss u y i).isSome ∧ RS r.2 T acc ts b ss a ∧ Fr SLY D r.2 ∧ r.2 296 u = nI b ∧ r.2 298 (atn T acc ts b ss u y i) = nI b ∧ (∀ q, q ≠ atn T acc ts b ss u y i → r.2 298 q = D 298 q) ∧ (∀ k, D 296 k = nI b → r.2 296 k = nI b) ∧ (∀ j k, (j = 306 ∨ j = 307) → r.2 j k = D j k) ∧ r.2 281 56 = nI u ∧ r.2 281 57 = nI y ∧ r.2 281 58 = nI (nmi T acc ts b ss u i) ∧ (∀ e, fgO T acc ts b ss u y i = some e → r.2 281 59 = nI ((hsN (clo T acc ts b ss u y i)).getD e 0))) := by
  have hd := (h.2.2.1.sy hu).1
  have hnm := nmi_le2 (acc := acc) (ts := ts) (b := b) (T := T) h.2.2.1 h.1.1 (i := i) hu
  have hg := lgM_le hnm
  have hcu := (h.2.2.1.cu (T := T) h.1.1 hu).2
  have hcl := (h.2.2.1.cl (T := T) h.1.1 hu hy hnm).2
  have k1 := kpN_in (T := T) (acc := acc) (ts := ts) (b := b) (show lgM (ss u).2 (nmi T acc ts b ss u i) < 5 by omega) hcl
  have k2 := kpN_in (T := T) (acc := acc) (ts := ts) (b := b) (show (ss u).2 < 5 by omega) hcu
  have b1 := (bl_bts _ (show lgM (ss u).2 (nmi T acc ts b ss u i) < 5 by omega) _ k1).2
  have b2 := (bl_bts _ (show (ss u).2 < 5 by omega) _ k2).2
  have hl := lost_d _ b1 _ b2 (ss u).2 (by omega)
  unfold bLost at hl
  rw [Bool.and_eq_true, Bool.and_eq_true, decide_eq_true_eq, decide_eq_true_eq] at hl
  have lf := lost_fg (T := T) (acc := acc) (ts := ts) (b := b) (ss := ss) (u := u) (y := y) (i := i) (show lgM (ss u).2 (nmi T acc ts b ss u i) < 5 by omega) hd hcu hcl
  unfold f_X12_forgets
  rw [namesOfShort_ok h.2.2.1 hu, bI_d, lt_d]
  refine yBI (hasLong_ok h hu hy hnm) (fun r1 D1 h1 => ?_)
  dsimp only at h1
  obtain ⟨er1, hR1, hF1, x298, y298, z298⟩ := h1
  refine yBI (hasShort_ok hR1 hu) (fun r2 D2 h2 => ?_)
  dsimp only at h2
  obtain ⟨er2, hR2, hF2, x296, hk2⟩ := h2
  rw [er1, er2, hl.1.1, lt_d]
  generalize hLo : lostN (bts (kpN T acc ts b (cl T ss u y (nmi T acc ts b ss u i)))) (bts (kpN T acc ts b (cu T ss u))) (ss u).2 = lo at *
  have lf : (bl lo).head? = (fgO T acc ts b ss u y i).map (fun e => (hsN (clo T acc ts b ss u y i)).getD e 0) := by rw [← lf, ← hLo]; rfl
  refine yLt0 (yLt0 (yLt (fun D3 hD3 => ?_)))
  have n0 := nameAt_ok (D := D3) (s := lo) (i := 0) hl.1.2 (by omega)
  rw [nI_0] at n0
  rw [n0, bI_d]
  refine yLt (fun D4 hD4 => ?_)
  have o : ∀ j k, ¬ (j = 281 ∧ (56 ≤ k ∧ k ≤ 59)) → D4 j k = D2 j k := fun j k q => by
    rw [hD4, ud_at, if_neg (by omega), hD3, ud_at, if_neg (by omega), ud_at, if_neg (by omega), ud_at, if_neg (by omega)]
  have hR4 : RS D4 T acc ts b ss a := hR2.fr (fun j k q => o j k (by omega))
  have hF4 : Fr SLY D D4 := fun j k q => by
    unfold SLY at q
    rw [o j k (by omega), hF2 j k (fun z => q (Or.inl z)), hF1 j k (fun z => q (Or.inl z))]
  have head : ∀ e, fgO T acc ts b ss u y i = some e → oI ((bl lo)[0]?) = nI ((hsN (clo T acc ts b ss u y i)).getD e 0) := fun e he => by
    rw [← List.head?_eq_getElem?, lf, he]; rfl
  have fin : ∀ v : Int32, v = b01 (fgO T acc ts b ss u y i).isSome → (v = b01 (fgO T acc ts b ss u y i).isSome ∧ RS D4 T acc ts b ss a ∧ Fr SLY D D4 ∧ D4 296 u = nI b ∧ D4 298 (atn T acc ts b ss u y i) = nI b ∧ (∀ q, q ≠ atn T acc ts b ss u y i → D4 298 q = D 298 q) ∧ (∀ k, D 296 k = nI b → D4 296 k = nI b) ∧ (∀ j k, (j = 306 ∨ j = 307) → D4 j k = D j k) ∧ D4 281 56 = nI u ∧ D4 281 57 = nI y ∧ D4 281 58 = nI (nmi T acc ts b ss u i) ∧ (∀ e, fgO T acc ts b ss u y i = some e → D4 281 59 = nI ((hsN (clo T acc ts b ss u y i)).getD e 0))) := by
    intro v hv
    refine ⟨hv, hR4, hF4, ?_, ?_, fun q hq => ?_, fun k q => ?_, fun j k q => ?_, ?_, ?_, ?_, fun e he => ?_⟩
    · rw [o _ _ (by omega)]; exact x296
    · rw [o _ _ (by omega), hk2 _ _ (Or.inr (Or.inl rfl))]; exact x298
    · rw [o _ _ (by omega), hk2 _ _ (Or.inr (Or.inl rfl))]; exact z298 298 q (Or.inr rfl) hq
    · have q1 : D1 296 k = nI b := by rw [y298 296 k (Or.inr rfl)]; exact q
      rw [o _ _ (by omega), hk2 _ _ (Or.inr (Or.inr (Or.inr (Or.inr (Or.inr ⟨rfl, q1⟩)))))]; exact q1
    · rw [o _ _ (by omega), hF2 _ _ (by unfold SXC; omega), hF1 _ _ (by unfold SXC; omega)]
    · rw [hD4, hD3]; simp [ud_at]
    · rw [hD4, hD3]; simp [ud_at]
    · rw [hD4, hD3]; simp [ud_at]
    · rw [hD4, ud_at, if_pos ⟨rfl, rfl⟩]; exact head e he
  have zero : lo = 0 ↔ fgO T acc ts b ss u y i = none := by
    constructor
    · intro q
      cases hf : fgO T acc ts b ss u y i with
      | none => rfl
      | some e =>
        rw [hf, q] at lf
        cases lf
    · intro q
      rw [q] at lf
      have hb : bl lo = [] := List.head?_eq_none_iff.mp lf
      have : ∀ s, s < 16 → bl s = [] → s = 0 := by decide +kernel
      exact this lo hl.1.2 hb
  refine yIte (fun e => yRet (fin 0 ?_)) (fun e => yRet (fin 1 ?_))
  · have : lo = 0 := nI_inj (by omega) (by omega) (by rw [e]; rfl)
    rw [zero.mp this]; rfl
  · cases hf : fgO T acc ts b ss u y i with
    | none => exact absurd (by rw [zero.mpr hf, nI_0]) e
    | some e => rfl
theorem goesOn_ok (h : RS D T acc ts b ss a) {u y i : Nat} (hu : u < a) (hy : y < 2) : Y (f_X12_goesOn (nI u) (nI y) (nI (nmi T acc ts b ss u i)) D) (fun r => r.1 = b01 (lkO T acc ts b ss a u y i).isSome ∧ RS r.2 T acc ts b ss a ∧ Fr SLY D r.2 ∧ r.2 298 (atn T acc ts b ss u y i) = nI b ∧ (∀ q, q ≠ atn T acc ts b ss u y i → r.2 298 q = D 298 q ∧ r.2 306 q = D 306 q ∧ r.2 307 q = D 307 q) ∧ (∀ k, D 296 k = nI b → r.2 296 k = nI b) ∧ r.2 281 56 = nI u ∧ r.2 281 57 = nI y ∧ r.2 281 58 = nI (nmi T acc ts b ss u i) ∧ (∀ v, lkO T acc ts b ss a u y i = some v → r.2 306 (atn T acc ts b ss u y i) = nI v ∧ r.2 307 (atn T acc ts b ss u y i) = wyL T acc ts b (clo T acc ts b ss u y i) (kpN T acc ts b (clo T acc ts b ss u y i)) (cu T ss v) (kpN T acc ts b (cu T ss v)))) := by
  have ha := h.2.2.1.1
  have hd := (h.2.2.1.sy hu).1
  have hnm := nmi_le2 (acc := acc) (ts := ts) (b := b) (T := T) h.2.2.1 h.1.1 (i := i) hu
  have hg := lgM_le hnm
  have hcl := (h.2.2.1.cl (T := T) h.1.1 hu hy hnm).2
  have k1 := kpN_in (T := T) (acc := acc) (ts := ts) (b := b) (show lgM (ss u).2 (nmi T acc ts b ss u i) < 5 by omega) hcl
  unfold f_X12_goesOn
  refine yLt0 (yLt0 (yLt (fun D1 hD1 => ?_)))
  have o1 : ∀ j k, ¬ (j = 281 ∧ (56 ≤ k ∧ k ≤ 58)) → D1 j k = D j k := fun j k q => by
    rw [hD1, ud_at, if_neg (by omega), ud_at, if_neg (by omega), ud_at, if_neg (by omega)]
  have hR1 : RS D1 T acc ts b ss a := h.fr (fun j k q => o1 j k (by omega))
  refine yBI (hasLong_ok hR1 hu hy hnm) (fun r2 D2 h2 => ?_)
  dsimp only at h2
  obtain ⟨er2, hR2, hF2, x298, y298, z298⟩ := h2
  refine yBV (takesLong_ok hR2.2.2.1 hu (isSy_n hy) (show nmi T acc ts b ss u i < 1000 by omega)) (fun D3 h3 => ?_)
  obtain ⟨hF3, hK3⟩ := h3
  have hR3 : RS D3 T acc ts b ss a := hR2.fr (fun j k q => hF3 j k (by omega))
  rw [longAt_ok, bI_d, er2]
  have lo := likeOf_ok hR3 hK3 (show lgM (ss u).2 (nmi T acc ts b ss u i) < 5 by omega) k1
  rw [lg_run] at lo
  refine yBI lo (fun r4 D4 h4 => ?_)
  dsimp only at h4
  obtain ⟨er4, hR4, hF4, w54, hk4⟩ := h4
  have er4 : r4 = oI (lkO T acc ts b ss a u y i) := er4
  have w54 : ∀ v, lkO T acc ts b ss a u y i = some v → D4 281 54 = wyL T acc ts b (clo T acc ts b ss u y i) (kpN T acc ts b (clo T acc ts b ss u y i)) (cu T ss v) (kpN T acc ts b (cu T ss v)) := w54
  have hat : 8 * u + 4 * y + nmi T acc ts b ss u i = atn T acc ts b ss u y i := rfl
  have x298 : D2 298 (atn T acc ts b ss u y i) = nI b := x298
  have z298 : ∀ j q, (j = 297 ∨ j = 298) → q ≠ atn T acc ts b ss u y i → D2 j q = D1 j q := z298
  rw [hat]
  generalize hA : atn T acc ts b ss u y i = A at *
  have hA80 : A < 80 := by omega
  rw [nI_clamp (by omega)]
  refine yGd (inB_nI (by omega) (by omega)) (yLt (fun D5 hD5 => yGd (inB_nI (by omega) (by omega)) (yLt (fun D6 hD6 => yGd (inB_nI (by omega) (by omega)) ?_))))
  have v54 : D5 281 54 = D4 281 54 := by rw [hD5, ud_at, if_neg (by omega)]
  rw [v54] at hD6
  have o6 : ∀ j k, ¬ ((j = 306 ∨ j = 307) ∧ k = A) → D6 j k = D4 j k := fun j k q => by
    rw [hD6, ud_at, if_neg (by omega), hD5, ud_at, if_neg (by omega)]
  have v306 : D6 306 A = oI (lkO T acc ts b ss a u y i) := by rw [hD6, ud_at, if_neg (by omega), hD5, ud_at, if_pos ⟨rfl, rfl⟩]; exact er4
  have v307 : D6 307 A = D4 281 54 := by rw [hD6, ud_at, if_pos ⟨rfl, rfl⟩]
  have hFx : Fr SXC D1 D4 := hF2.tr ((hF3.mono (fun j k q => by unfold SXC; omega)).tr hF4)
  have hF6 : Fr SLY D D6 := fun j k q => by
    unfold SLY at q
    rw [o6 j k (by omega), hFx j k (fun z => q (Or.inl z)), o1 j k (by omega)]
  have hR6 : RS D6 T acc ts b ss a := hR4.fr (fun j k q => o6 j k (by omega))
  have fin : ∀ v : Int32, v = b01 (lkO T acc ts b ss a u y i).isSome → (v = b01 (lkO T acc ts b ss a u y i).isSome ∧ RS D6 T acc ts b ss a ∧ Fr SLY D D6 ∧ D6 298 A = nI b ∧ (∀ q, q ≠ A → D6 298 q = D 298 q ∧ D6 306 q = D 306 q ∧ D6 307 q = D 307 q) ∧ (∀ k, D 296 k = nI b → D6 296 k = nI b) ∧ D6 281 56 = nI u ∧ D6 281 57 = nI y ∧ D6 281 58 = nI (nmi T acc ts b ss u i) ∧ (∀ v, lkO T acc ts b ss a u y i = some v → D6 306 A = nI v ∧ D6 307 A = wyL T acc ts b (clo T acc ts b ss u y i) (kpN T acc ts b (clo T acc ts b ss u y i)) (cu T ss v) (kpN T acc ts b (cu T ss v)))) := by
    intro v hv
    refine ⟨hv, hR6, hF6, ?_, fun q hq => ⟨?_, ?_, ?_⟩, fun k q => ?_, ?_, ?_, ?_, fun v' hv' => ⟨?_, ?_⟩⟩
    · rw [o6 _ _ (by omega), hk4 _ _ (Or.inr (Or.inl rfl)), hF3 _ _ (by omega)]; exact x298
    · rw [o6 _ _ (by omega), hk4 _ _ (Or.inr (Or.inl rfl)), hF3 _ _ (by omega), z298 298 q (Or.inr rfl) hq, o1 _ _ (by omega)]
    · rw [o6 _ _ (by omega), hFx _ _ (by unfold SXC; omega), o1 _ _ (by omega)]
    · rw [o6 _ _ (by omega), hFx _ _ (by unfold SXC; omega), o1 _ _ (by omega)]
    · have q1 : D3 296 k = nI b := by rw [hF3 _ _ (by omega), y298 296 k (Or.inr rfl), o1 _ _ (by omega)]; exact q
      rw [o6 _ _ (by omega), hk4 _ _ (Or.inr (Or.inr ⟨rfl, q1⟩))]; exact q1
    · rw [o6 _ _ (by omega), hFx _ _ (by unfold SXC; omega), hD1]; simp [ud_at]
    · rw [o6 _ _ (by omega), hFx _ _ (by unfold SXC; omega), hD1]; simp [ud_at]
    · rw [o6 _ _ (by omega), hFx _ _ (by unfold SXC; omega), hD1]; simp [ud_at]
    · rw [v306, hv']; rfl
    · rw [v307]; exact w54 v' hv'
  rw [v306]
  cases hl : lkO T acc ts b ss a u y i with
  | none =>
    rw [hl] at fin
    exact yPos rfl (yRet (fin 0 rfl))
  | some v =>
    rw [hl] at fin
    have hv : v < a := fst1_lt hl
    exact yNeg (nI_n1 (by omega)) (yRet (fin 1 rfl))
end
