/-! ===== rows and instances tell one thing ===== -/
def nmOK (l : List Nat) : Prop := l.length ≤ 2 ∧ (∀ g, g ≤ l.length → g ≠ 0 → l.getD (g - 1) 0 < 100) ∧ ∀ g, g ≤ l.length → ∀ g', g' ≤ l.length → g ≠ 0 → g' ≠ 0 → l.getD (g - 1) 0 = l.getD (g' - 1) 0 → g = g'
theorem hss_nm {M : Nat} {l : List Nat} (hM : M < 5) (hl : l ∈ hss M) : nmOK l := by
  obtain ⟨h1, h2⟩ := hss_lt M hM l hl
  exact ⟨(hss_in M hM l hl).1, fun g hg h0 => by have := h1 g hg h0; omega, h2⟩
theorem hss_rv1 : ∀ M, M < 5 → ∀ l ∈ hss M, ∀ g, g ≤ l.reverse.length → g ≠ 0 → l.reverse.getD (g - 1) 0 < 100 := by decide +kernel
theorem hss_rv2 : ∀ M, M < 5 → ∀ l ∈ hss M, bLt2 l.reverse = true := by decide +kernel
theorem hss_rv {M : Nat} {l : List Nat} (hM : M < 5) (hl : l ∈ hss M) : nmOK l.reverse :=
  ⟨by rw [List.length_reverse]; exact (hss_in M hM l hl).1, hss_rv1 M hM l hl, fun g hg g' hg' h1 h2 h3 => of_decide_eq_true (hss_rv2 M hM l hl) g hg g' hg' ⟨h1, h2, h3⟩⟩
theorem aG_q {T : Tb} {acc : Int32} {ts : Tst} {b t M : Nat} {c : Cf} {l gs : List Nat} (hM : M < 5) (hc : okC c M) (hT : okT ts b) (ht : t < b) (hl : nmOK l) (hg : gs ∈ insts l.length [] (ts t).2) : aG T acc ts c 1000 (lnm l) t gs = aG T acc ts c 100 (lnm l) t gs := by
  obtain ⟨hd, hs⟩ := hT t ht
  obtain ⟨hl2, b1, b2⟩ := hl
  obtain ⟨-, a2, -⟩ := in_ok _ (by omega) _ (by omega) gs hg
  have hf : ∀ i, i < (ts t).2 → dig gs i ≠ 0 → ∃ k, k < 100 ∧ lnm l (dig gs i - 1) = nI k := fun i hi h => ⟨_, b1 _ (a2 i hi).1 h, rfl⟩
  have hu : ∀ i j, i < (ts t).2 → j < (ts t).2 → dig gs i ≠ 0 → dig gs j ≠ 0 → lnm l (dig gs i - 1) = lnm l (dig gs j - 1) → i = j := fun i j hi hj h1 h2 e => by
    have q1 := b1 _ (a2 i hi).1 h1
    have q2 := b1 _ (a2 j hj).1 h2
    have := nI_inj (by omega) (by omega) e
    exact (a2 i hi).2 j hj h1 (b2 _ (a2 i hi).1 _ (a2 j hj).1 h1 h2 this)
  unfold aG
  exact ans_dig (d := (ts t).2) (fun a ha => (hs a ha).2) hd (by omega) (by omega) (okC_100 hM hc) hf hf hu hu (fun i hi r hr => Iff.rfl)
def eqI (T : Tb) (acc : Int32) (ts : Tst) (c : Cf) (l : List Nat) (c' : Cf) (l' : List Nat) (t : Nat) : Bool := (insts l.length [] (ts t).2).all (fun gs => aG T acc ts c 100 (lnm l) t gs == aG T acc ts c' 100 (lnm l') t gs)
theorem rw_eq {T : Tb} {acc : Int32} {ts : Tst} {b t M M' : Nat} {c c' : Cf} {l l' : List Nat} (hM : M < 5) (hc : okC c M) (hM' : M' < 5) (hc' : okC c' M') (hT : okT ts b) (ht : t < b) (hl : nmOK l) (hl' : nmOK l') (hlen : l.length = l'.length) : decide (rwF T acc ts c l t = rwF T acc ts c' l' t) = eqI T acc ts c l c' l' t := by
  obtain ⟨hd, -⟩ := hT t ht
  have hp := pow3 hd
  rw [Bool.eq_iff_iff, decide_eq_true_eq]
  unfold rwF eqI
  rw [rowI_eq (by omega), List.all_eq_true, insts_dgs _ (by omega) _ (by have := hl.1; omega)]
  constructor
  · intro h gs hg
    obtain ⟨h1, h2⟩ := List.mem_filter.mp hg
    obtain ⟨q, hq, rfl⟩ := List.mem_map.mp h1
    have hq := List.mem_range.mp hq
    have e := h q hq
    rw [← hlen, h2, Bool.true_and, Bool.true_and] at e
    have hg2 : dgs (ts t).2 q ∈ insts l.length [] (ts t).2 := by rw [insts_dgs _ (by omega) _ (by have := hl.1; omega)]; exact hg
    rw [aG_q hM hc hT ht hl hg2, aG_q hM' hc' hT ht hl' (by rw [← hlen]; exact hg2)] at e
    rw [e]
    exact beq_self_eq_true _
  · intro h q hq
    rw [← hlen]
    by_cases ho : okD l.length (dgs (ts t).2 q) = true
    · have hg := List.mem_filter.mpr ⟨List.mem_map.mpr ⟨q, List.mem_range.mpr hq, rfl⟩, ho⟩
      have e := eq_of_beq (h _ hg)
      have hg2 : dgs (ts t).2 q ∈ insts l.length [] (ts t).2 := by rw [insts_dgs _ (by omega) _ (by have := hl.1; omega)]; exact hg
      rw [aG_q hM hc hT ht hl hg2, aG_q hM' hc' hT ht hl' (by rw [← hlen]; exact hg2), e]
    · rw [show okD l.length (dgs (ts t).2 q) = false by simpa using ho, Bool.false_and, Bool.false_and]
theorem alk_eq {T : Tb} {acc : Int32} {ts : Tst} {b M M' : Nat} {c c' : Cf} {l l' : List Nat} (hM : M < 5) (hc : okC c M) (hM' : M' < 5) (hc' : okC c' M') (hT : okT ts b) (hl : nmOK l) (hl' : nmOK l') (hlen : l.length = l'.length) : alk T acc ts b c l c' l' = allB (eqI T acc ts c l c' l') b := by
  unfold alk
  exact allB_congr (fun t ht => rw_eq hM hc hM' hc' hT ht hl hl' hlen)
/-! ===== the reference's lists and what it keeps of them ===== -/
def SR (D : Dm) (ss : Tst) (a : Nat) : Prop := (1 ≤ a ∧ a ≤ 10) ∧ D 281 27 = nI a ∧ ∀ u, u < a → ∃ n, n ≤ 6 ∧ D 289 u = nI n ∧ (ss u).1 = lts (fun k => D 290 (6 * u + k)) (fun k => D 291 (6 * u + k)) 0 n ∧ (ss u).2 ≤ 3 ∧ (∀ k, k < n → isSy (D 290 (6 * u + k)) ∧ ∃ j, j < (ss u).2 ∧ D 291 (6 * u + k) = nI j) ∧ (ss u).2 = mxf (fun k => (D 291 (6 * u + k)).toNatClampNeg) n
theorem SR.fr {D D' : Dm} {ss : Tst} {a : Nat} (h : SR D ss a) (h27 : D' 281 27 = D 281 27) (hF : ∀ j k, 289 ≤ j → j ≤ 291 → D' j k = D j k) : SR D' ss a := by
  obtain ⟨h1, h2, h3⟩ := h
  refine ⟨h1, by rw [h27, h2], fun t ht => ?_⟩
  have e2 : D' 289 = D 289 := funext (fun k => hF _ k (by omega) (by omega))
  have e3 : D' 290 = D 290 := funext (fun k => hF _ k (by omega) (by omega))
  have e4 : D' 291 = D 291 := funext (fun k => hF _ k (by omega) (by omega))
  rw [e2, e3, e4]
  exact h3 t ht
def cu (T : Tb) (ss : Tst) (u : Nat) : Cf := run T c0 (ss u).1
def cl (T : Tb) (ss : Tst) (u y k : Nat) : Cf := step T (cu T ss u) (nI y, nI k)
def ZB (D : Dm) (a : Nat) : Prop := ∀ u, a ≤ u → u < 10 → D 295 u = 0 ∧ D 296 u = 0 ∧ ∀ k, k < 8 → D 297 (8 * u + k) = 0 ∧ D 298 (8 * u + k) = 0
def CS (D : Dm) (T : Tb) (acc : Int32) (ts : Tst) (b : Nat) (ss : Tst) (a : Nat) : Prop := (∀ u, u < a → ∃ f, f ≤ b ∧ D 296 u = nI f ∧ D 295 u = nI (bts (kpN T acc ts f (cu T ss u)))) ∧ ZB D a
def CL (D : Dm) (T : Tb) (acc : Int32) (ts : Tst) (b : Nat) (ss : Tst) (a : Nat) : Prop := ∀ u, u < a → ∀ y, y < 2 → ∀ k, k ≤ (ss u).2 → ∃ f, f ≤ b ∧ D 298 (8 * u + 4 * y + k) = nI f ∧ D 297 (8 * u + 4 * y + k) = nI (bts (kpN T acc ts f (cl T ss u y k)))
def RS (D : Dm) (T : Tb) (acc : Int32) (ts : Tst) (b : Nat) (ss : Tst) (a : Nat) : Prop := MR D 0 T acc ∧ TR D ts b ∧ SR D ss a ∧ CS D T acc ts b ss a ∧ CL D T acc ts b ss a
theorem RS.fr {D D' : Dm} {T : Tb} {acc : Int32} {ts ss : Tst} {b a : Nat} (h : RS D T acc ts b ss a) (hF : ∀ j k, (j = 282 ∨ (j = 281 ∧ (k = 27 ∨ k = 28)) ∨ (289 ≤ j ∧ j ≤ 298)) → D' j k = D j k) : RS D' T acc ts b ss a := by
  obtain ⟨h1, h2, h3, h4, h5⟩ := h
  refine ⟨h1.fr (fun k => hF _ _ (by omega)), h2.fr (hF _ _ (by omega)) (fun j k q1 q2 => hF _ _ (by omega)), h3.fr (hF _ _ (by omega)) (fun j k q1 q2 => hF _ _ (by omega)), ⟨fun u hu => ?_, fun u q1 q2 => ?_⟩, fun u hu y hy k hk => ?_⟩
  · rw [hF _ _ (by omega), hF _ _ (by omega)]; exact h4.1 u hu
  · obtain ⟨z1, z2, z3⟩ := h4.2 u q1 q2
    refine ⟨by rw [hF _ _ (by omega)]; exact z1, by rw [hF _ _ (by omega)]; exact z2, fun k hk => ?_⟩
    rw [hF _ _ (by omega), hF _ _ (by omega)]; exact z3 k hk
  · rw [hF _ _ (by omega), hF _ _ (by omega)]; exact h5 u hu y hy k hk
abbrev SX (j k : Nat) : Prop := (299 ≤ j ∧ j ≤ 305) ∨ (j = 281 ∧ (k = 3 ∨ k = 4 ∨ k = 5 ∨ (36 ≤ k ∧ k ≤ 51) ∨ k = 54))
abbrev SXC (j k : Nat) : Prop := (295 ≤ j ∧ j ≤ 305) ∨ (j = 281 ∧ (k = 3 ∨ k = 4 ∨ k = 5 ∨ (36 ≤ k ∧ k ≤ 51) ∨ k = 54))
theorem RS.sx {D D' : Dm} {T : Tb} {acc : Int32} {ts ss : Tst} {b a : Nat} (h : RS D T acc ts b ss a) (hF : Fr SX D D') : RS D' T acc ts b ss a := h.fr (fun j k q => hF j k (by unfold SX; omega))
theorem SXC_of {D D' : Dm} (h : Fr SX D D') : Fr SXC D D' := h.mono (fun j k q => by unfold SX at q; unfold SXC; omega)
theorem tsh_loop {D0 : Dm} {u n : Nat} (hu : u < 10) (hn : n ≤ 6) : ∀ (j i m : Nat) (D : Dm), i + j = n → D 281 36 = nI n → Fr (fun j k => j = 299 ∨ j = 300) D0 D → (∀ k, k < i → D 299 k = D0 290 (6 * u + k) ∧ D 300 k = D0 291 (6 * u + k)) → Y (f_X12_takesShort_12 (j + 1 + m) (nI u) (nI i) D) (fun D' => Fr (fun j k => j = 299 ∨ j = 300) D0 D' ∧ ∀ k, k < n → D' 299 k = D0 290 (6 * u + k) ∧ D' 300 k = D0 291 (6 * u + k)) := by
  intro j
  induction j with
  | zero =>
    intro i m D hi h36 hF hk
    have hi : i = n := by omega
    rw [show 0 + 1 + m = m + 1 by omega]
    show Y (f_X12_takesShort_12_b _ _ _ _) _
    unfold f_X12_takesShort_12_b
    rw [h36, hi]
    rw [hi] at hk
    exact yPos (nI_le (Nat.le_refl _) (by omega)) (yRet ⟨hF, hk⟩)
  | succ j ih =>
    intro i m D hi h36 hF hk
    rw [show j + 1 + 1 + m = (j + 1 + m) + 1 by omega]
    show Y (f_X12_takesShort_12_b _ _ _ _) _
    unfold f_X12_takesShort_12_b
    rw [h36, show (6 : Int32) = nI 6 from rfl, nI_mul, nI_add, nI_clamp (show 6 * u + i < 2 ^ 31 by omega), nI_clamp (show i < 2 ^ 31 by omega), nI_1]
    refine yNeg (nI_nle2 (by omega) (by omega)) (yGd (inB_nI (by omega) (by omega)) (yGd (inB_nI (by omega) (by omega)) (yLt0 (yGd (inB_nI (by omega) (by omega)) (yGd (inB_nI (by omega) (by omega)) (yLt0 (yLt0 ?_)))))))
    refine ih (i + 1) m _ (by omega) (by rw [ud_at, if_neg (by omega), ud_at, if_neg (by omega)]; exact h36) ((hF.ud (by omega)).ud (by omega)) (fun k hk2 => ?_)
    have w : ud D 299 i (D 290 (6 * u + i)) 291 (6 * u + i) = D 291 (6 * u + i) := by rw [ud_at, if_neg (by omega)]
    rw [w]
    by_cases e : k = i
    · refine ⟨?_, ?_⟩
      · rw [ud_at, if_neg (by omega), ud_at, if_pos ⟨rfl, e⟩, hF 290 _ (by omega), e]
      · rw [ud_at, if_pos ⟨rfl, e⟩, hF 291 _ (by omega), e]
    · rw [ud_at, if_neg (by omega), ud_at, if_neg (by omega), ud_at, if_neg (by omega), ud_at, if_neg (by omega)]; exact hk k (by omega)
theorem takesShort_ok {D : Dm} {ss : Tst} {a u : Nat} (h : SR D ss a) (hu : u < a) : Y (f_X12_takesShort (nI u) D) (fun D' => Fr (fun j k => j = 299 ∨ j = 300 ∨ (j = 281 ∧ k = 36)) D D' ∧ LKm D' (ss u).1 (ss u).2) := by
  obtain ⟨ha, -, h3⟩ := h
  obtain ⟨n, hn, h289, el, hd, hs, hm⟩ := h3 u hu
  unfold f_X12_takesShort
  refine yGd (inB_nI (by omega) (by omega)) (yLt (fun D1 hD1 => ?_))
  rw [nI_clamp (by omega), h289] at hD1
  obtain ⟨q, hq⟩ := FUs n (by omega)
  have := tsh_loop (D0 := D1) (u := u) (n := n) (by omega) hn n 0 q D1 (by omega) (by rw [hD1, ud_at, if_pos ⟨rfl, rfl⟩]) Fr.refl (fun k hk => absurd hk (Nat.not_lt_zero k))
  rw [nI_0] at this
  rw [hq]
  have o : ∀ j k, ¬ (j = 281 ∧ k = 36) → D1 j k = D j k := fun j k q => by rw [hD1, ud_at, if_neg q]
  refine yMono this (fun D2 h2 => ⟨?_, n, by omega, ?_, ?_, fun k hk => ?_, ?_⟩)
  · intro j k hj
    rw [h2.1 j k (by omega), o j k (by omega)]
  · rw [h2.1 _ _ (by omega), hD1, ud_at, if_pos ⟨rfl, rfl⟩]
  · rw [el]
    refine lts_congr (fun k _ hk => ?_)
    obtain ⟨q1, q2⟩ := h2.2 k (by omega)
    rw [q1, q2, o _ _ (by omega), o _ _ (by omega)]
    exact ⟨rfl, rfl⟩
  · obtain ⟨q1, q2⟩ := h2.2 k hk
    rw [q1, q2, o _ _ (by omega), o _ _ (by omega)]
    obtain ⟨z1, j, hj, e⟩ := hs k hk
    exact ⟨z1, j, by omega, e⟩
  · rw [hm]
    refine mxf_congr (fun k hk => ?_)
    rw [(h2.2 k hk).2, o _ _ (by omega)]
def lgM (M k : Nat) : Nat := if M ≤ k then k + 1 else M
theorem takesLetter_ok {D : Dm} {l : List Lt} {M k : Nat} {y nm : Int32} (h : LKm D l M) (hl : l.length < 40) (hy : isSy y) (hk : k < 1000) (hn : nm = nI k) : Y (f_X12_takesLetter y nm D) (fun D' => Fr (fun j k => j = 299 ∨ j = 300 ∨ (j = 281 ∧ k = 36)) D D' ∧ LKm D' (l ++ [(y, nm)]) (lgM M k)) := by
  obtain ⟨n, h1, h2, h3, h4, h5⟩ := h
  have hn40 : n < 40 := by rw [h3, lts_len] at hl; exact hl
  unfold f_X12_takesLetter
  rw [h2, nI_clamp (by omega)]
  refine yGd (inB_nI (by omega) (by omega)) (yLt (fun D1 hD1 => ?_))
  rw [show D1 281 36 = nI n by rw [hD1, ud_at, if_neg (by omega)]; exact h2, nI_clamp (by omega)]
  refine yGd (inB_nI (by omega) (by omega)) (yLt (fun D2 hD2 => ?_))
  have e36 : D2 281 36 = nI n := by rw [hD2, ud_at, if_neg (by omega), hD1, ud_at, if_neg (by omega)]; exact h2
  rw [e36, nI_1]
  have v9 : ∀ q, ud D2 281 36 (nI (n + 1)) 299 q = if q = n then y else D 299 q := fun q => by
    rw [ud_at, if_neg (by omega), hD2, ud_at, if_neg (by omega), hD1, ud_at]
    by_cases e : q = n
    · rw [if_pos ⟨rfl, e⟩, if_pos e]
    · rw [if_neg (by omega), if_neg e]
  have v0 : ∀ q, ud D2 281 36 (nI (n + 1)) 300 q = if q = n then nm else D 300 q := fun q => by
    rw [ud_at, if_neg (by omega), hD2, ud_at]
    by_cases e : q = n
    · rw [if_pos ⟨rfl, e⟩, if_pos e]
    · rw [if_neg (by omega), if_neg e, hD1, ud_at, if_neg (by omega)]
  refine yLt0 (yRet ⟨?_, n + 1, by omega, ?_, ?_, fun q hq => ?_, ?_⟩)
  · rw [hD2, hD1]
    exact ((Fr.refl.ud (by omega)).ud (by omega)).ud (by omega)
  · rw [ud_at, if_pos ⟨rfl, rfl⟩]
  · rw [lts_snoc, v9, v0, if_pos rfl, if_pos rfl, h3]
    congr 1
    refine lts_congr (fun q _ hq => ?_)
    rw [v9, v0, if_neg (by omega), if_neg (by omega)]
    exact ⟨rfl, rfl⟩
  · rw [v9, v0]
    by_cases e : q = n
    · rw [if_pos e, if_pos e]; exact ⟨hy, k, hk, hn⟩
    · rw [if_neg e, if_neg e]; exact h4 q (by omega)
  · unfold lgM mxf
    have em : mxf (fun q => (ud D2 281 36 (nI (n + 1)) 300 q).toNatClampNeg) n = M := by
      rw [h5]
      exact mxf_congr (fun q hq => by rw [v0, if_neg (by omega)])
    rw [em, v0, if_pos rfl, hn, nI_clamp (by omega)]
theorem takesLong_ok {D : Dm} {ss : Tst} {a u k : Nat} {y : Int32} (h : SR D ss a) (hu : u < a) (hy : isSy y) (hk : k < 1000) : Y (f_X12_takesLong (nI u) y (nI k) D) (fun D' => Fr (fun j k => j = 299 ∨ j = 300 ∨ (j = 281 ∧ k = 36)) D D' ∧ LKm D' ((ss u).1 ++ [(y, nI k)]) (lgM (ss u).2 k)) := by
  unfold f_X12_takesLong
  refine yBV (takesShort_ok h hu) (fun D1 h1 => ?_)
  have hl : (ss u).1.length < 40 := by
    obtain ⟨n, hn, -, el, -⟩ := h.2.2 u hu
    rw [el, lts_len]; omega
  refine yBV (takesLetter_ok h1.2 hl hy hk rfl) (fun D2 h2 => yRet ⟨h1.1.tr h2.1, h2.2⟩)
theorem namesOfShort_ok {D : Dm} {ss : Tst} {a u : Nat} (h : SR D ss a) (hu : u < a) : f_X12_namesOfShort (nI u) D = some (nI (ss u).2, D) := by
  obtain ⟨ha, -, h3⟩ := h
  obtain ⟨n, hn, h289, -, hd, hs, hm⟩ := h3 u hu
  unfold f_X12_namesOfShort
  rw [gd_t (inB_nI (by omega) (by omega)), nI_clamp (by omega), h289, show (6 : Int32) = nI 6 from rfl, nI_mul]
  rw [namesOf_ok (g := fun k => (D 291 (6 * u + k)).toNatClampNeg) (by omega) (by omega) (fun k hk => ?_), bI_d, ← hm]
  obtain ⟨-, j, hj, e⟩ := hs k hk
  show (D 291 (6 * u + k)).toNatClampNeg < 1000 ∧ D 291 (6 * u + k) = nI (D 291 (6 * u + k)).toNatClampNeg
  rw [e, nI_clamp (by omega)]
  exact ⟨by omega, rfl⟩
