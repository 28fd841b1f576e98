/-! ===== the class's search: a couple is entered ===== -/
theorem bit_and {x : Int32} {n : Nat} (hn : n < 32) : (x &&& ((1 : Int32) <<< (nI n &&& 31))) = 0 ↔ x.toBitVec.getLsbD n = false := by
  have e0 : (0 : Int32).toBitVec = 0#32 := rfl
  rw [← Int32.toBitVec_inj, Int32.toBitVec_and, bit_shl n hn, e0]
  constructor
  · intro h
    have := congrArg (fun v => v.getLsbD n) h
    simp only [BitVec.getLsbD_and, BitVec.getLsbD_twoPow, BitVec.getLsbD_zero] at this
    simpa [hn] using this
  · intro h
    apply BitVec.eq_of_getLsbD_eq
    intro i hi
    rw [BitVec.getLsbD_and, BitVec.getLsbD_twoPow, BitVec.getLsbD_zero]
    by_cases e : n = i
    · rw [← e, h]; simp
    · simp [e]
theorem bit_or {x : Int32} {n i : Nat} (hn : n < 32) : (x ||| ((1 : Int32) <<< (nI n &&& 31))).toBitVec.getLsbD i = (x.toBitVec.getLsbD i || decide (i = n)) := by
  rw [Int32.toBitVec_or, BitVec.getLsbD_or, bit_shl n hn, BitVec.getLsbD_twoPow]
  by_cases e : n = i
  · subst e; simp [hn]
  · have e' : ¬ i = n := fun q => e q.symm
    simp [e, e']
def pk (a b : Cf) : Nat := ((((stN a.1 * 16 + stN b.1) * 32 + stN a.2.1) * 32 + stN a.2.2) * 32 + stN b.2.1) * 32 + stN b.2.2
/-- what a couple may hold -/
def okP (a b : Cf) : Prop := stOK a.1 5 ∧ stOK b.1 10 ∧ okC a 20 ∧ okC b 20
theorem okP_x {a b : Cf} (h : okP a b) : ∀ r, r < 4 → stOK (xs4 a b r) 20 := by
  intro r hr
  obtain ⟨-, -, h3, h4⟩ := h
  have : r = 0 ∨ r = 1 ∨ r = 2 ∨ r = 3 := by omega
  rcases this with rfl | rfl | rfl | rfl
  · exact h3.1
  · exact h3.2
  · exact h4.1
  · exact h4.2
def pk4 (X : Nat → Int32) (s : Nat) : Nat → Nat
  | 0 => s
  | r + 1 => pk4 X s r * 32 + stN (X r)
theorem pk4_lt {X : Nat → Int32} {s : Nat} (hs : s < 128) (hX : ∀ r, r < 4 → stOK (X r) 20) : ∀ r, r ≤ 4 → pk4 X s r < 128 * 32 ^ r
  | 0, _ => by show s < 128 * 1; omega
  | r + 1, h => by
    have h1 := pk4_lt hs hX r (by omega)
    have h2 := (stN_ok (by omega) (hX r (by omega))).2
    show pk4 X s r * 32 + stN (X r) < 128 * (32 ^ r * 32)
    omega
theorem pack_ok {D : Dm} {a b : Cf} (ha : D 36 0 = a.1) (hb : D 38 0 = b.1) (hX : ∀ r, r < 4 → D 40 r = xs4 a b r) (h : okP a b) : f_X8_pack D = some (nI (pk a b), D) := by
  have hx := okP_x h
  have s1 := stN_ok (by omega) h.1
  have s2 := stN_ok (by omega) h.2.1
  have hs : stN a.1 * 16 + stN b.1 < 128 := by omega
  have loop : ∀ (j r m : Nat), r + j = 4 → f_X8_pack_25 (j + 1 + m) (nI (pk4 (xs4 a b) (stN a.1 * 16 + stN b.1) r)) (nI r) D = some (nI (pk a b), D) := by
    intro j
    induction j with
    | zero =>
      intro r m hr
      have hr : r = 4 := by omega
      subst hr
      rw [show 0 + 1 + m = m + 1 by omega]
      show f_X8_pack_25_b _ _ _ _ = _
      unfold f_X8_pack_25_b
      rw [if_pos (by decide)]
      rfl
    | succ j ih =>
      intro r m hr
      rw [show j + 1 + 1 + m = (j + 1 + m) + 1 by omega]
      show f_X8_pack_25_b _ _ _ _ = _
      unfold f_X8_pack_25_b
      rw [if_neg (show ¬ (4 : Int32) ≤ nI r from nI_nle2 (b := 4) (by omega) (by omega)), gd_t (inB_nI (by omega) (by omega)), nI_clamp (by omega), lt_d, lt_d, nI_1, hX r (by omega), Int32.add_assoc, (stN_ok (by omega) (hx r (by omega))).1, show (32 : Int32) = nI 32 from rfl, nI_mul, nI_add]
      exact ih (r + 1) m (by omega)
  unfold f_X8_pack
  rw [lt_d, ha, hb, s1.1, Int32.add_assoc, s2.1, show (16 : Int32) = nI 16 from rfl, nI_mul, nI_add]
  obtain ⟨q, hq⟩ := FUs 4 (by omega)
  have := loop 4 0 q rfl
  rw [nI_0] at this
  rw [hq]
  exact this
theorem st_m1 {s : Int32} {n : Nat} (hn : n ≤ 20) (h : stOK s n) : nI (stN s) - 1 = s := by
  rw [← (stN_ok hn h).1, Int32.add_sub_cancel]
theorem unpack_ok {D : Dm} {a b : Cf} (h : okP a b) : Y (f_X8_unpack (nI (pk a b)) D) (fun D' => Fr (fun j k => 32 ≤ j ∧ j ≤ 35) D D' ∧ getGo D' 32 = a ∧ getGo D' 34 = b) := by
  have s1 := (stN_ok (by omega) h.1).2
  have s2 := (stN_ok (by omega) h.2.1).2
  have x0 := (stN_ok (by omega) h.2.2.1.1).2
  have x1 := (stN_ok (by omega) h.2.2.1.2).2
  have x2 := (stN_ok (by omega) h.2.2.2.1).2
  have x3 := (stN_ok (by omega) h.2.2.2.2).2
  have hp : pk a b < 2 ^ 31 := by unfold pk; omega
  have sh : ∀ s, s < 32 → nI (pk a b) >>> (nI s &&& 31) = nI (pk a b / 2 ^ s) := fun s hs => pk_shrN hp _ s (by
    have : ∀ s, s < 32 → ((nI s &&& 31).toBitVec.smod 32).toNat = s := by decide +kernel
    exact this s hs)
  have m5 : ∀ q, q < 2 ^ 31 → nI q &&& 31 = nI (q % 32) := fun q hq => pk_andN (by omega) 5 (by decide)
  have m4 : ∀ q, q < 2 ^ 31 → nI q &&& 15 = nI (q % 16) := fun q hq => pk_andN (by omega) 4 (by decide)
  have w0 : (nI (pk a b) &&& 31) - 1 = b.2.2 := by
    rw [m5 _ hp, show pk a b % 32 = stN b.2.2 by unfold pk; omega, st_m1 (by omega) h.2.2.2.2]
  have w1 : ((nI (pk a b) >>> ((5 : Int32) &&& 31)) &&& 31) - 1 = b.2.1 := by
    rw [show (5 : Int32) = nI 5 from rfl, sh 5 (by omega), m5 _ (by omega), show pk a b / 2 ^ 5 % 32 = stN b.2.1 by unfold pk; omega, st_m1 (by omega) h.2.2.2.1]
  have w2 : ((nI (pk a b) >>> ((10 : Int32) &&& 31)) &&& 31) - 1 = a.2.2 := by
    rw [show (10 : Int32) = nI 10 from rfl, sh 10 (by omega), m5 _ (by omega), show pk a b / 2 ^ 10 % 32 = stN a.2.2 by unfold pk; omega, st_m1 (by omega) h.2.2.1.2]
  have w3 : ((nI (pk a b) >>> ((15 : Int32) &&& 31)) &&& 31) - 1 = a.2.1 := by
    rw [show (15 : Int32) = nI 15 from rfl, sh 15 (by omega), m5 _ (by omega), show pk a b / 2 ^ 15 % 32 = stN a.2.1 by unfold pk; omega, st_m1 (by omega) h.2.2.1.1]
  have w4 : ((nI (pk a b) >>> ((20 : Int32) &&& 31)) &&& 15) - 1 = b.1 := by
    rw [show (20 : Int32) = nI 20 from rfl, sh 20 (by omega), m4 _ (by omega), show pk a b / 2 ^ 20 % 16 = stN b.1 by unfold pk; omega, st_m1 (by omega) h.2.1]
  have w5 : ((nI (pk a b) >>> ((24 : Int32) &&& 31)) &&& 15) - 1 = a.1 := by
    rw [show (24 : Int32) = nI 24 from rfl, sh 24 (by omega), m4 _ (by omega), show pk a b / 2 ^ 24 % 16 = stN a.1 by unfold pk; omega, st_m1 (by omega) h.1]
  unfold f_X8_unpack
  simp only [lt_d]
  rw [w0, w1, w2, w3, w4, w5]
  refine yRet ⟨?_, ?_, ?_⟩
  · exact (((((Fr.refl.ud (by omega)).ud (by omega)).ud (by omega)).ud (by omega)).ud (by omega)).ud (by omega)
  · unfold getGo; simp [ud_at]
  · unfold getGo; simp [ud_at]
/-- the class holds the list -/
def RC (D : Dm) (N : List Nd) : Prop := N.length ≤ 1351 ∧ D 25 14 = nI N.length ∧ (∀ i, i < N.length → D 27 i = nI (pk (N.getD i nd0).1.1 (N.getD i nd0).1.2) ∧ D 31 i = nI (nN (N.getD i nd0)) ∧ D 30 i = nI (nU (N.getD i nd0)) ∧ D 29 i = (nL (N.getD i nd0)).1 * 1000 + (nL (N.getD i nd0)).2 ∧ (0 < i → D 28 i = nI (nP (N.getD i nd0)))) ∧
  ∀ c, c < 41250 → (D 26 (c / 32)).toBitVec.getLsbD (c % 32) = (cds N).contains c
theorem RC.fr {D D' : Dm} {N : List Nd} (h : RC D N) (h14 : D' 25 14 = D 25 14) (hF : ∀ j k, 26 ≤ j → j ≤ 31 → D' j k = D j k) : RC D' N := by
  obtain ⟨h0, h1, h2, h3⟩ := h
  refine ⟨h0, by rw [h14, h1], fun i hi => ?_, fun c hc => ?_⟩
  · rw [hF _ _ (by omega) (by omega), hF _ _ (by omega) (by omega), hF _ _ (by omega) (by omega), hF _ _ (by omega) (by omega), hF _ _ (by omega) (by omega)]
    exact h2 i hi
  · rw [hF _ _ (by omega) (by omega)]; exact h3 c hc
abbrev SE (j k : Nat) : Prop := (26 ≤ j ∧ j ≤ 31) ∨ j = 40 ∨ (j = 25 ∧ k = 14)
def frN (N : List Nd) (fm : Option Nat) : Nat × Nat := match fm with
  | none => (0, 0)
  | some k => (nN (N.getD k nd0) + 1, nU (N.getD k nd0))
theorem contains_app {L : List Nat} {x c : Nat} : (L ++ [x]).contains c = (L.contains c || decide (c = x)) := by
  rw [Bool.eq_iff_iff, contains_iff, List.mem_append, Bool.or_eq_true, contains_iff, decide_eq_true_eq]
  simp
theorem mx21 : ∀ a, a < 30 → ∀ b, b < 30 → mxI (nI a) (nI b) = nI (max a b) := by decide +kernel
theorem enter_ok {D : Dm} {N : List Nd} (hR : RC D N) {fm : Option Nat} (hf : ∀ k, fm = some k → k < N.length ∧ nU (N.getD k nd0) ≤ 20 ∧ nN (N.getD k nd0) < 20) (h0 : fm = none → N = []) {y nm : Int32} {m : Nat} (hm : nm = nI m) (hm2 : m ≤ 20) {a b : Cf} (ha : getGo D 36 = a) (hb : getGo D 38 = b) (hP : okP a b) (hroom : (cds N).contains (cod a b) = false → N.length < 1351) :
    Y (f_X8_enter (oI fm) y nm D) (fun r => Fr SE D r.2 ∧ (((cds N).contains (cod a b) = true ∧ r.1 = 0 ∧ RC r.2 N) ∨ ((cds N).contains (cod a b) = false ∧ r.1 = 1 ∧ RC r.2 (N ++ [((a, b), fm.getD 0, (y, nm), (frN N fm).1, if fm = none then 0 else max (frN N fm).2 (m + 1))])))) := by
  obtain ⟨hl, h14, hi, hs⟩ := id hR
  unfold f_X8_enter
  refine yLt0 (yLt0 (yLt0 (yLt (fun D1 hD1 => ?_))))
  have hF1 : Fr (fun j k => j = 40) D D1 := by
    rw [hD1]
    exact Fr.ud (S := fun j k => j = 40) (Fr.ud (S := fun j k => j = 40) (Fr.ud (S := fun j k => j = 40) (Fr.ud (S := fun j k => j = 40) Fr.refl rfl) rfl) rfl) rfl
  have ax : D 36 0 = a.1 ∧ D 37 0 = a.2.1 ∧ D 37 1 = a.2.2 := by rw [← ha]; exact ⟨rfl, rfl, rfl⟩
  have bx : D 38 0 = b.1 ∧ D 39 0 = b.2.1 ∧ D 39 1 = b.2.2 := by rw [← hb]; exact ⟨rfl, rfl, rfl⟩
  have hX : ∀ r, r < 4 → D1 40 r = xs4 a b r := by
    intro r hr
    have : r = 0 ∨ r = 1 ∨ r = 2 ∨ r = 3 := by omega
    rw [hD1]
    rcases this with rfl | rfl | rfl | rfl <;> simp [ud_at, xs4, ax, bx]
  rw [like_ok, bI_d, lik_congr hX]
  have s1 := stN_ok (by omega) hP.1
  have s2 := stN_ok (by omega) hP.2.1
  have hc := cod_lt hP.1 hP.2.1
  have ekey : ((((D1 36 0 + 1) * 11 + D1 38 0) + 1) * 625) + nI (lik (xs4 a b)) = nI (cod a b) := by
    rw [hF1 36 0 (by omega), hF1 38 0 (by omega), ax.1, bx.1, s1.1, Int32.add_assoc, s2.1, show (11 : Int32) = nI 11 from rfl, nI_mul, nI_add, show (625 : Int32) = nI 625 from rfl, nI_mul, nI_add]
    rfl
  rw [ekey, lt_d, lt_d]
  generalize hcc : cod a b = c at *
  have esh : nI c >>> ((5 : Int32) &&& 31) = nI (c / 32) := by
    rw [show (5 : Int32) = nI 5 from rfl, pk_shrN (by omega) _ 5 (by decide)]
  have eand : (nI c &&& 31) = nI (c % 32) := pk_andN (by omega) 5 (by decide)
  rw [esh, eand, nI_clamp (by omega)]
  have c32 : c % 32 < 32 := Nat.mod_lt _ (by omega)
  refine yGd (inB_nI (by omega) (by omega)) ?_
  have R1 : RC D1 N := hR.fr (hF1 _ _ (by omega)) (fun j k h1 h2 => hF1 j k (by omega))
  have hbit := hs c hc
  rw [← hF1 26 (c / 32) (by omega)] at hbit
  have h14' : D1 25 14 = nI N.length := by rw [hF1 _ _ (by omega)]; exact h14
  rw [h14']
  refine yIte (fun hz => ?_) (fun hz => yRet ⟨hF1.mono (fun j k q => by unfold SE; omega), Or.inl ⟨?_, rfl, R1⟩⟩)
  · have hnc : (cds N).contains c = false := by rw [← hbit]; exact (bit_and c32).mp hz
    have hrm := hroom hnc
    refine yPos (show nI N.length < nI 1351 from nI_lt hrm (by omega)) (yGd (inB_nI (by omega) (by omega)) (yGd (inB_nI (by omega) (by omega)) (yLt (fun D2 hD2 => ?_))))
    have hF2 : Fr (fun j k => j = 26) D1 D2 := by rw [hD2]; exact Fr.ud (S := fun j k => j = 26) Fr.refl rfl
    rw [pack_ok (D := D2) (a := a) (b := b) (by rw [hF2 _ _ (by omega), hF1 _ _ (by omega)]; exact ax.1) (by rw [hF2 _ _ (by omega), hF1 _ _ (by omega)]; exact bx.1) (fun r hr => by rw [hF2 _ _ (by omega)]; exact hX r hr) hP, bI_d]
    have g14 : D2 25 14 = nI N.length := by rw [hF2 _ _ (by omega)]; exact h14'
    rw [g14, nI_clamp (by omega)]
    refine yGd (inB_nI (by omega) (by omega)) (yLt (fun D3 hD3 => ?_))
    have g14 : D3 25 14 = nI N.length := by rw [hD3, ud_at, if_neg (by omega)]; exact g14
    rw [g14, nI_clamp (by omega)]
    refine yGd (inB_nI (by omega) (by omega)) (yLt (fun D4 hD4 => ?_))
    have g14 : D4 25 14 = nI N.length := by rw [hD4, ud_at, if_neg (by omega)]; exact g14
    rw [g14, nI_clamp (by omega)]
    refine yGd (inB_nI (by omega) (by omega)) (yLt (fun D5 hD5 => ?_))
    have g14 : D5 25 14 = nI N.length := by rw [hD5, ud_at, if_neg (by omega)]; exact g14
    rw [g14]
    have hF5 : Fr (fun j k => (j = 27 ∨ j = 28 ∨ j = 29) ∧ k = N.length) D2 D5 := by
      rw [hD5, hD4, hD3]
      exact ((Fr.refl.ud (by omega)).ud (by omega)).ud (by omega)
    have fin : ∀ (L U : Nat) (D6 : Dm), L = (frN N fm).1 → U = (if fm = none then 0 else max (frN N fm).2 (m + 1)) → D6 = ud (ud (ud D5 31 N.length (nI L)) 30 N.length (nI U)) 25 14 (nI (N.length + 1)) → Fr SE D D6 ∧ (((cds N).contains c = true ∧ (1 : Int32) = 0 ∧ RC D6 N) ∨ ((cds N).contains c = false ∧ (1 : Int32) = 1 ∧ RC D6 (N ++ [((a, b), fm.getD 0, (y, nm), (frN N fm).1, if fm = none then 0 else max (frN N fm).2 (m + 1))]))) := by
      intro L U D6 hL hU hD6
      have hF6 : Fr SE D D6 := by
        rw [hD6]
        refine Fr.ud (Fr.ud (Fr.ud ?_ (by unfold SE; omega)) (by unfold SE; omega)) (by unfold SE; omega)
        exact (hF1.mono (fun j k q => by unfold SE; omega)).tr ((hF2.mono (fun j k q => by unfold SE; omega)).tr (hF5.mono (fun j k q => by unfold SE; omega)))
      refine ⟨hF6, Or.inr ⟨hnc, rfl, ?_, ?_, fun i hi2 => ?_, fun c' hc' => ?_⟩⟩
      · simp; omega
      · rw [hD6, ud_at, if_pos ⟨rfl, rfl⟩]; simp
      · simp at hi2
        rw [getD_app]
        by_cases e : i < N.length
        · rw [if_pos e, hD6]
          have o : ∀ j, 27 ≤ j → j ≤ 31 → ud (ud (ud D5 31 N.length (nI L)) 30 N.length (nI U)) 25 14 (nI (N.length + 1)) j i = D j i := fun j h1 h2 => by
            rw [ud_at, if_neg (by omega), ud_at, if_neg (by omega), ud_at, if_neg (by omega), hF5 _ _ (by omega), hF2 _ _ (by omega), hF1 _ _ (by omega)]
          rw [o 27 (by omega) (by omega), o 28 (by omega) (by omega), o 29 (by omega) (by omega), o 30 (by omega) (by omega), o 31 (by omega) (by omega)]
          exact hi i e
        · have ei : i = N.length := by omega
          rw [if_neg e, if_pos ei, ei, hD6]
          refine ⟨?_, ?_, ?_, ?_, fun hpos => ?_⟩
          · rw [ud_at, if_neg (by omega), ud_at, if_neg (by omega), ud_at, if_neg (by omega), hD5, ud_at, if_neg (by omega), hD4, ud_at, if_neg (by omega), hD3, ud_at, if_pos ⟨rfl, rfl⟩]
          · rw [ud_at, if_neg (by omega), ud_at, if_neg (by omega), ud_at, if_pos ⟨rfl, rfl⟩, hL]; rfl
          · rw [ud_at, if_neg (by omega), ud_at, if_pos ⟨rfl, rfl⟩, hU]; rfl
          · rw [ud_at, if_neg (by omega), ud_at, if_neg (by omega), ud_at, if_neg (by omega), hD5, ud_at, if_pos ⟨rfl, rfl⟩]; rfl
          · rw [ud_at, if_neg (by omega), ud_at, if_neg (by omega), ud_at, if_neg (by omega), hD5, ud_at, if_neg (by omega), hD4, ud_at, if_pos ⟨rfl, rfl⟩]
            cases fm with
            | none => have := h0 rfl; rw [this] at hpos; simp at hpos
            | some k => rfl
      · have e26 : D6 26 (c' / 32) = D2 26 (c' / 32) := by
          rw [hD6, ud_at, if_neg (by omega), ud_at, if_neg (by omega), ud_at, if_neg (by omega), hF5 _ _ (by omega)]
        have ec : cds (N ++ [((a, b), fm.getD 0, (y, nm), (frN N fm).1, if fm = none then 0 else max (frN N fm).2 (m + 1))]) = cds N ++ [c] := by
          unfold cds
          rw [List.map_append]
          simp [hcc]
        rw [e26, ec, contains_app, hD2, ud_at]
        have h1 := hs c' hc'
        by_cases e : c' / 32 = c / 32
        · rw [if_pos ⟨rfl, e⟩, bit_or c32, hF1 26 _ (by omega), ← e, h1]
          congr 1
          apply decide_eq_decide.mpr
          constructor
          · intro q; omega
          · intro q; rw [q]
        · rw [if_neg (by omega), hF1 26 _ (by omega), h1, decide_eq_false (fun q => e (by rw [q])), Bool.or_false]
    cases fm with
    | none =>
      refine yPos rfl ?_
      unfold f_X8_enter_207 f_X8_enter_237
      refine yGd (inB_nI (by omega) (by omega)) (yLt0 (yPos rfl ?_))
      have q14 : ud D5 31 (nI N.length).toNatClampNeg 0 25 14 = nI N.length := by rw [ud_at, if_neg (by omega)]; exact g14
      rw [q14]
      refine yGd (inB_nI (by omega) (by omega)) (yLt0 (yLt0 (yRet (fin 0 0 _ rfl rfl ?_))))
      rw [nI_clamp (by omega), nI_0, ud_at, if_neg (by omega), ud_at, if_neg (by omega), g14, nI_1]
    | some k =>
      obtain ⟨hk, hu, hn⟩ := hf k rfl
      obtain ⟨-, n31, n30, -⟩ := hi k hk
      refine yNeg (nI_n1 (by omega)) (yGd (inB_nI (by omega) (by omega)) ?_)
      show Y (f_X8_enter_207 (nI k) nm ((D5 31 (nI k).toNatClampNeg) + 1) (nI N.length) D5) _
      have v31 : D5 31 k = nI (nN (N.getD k nd0)) := by rw [hF5 _ _ (by omega), hF2 _ _ (by omega), hF1 _ _ (by omega)]; exact n31
      have v30 : D5 30 k = nI (nU (N.getD k nd0)) := by rw [hF5 _ _ (by omega), hF2 _ _ (by omega), hF1 _ _ (by omega)]; exact n30
      rw [nI_clamp (by omega), v31, nI_1]
      unfold f_X8_enter_207 f_X8_enter_237
      rw [nI_clamp (show N.length < 2 ^ 31 by omega), nI_clamp (show k < 2 ^ 31 by omega)]
      refine yGd (inB_nI (by omega) (by omega)) (yLt0 (yNeg (nI_n1 (by omega)) (yGd (inB_nI (by omega) (by omega)) ?_)))
      have q14 : ud D5 31 N.length (nI (nN (N.getD k nd0) + 1)) 25 14 = nI N.length := by rw [ud_at, if_neg (by omega)]; exact g14
      have q30 : ud D5 31 N.length (nI (nN (N.getD k nd0) + 1)) 30 k = nI (nU (N.getD k nd0)) := by rw [ud_at, if_neg (by omega)]; exact v30
      rw [q14, q30, hm, nI_1, mx21 _ (by omega) _ (by omega)]
      refine yGd (inB_nI (by omega) (by omega)) (yLt0 (yLt0 (yRet ?_)))
      rw [← hm]
      refine fin _ _ _ rfl rfl ?_
      rw [nI_clamp (by omega), ud_at, if_neg (by omega), ud_at, if_neg (by omega), g14, nI_1]
      rfl
  · rw [← hbit]
    cases hq : (D1 26 (c / 32)).toBitVec.getLsbD (c % 32) with
    | true => rfl
    | false => exact absurd ((bit_and c32).mpr hq) hz
