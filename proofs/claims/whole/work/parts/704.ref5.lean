/-! ===== the reference's bits are the class's kept names ===== -/
def sel (hs : List Nat) (S : Nat → Bool) : List Nat := ((List.range hs.length).filter S).map (fun e => hs.getD e 0)
def sl2 (s0 s1 : Bool) (e : Nat) : Bool := if e = 0 then s0 else s1
theorem sel_in : ∀ M, M < 5 → ∀ hs ∈ hss M, ∀ s0 s1 : Bool, sel hs (sl2 s0 s1) ∈ hss M := by decide +kernel
def bSel (M : Nat) (hs : List Nat) (s0 s1 : Bool) : Bool := (List.range 4).all (fun n => (bts (sel hs (sl2 s0 s1))).testBit n == (List.range hs.length).any (fun e => sl2 s0 s1 e && decide (hs.getD e 0 = n))) && decide (bts (sel hs (sl2 s0 s1)) < 16)
theorem sel_b : ∀ M, M < 5 → ∀ hs ∈ hss M, ∀ s0 s1 : Bool, bSel M hs s0 s1 = true := by decide +kernel
theorem sel_2 {hs : List Nat} {S : Nat → Bool} (h : hs.length ≤ 2) : sel hs S = sel hs (sl2 (S 0) (S 1)) := by
  unfold sel
  congr 1
  apply List.filter_congr
  intro e he
  have := List.mem_range.mp he
  have : e = 0 ∨ e = 1 := by omega
  rcases this with rfl | rfl <;> rfl
theorem kpN_sel {T : Tb} {acc : Int32} {ts : Tst} {b : Nat} {c : Cf} : kpN T acc ts b c = sel (hsN c) (fun e => (shE1 T acc ts c b e).isSome) := rfl
theorem kpN_in {T : Tb} {acc : Int32} {ts : Tst} {b M : Nat} {c : Cf} (hM : M < 5) (hc : okC c M) : kpN T acc ts b c ∈ hss M := by
  have hh := hsN_in hM hc
  rw [kpN_sel, sel_2 (hss_in M hM _ hh).1]
  exact sel_in M hM _ hh _ _
theorem tb_eq {a b : Nat} (ha : a < 16) (hb : b < 16) (h : ∀ n, n < 4 → a.testBit n = b.testBit n) : a = b := by
  apply Nat.eq_of_testBit_eq
  intro i
  by_cases hi : i < 4
  · exact h i hi
  · have e : 2 ^ 4 ≤ 2 ^ i := Nat.pow_le_pow_right (by omega) (by omega)
    rw [Nat.testBit_lt_two_pow (by omega), Nat.testBit_lt_two_pow (by omega)]
theorem RB_kp {T : Tb} {acc : Int32} {ts : Tst} {b M r : Nat} {c : Cf} (hM : M < 5) (hc : okC c M) (hT : okT ts b) : RB r M (shR T acc ts c M b) ↔ r = bts (kpN T acc ts b c) := by
  have hh := hsN_in hM hc
  obtain ⟨hl, hi⟩ := hss_in M hM _ hh
  have hb := sel_b M hM _ hh (shE1 T acc ts c b 0).isSome (shE1 T acc ts c b 1).isSome
  unfold bSel at hb
  rw [Bool.and_eq_true, decide_eq_true_eq, List.all_eq_true] at hb
  have hb : (∀ n, n < 4 → (bts (sel (hsN c) (sl2 (shE1 T acc ts c b 0).isSome (shE1 T acc ts c b 1).isSome))).testBit n = (List.range (hsN c).length).any (fun e => sl2 (shE1 T acc ts c b 0).isSome (shE1 T acc ts c b 1).isSome e && decide ((hsN c).getD e 0 = n))) ∧ bts (sel (hsN c) (sl2 (shE1 T acc ts c b 0).isSome (shE1 T acc ts c b 1).isSome)) < 16 := ⟨fun n hn => eq_of_beq (hb.1 n (List.mem_range.mpr hn)), hb.2⟩
  rw [kpN_sel, sel_2 hl]
  have key : ∀ n, n < 4 → (bts (sel (hsN c) (sl2 (shE1 T acc ts c b 0).isSome (shE1 T acc ts c b 1).isSome))).testBit n = (decide (n < M) && (shR T acc ts c M b n).isSome) := by
    intro n hn
    rw [hb.1 n hn]
    by_cases hk : (hsN c).contains n = true
    · obtain ⟨e, he, en⟩ := List.mem_iff_getElem.mp (contains_iff.mp hk)
      have en : (hsN c).getD e 0 = n := by rw [List.getD_eq_getElem?_getD, List.getElem?_eq_getElem he, en]; rfl
      have hnM : n < M := by rw [← en]; exact (hi e he).1
      rw [decide_eq_true hnM, Bool.true_and, ← en, shR_held hM hc hT he, Option.isSome_map]
      have h01 : e = 0 ∨ e = 1 := by omega
      have es : sl2 (shE1 T acc ts c b 0).isSome (shE1 T acc ts c b 1).isSome e = (shE1 T acc ts c b e).isSome := by rcases h01 with rfl | rfl <;> rfl
      cases hs : (shE1 T acc ts c b e).isSome with
      | true => exact List.any_eq_true.mpr ⟨e, List.mem_range.mpr he, by rw [es, hs]; simp⟩
      | false =>
        rw [List.any_eq_false]
        intro e' he'
        have he' := List.mem_range.mp he'
        by_cases q : e' = e
        · rw [q, es, hs]; simp
        · rw [decide_eq_false, Bool.and_false]
          · simp
          · intro h
            have := (hss_lt M hM _ hh).2 (e' + 1) (by omega) (e + 1) (by omega) (by omega) (by omega) (by simpa using h)
            omega
    · have hk' : (hsN c).contains n = false := by simpa using hk
      have r0 : (decide (n < M) && (shR T acc ts c M b n).isSome) = false := by
        by_cases hnM : n < M
        · rw [shR_out hM hc hT hnM hk']; simp
        · rw [decide_eq_false hnM]; rfl
      rw [r0, List.any_eq_false]
      intro e he
      have he := List.mem_range.mp he
      rw [decide_eq_false, Bool.and_false]
      · simp
      · intro h
        apply hk
        rw [← h]
        exact (hi e he).2
  constructor
  · rintro ⟨h1, h2⟩
    exact tb_eq h1 hb.2 (fun n hn => by rw [h2 n hn, key n hn])
  · rintro rfl
    exact ⟨hb.2, key⟩
theorem remembers_kp {D : Dm} {T : Tb} {acc : Int32} {ts : Tst} {b M fm : Nat} {l : List Lt} (hM : M < 5) (hMR : MR D 0 T acc) (hT : TR D ts b) (hL : LKm D l M) (hfm : fm ≤ b) :
    Y (f_X12_remembers (nI (bts (kpN T acc ts fm (run T c0 l)))) (nI fm) D) (fun a => Fr SRM D a.2 ∧ a.1 = nI (bts (kpN T acc ts b (run T c0 l)))) := by
  have hc : okC (run T c0 l) M := by
    obtain ⟨n, h1, h2, h3, h4⟩ := hL.lk
    refine run_okC (fun a ha => ?_)
    rw [h3] at ha
    obtain ⟨k, -, hk, rfl⟩ := lts_mem ha
    exact (h4 k (by omega)).2
  have hT' : okT ts fm := fun t ht => hT.okT t (by omega)
  refine yMono (remembers_ok hM hMR hT hL hfm ((RB_kp hM hc hT').mpr rfl)) (fun a h => ⟨h.1, ?_⟩)
  obtain ⟨r', e, hr⟩ := h.2
  rw [e, (RB_kp hM hc hT.okT).mp hr]
