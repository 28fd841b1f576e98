/-! ===== the scanner of the reference ===== -/
def RPb (E : Dm) (c : Nat → Nat) (n : Nat) : Prop := n ≤ 500 ∧ E 281 8 = nI n ∧ ∀ k, k < n → c k < 256 ∧ E 284 k = sb (c k)
abbrev SSP9 (j k : Nat) : Prop := j = 281 ∧ k = 9
theorem RPb.fr {E E' : Dm} {c : Nat → Nat} {n : Nat} (h : RPb E c n) (h2 : E' 281 8 = E 281 8) (hF : ∀ k, E' 284 k = E 284 k) : RPb E' c n := ⟨h.1, by rw [h2]; exact h.2.1, fun k hk => by rw [hF]; exact h.2.2 k hk⟩
theorem RPb.s {E E' : Dm} {c : Nat → Nat} {n : Nat} (h : RPb E c n) (hF : Fr SSP9 E E') : RPb E' c n := h.fr (hF _ _ (by unfold SSP9; omega)) (fun k => hF _ _ (by unfold SSP9; omega))
theorem peek_ok {E : Dm} {c : Nat → Nat} {n s : Nat} (h : RPb E c n) (hs : s ≤ 501) (h9 : E 281 9 = nI s) : f_X12_peek E = some (if s < n then nI (c s) else -1, E) := by
  obtain ⟨n5, h8, hby⟩ := h
  unfold f_X12_peek
  rw [h8, h9]
  by_cases e : s < n
  · obtain ⟨b1, b2⟩ := hby s e
    rw [if_neg (nI_nle2 e (by omega)), gd_t (inB_nI (by omega) (by omega)), nI_clamp (by omega), b2, sb_and _ b1, if_pos e]
  · rw [if_pos (nI_le (by omega) (by omega)), if_neg e]
theorem blanks_ok {E : Dm} {c : Nat → Nat} {n s : Nat} (h : RPb E c n) (hs : s ≤ 501) (h9 : E 281 9 = nI s) : Y (f_X12_blanks E) (fun E' => Fr SSP9 E E' ∧ E' 281 9 = nI (blk c n s)) := by
  have n5 := h.1
  have loop : ∀ (j q z : Nat) (E1 : Dm), n - q ≤ j → q ≤ 501 → Fr SSP9 E E1 → E1 281 9 = nI q → Y (f_X12_blanks_0 (j + 1 + z) E1) (fun E' => Fr SSP9 E E' ∧ E' 281 9 = nI (blk c n q)) := by
    intro j
    induction j with
    | zero =>
      intro q z E1 hq hq2 hF h9'
      rw [show 0 + 1 + z = z + 1 by omega]
      show Y (f_X12_blanks_0_b _ _) _
      unfold f_X12_blanks_0_b
      rw [peek_ok (h.s hF) hq2 h9', bI_d, if_neg (show ¬ q < n by omega)]
      refine yNeg (show ¬ (-1 : Int32) = 32 by decide) (yRet ⟨hF, ?_⟩)
      rw [show blk c n q = q from re_stop (fun z => by omega)]; exact h9'
    | succ j ih =>
      intro q z E1 hq hq2 hF h9'
      rw [show j + 1 + 1 + z = (j + 1 + z) + 1 by omega]
      show Y (f_X12_blanks_0_b _ _) _
      unfold f_X12_blanks_0_b
      rw [peek_ok (h.s hF) hq2 h9', bI_d]
      by_cases e : q < n
      · have b1 := (h.2.2 q e).1
        rw [if_pos e]
        by_cases e2 : c q = 32
        · refine yPos (by rw [e2]; rfl) (yLt0 ?_)
          rw [h9', nI_1, show blk c n q = blk c n (q + 1) from re_step e (by unfold isB; rw [decide_eq_true e2])]
          exact ih (q + 1) z _ (by omega) (by omega) (hF.ud ⟨rfl, rfl⟩) (by rw [ud_at, if_pos ⟨rfl, rfl⟩])
        · refine yNeg (fun q' => e2 (nI_inj (by omega) (by omega) (show nI (c q) = nI 32 from q'))) (yRet ⟨hF, ?_⟩)
          rw [show blk c n q = q from re_stop (fun z => by unfold isB at z; exact e2 (of_decide_eq_true z.2))]; exact h9'
      · rw [if_neg e]
        refine yNeg (show ¬ (-1 : Int32) = 32 by decide) (yRet ⟨hF, ?_⟩)
        rw [show blk c n q = q from re_stop (fun z => e z.1)]; exact h9'
  unfold f_X12_blanks
  obtain ⟨z, hz⟩ := FUs n (by omega)
  rw [hz]
  exact loop n s z E (by omega) hs Fr.refl h9
theorem blk_le {c : Nat → Nat} {n s : Nat} (h : s ≤ n) : s ≤ blk c n s ∧ blk c n s ≤ n := re_le h
theorem blk_id {c : Nat → Nat} {n s : Nat} (h : s ≤ n) : blk c n (blk c n s) = blk c n s := re_idem h
/-- the words in a row -/
def off (w : Nat) : Nat := [0, 7, 17, 25, 32, 37, 42, 46, 49, 54, 59, 61, 63].getD w 0
def lenW (w : Nat) : Nat := [6, 9, 7, 6, 4, 4, 3, 2, 4, 4, 1, 1].getD w 0
theorem wd_1 : ∀ w, w < 12 → off w + lenW w + 1 = off (w + 1) ∧ 1 ≤ lenW w ∧ lenW w ≤ 9 ∧ off w + lenW w < 63 ∧ off w < 63 := by decide +kernel
theorem wd_2 : slN 13 = 63 := by decide +kernel
theorem wd_3 : ∀ w, w < 12 → chN 13 (off w + lenW w) = 32 ∧ ∀ j, j < lenW w → isA (chN 13 (off w + j)) = true := by decide +kernel
def sameW (w w' : Nat) : Bool := decide (lenW w = lenW w') && (List.range (lenW w)).all (fun j => decide (chN 13 (off w + j) = chN 13 (off w' + j)))
theorem wd_4 : ∀ w, w < 12 → ∀ w', w' < 12 → sameW w w' = true → w = w' := by decide +kernel
def rEq (c : Nat → Nat) (n p w : Nat) : Bool := decide (re isA c n p - p = lenW w) && (List.range (lenW w)).all (fun j => decide (c (p + j) = chN 13 (off w + j)))
theorem rEq_t {c : Nat → Nat} {n p w : Nat} : rEq c n p w = true ↔ re isA c n p - p = lenW w ∧ ∀ j, j < lenW w → c (p + j) = chN 13 (off w + j) := by
  unfold rEq
  rw [Bool.and_eq_true, decide_eq_true_eq, List.all_eq_true]
  constructor
  · exact fun h => ⟨h.1, fun j hj => of_decide_eq_true (h.2 j (List.mem_range.mpr hj))⟩
  · exact fun h => ⟨h.1, fun j hj => decide_eq_true (h.2 j (List.mem_range.mp hj))⟩
theorem rEq_u {c : Nat → Nat} {n p w w' : Nat} (hw : w < 12) (hw' : w' < 12) (h : rEq c n p w = true) (h' : rEq c n p w' = true) : w = w' := by
  rw [rEq_t] at h h'
  apply wd_4 w hw w' hw'
  unfold sameW
  rw [Bool.and_eq_true, decide_eq_true_eq, List.all_eq_true]
  refine ⟨by omega, fun j hj => decide_eq_true ?_⟩
  have hj := List.mem_range.mp hj
  rw [← h.2 j hj, ← h'.2 j (by omega)]
section
variable {E : Dm} {c : Nat → Nat} {n p : Nat}
/-- one word of the row -/
theorem w99 (hb : RPb E c n) (hp : p ≤ n) (h9 : E 281 9 = nI p) {k46 : Int32 → Int32 → Int32 → Dm → Option (Int32 × Dm)} {w : Nat} (hw : w < 12) {x1 : Int32} (hl : re isA c n p - p = lenW w) : ∀ (j i z : Nat), i + j = lenW w → ∀ m : Nat, (m = 1 ∧ (∀ q, q < i → c (p + q) = chN 13 (off w + q))) ∨ (m = 0 ∧ rEq c n p w = false) → f_X12_wordNext_99 k46 (j + 1 + z) x1 (nI w) (nI (off w)) (nI (lenW w)) (nI m) (nI i) E = if rEq c n p w = true then some (nI w, E) else k46 x1 (nI (w + 1)) (nI (off (w + 1))) E := by
  obtain ⟨n5, h8, hby⟩ := id hb
  obtain ⟨o1, o2, o3, o4, o5⟩ := wd_1 w hw
  have rle := re_le (P := isA) (c := c) (n := n) (q := p) hp
  have fin : ∀ m : Nat, (m = 1 ∧ rEq c n p w = true) ∨ (m = 0 ∧ rEq c n p w = false) → f_X12_wordNext_148 k46 x1 (nI w) (nI (off w)) (nI (lenW w)) (nI m) E = if rEq c n p w = true then some (nI w, E) else k46 x1 (nI (w + 1)) (nI (off (w + 1))) E := fun m hm => by
    unfold f_X12_wordNext_148
    rcases hm with ⟨rfl, e⟩ | ⟨rfl, e⟩
    · rw [if_neg (by decide), e, if_pos rfl]
    · rw [if_pos nI_0, e, if_neg (by decide), lt_d, lt_d, nI_1, nI_1, nI_add, show off w + (lenW w + 1) = off (w + 1) by omega]
  intro j
  induction j with
  | zero =>
    intro i z hi m hm
    rw [show 0 + 1 + z = z + 1 by omega]
    show f_X12_wordNext_99_b _ _ _ _ _ _ _ _ _ = _
    unfold f_X12_wordNext_99_b
    rw [if_pos (nI_le (by omega) (by omega))]
    refine fin m ?_
    rcases hm with ⟨e, ha⟩ | hm
    · exact Or.inl ⟨e, rEq_t.mpr ⟨hl, fun q hq => ha q (by omega)⟩⟩
    · exact Or.inr hm
  | succ j ih =>
    intro i z hi m hm
    rw [show j + 1 + 1 + z = (j + 1 + z) + 1 by omega]
    show f_X12_wordNext_99_b _ _ _ _ _ _ _ _ _ = _
    unfold f_X12_wordNext_99_b f_X12_wordNext_140
    rw [if_neg (nI_nle2 (by omega) (by omega))]
    rcases hm with ⟨rfl, ha⟩ | ⟨rfl, hf⟩
    · obtain ⟨b1, b2⟩ := hby (p + i) (by omega)
      obtain ⟨s1, s2⟩ := ch_ok1 13 (by omega) (off w + i) (by rw [wd_2]; omega)
      rw [if_neg (by decide), h9, nI_add, nI_add, gd_t (inB_nI (by omega) (by omega)), gd_t (inB_nI (by rw [wd_2]; omega) (by rw [wd_2]; omega)), nI_clamp (by omega), nI_clamp (by omega), b2, s1]
      by_cases ce : c (p + i) = chN 13 (off w + i)
      · rw [if_pos ((sb_eq b1 s2).mpr ce), lt_d, nI_1]
        refine ih (i + 1) z (by omega) 1 (Or.inl ⟨rfl, fun q hq => ?_⟩)
        by_cases eq : q = i
        · rw [eq]; exact ce
        · exact ha q (by omega)
      · rw [if_neg (fun q => ce ((sb_eq b1 s2).mp q)), lt_d, nI_1, ← nI_0]
        refine ih (i + 1) z (by omega) 0 (Or.inr ⟨rfl, ?_⟩)
        rw [Bool.eq_false_iff]
        intro q
        exact ce ((rEq_t.mp q).2 i (by omega))
    · rw [if_pos nI_0]
      exact fin 0 (Or.inr ⟨rfl, hf⟩)
theorem w58 (hb : RPb E c n) (hp : p ≤ n) (h9 : E 281 9 = nI p) {k46 : Int32 → Int32 → Int32 → Dm → Option (Int32 × Dm)} {w : Nat} (hw : w < 12) : ∀ (j i z : Nat), i + j = lenW w → f_X12_wordNext_58 k46 (j + 1 + z) (nI (re isA c n p)) (nI w) (nI (off w)) (nI i) E = if rEq c n p w = true then some (nI w, E) else k46 (nI (re isA c n p)) (nI (w + 1)) (nI (off (w + 1))) E := by
  have n5 := hb.1
  obtain ⟨o1, o2, o3, o4, o5⟩ := wd_1 w hw
  obtain ⟨s32, sA⟩ := wd_3 w hw
  have rle := re_le (P := isA) (c := c) (n := n) (q := p) hp
  intro j
  induction j with
  | zero =>
    intro i z hi
    have hi : i = lenW w := by omega
    subst hi
    rw [show 0 + 1 + z = z + 1 by omega]
    show f_X12_wordNext_58_b _ _ _ _ _ _ _ = _
    unfold f_X12_wordNext_58_b f_X12_wordNext_94
    obtain ⟨s1, s2⟩ := ch_ok1 13 (by omega) (off w + lenW w) (by rw [wd_2]; omega)
    rw [nI_add, gd_t (inB_nI (by rw [wd_2]; omega) (by rw [wd_2]; omega)), nI_clamp (by omega), s1, s32, if_pos (show nI 32 = 32 from rfl), h9, nI_sub rle.1]
    obtain ⟨z', hz⟩ := FUs (lenW w) (by omega)
    by_cases e : re isA c n p - p = lenW w
    · have := w99 hb hp h9 (k46 := k46) hw (x1 := nI (re isA c n p)) e (lenW w) 0 z' (by omega) 1 (Or.inl ⟨rfl, fun q hq => absurd hq (Nat.not_lt_zero q)⟩)
      rw [nI_0] at this
      rw [if_pos (by rw [e]), hz]
      exact this
    · have hf : rEq c n p w = false := by
        rw [Bool.eq_false_iff]
        intro q
        exact e (rEq_t.mp q).1
      rw [if_neg (fun q => e (nI_inj (by omega) (by omega) q).symm), hz, hf, if_neg (by decide), show lenW w + 1 + z' = (lenW w + z') + 1 by omega]
      show f_X12_wordNext_99_b _ _ _ _ _ _ _ _ _ = _
      unfold f_X12_wordNext_99_b f_X12_wordNext_148
      rw [if_neg (show ¬ nI (lenW w) ≤ 0 from nI_nle2 (a := 0) (b := lenW w) (by omega) (by omega)), if_pos rfl, if_pos rfl, lt_d, lt_d, nI_1, nI_1, nI_add, show off w + (lenW w + 1) = off (w + 1) by omega]
  | succ j ih =>
    intro i z hi
    rw [show j + 1 + 1 + z = (j + 1 + z) + 1 by omega]
    show f_X12_wordNext_58_b _ _ _ _ _ _ _ = _
    unfold f_X12_wordNext_58_b
    obtain ⟨s1, s2⟩ := ch_ok1 13 (by omega) (off w + i) (by rw [wd_2]; omega)
    have := sA i (by omega)
    rw [isA_r, rng_t] at this
    rw [nI_add, gd_t (inB_nI (by rw [wd_2]; omega) (by rw [wd_2]; omega)), nI_clamp (by omega), s1, if_neg (fun q => by have := nI_inj (by omega) (by omega) (show nI (chN 13 (off w + i)) = nI 32 from q); omega), lt_d, nI_1]
    exact ih (i + 1) z (by omega)
/-- the number of the word at p, none: -1 -/
def wIx (c : Nat → Nat) (n p : Nat) : Nat → Int32
  | 0 => -1
  | j + 1 => if rEq c n p (12 - (j + 1)) = true then nI (12 - (j + 1)) else wIx c n p j
theorem w46 (hb : RPb E c n) (hp : p ≤ n) (h9 : E 281 9 = nI p) : ∀ (j w z : Nat), w + j = 12 → f_X12_wordNext_46 (j + 1 + z) (nI (re isA c n p)) (nI w) (nI (off w)) E = some (wIx c n p j, E) := by
  intro j
  induction j with
  | zero =>
    intro w z hw
    rw [show 0 + 1 + z = z + 1 by omega]
    show f_X12_wordNext_46_b _ _ _ _ _ = _
    unfold f_X12_wordNext_46_b
    have : w = 12 := by omega
    subst this
    rw [if_pos (show slI 13 ≤ nI (off 12) by decide)]
    rfl
  | succ j ih =>
    intro w z hw
    rw [show j + 1 + 1 + z = (j + 1 + z) + 1 by omega]
    show f_X12_wordNext_46_b _ _ _ _ _ = _
    unfold f_X12_wordNext_46_b
    obtain ⟨o1, o2, o3, o4, o5⟩ := wd_1 w (by omega)
    rw [if_neg (show ¬ slI 13 ≤ nI (off w) from nI_nle2 (a := off w) (b := slN 13) (by rw [wd_2]; omega) (by rw [wd_2]; omega))]
    obtain ⟨z', hz⟩ := FUs (lenW w) (by omega)
    have := w58 hb hp h9 (k46 := f_X12_wordNext_46 (j + 1 + z)) (w := w) (by omega) (lenW w) 0 z' (by omega)
    rw [nI_0] at this
    rw [hz, this, ih (w + 1) z (by omega)]
    show _ = some (if rEq c n p (12 - (j + 1)) = true then nI (12 - (j + 1)) else wIx c n p j, E)
    rw [show 12 - (j + 1) = w by omega]
    split <;> rfl
theorem wIx_t {w : Nat} (hw : w < 12) : ∀ j, j ≤ 12 → 12 - j ≤ w → (wIx c n p j = nI w ↔ rEq c n p w = true) := by
  intro j
  induction j with
  | zero => intro _ h; omega
  | succ j ih =>
    intro h1 h2
    show (if rEq c n p (12 - (j + 1)) = true then nI (12 - (j + 1)) else wIx c n p j) = nI w ↔ _
    by_cases e : rEq c n p (12 - (j + 1)) = true
    · rw [if_pos e]
      constructor
      · intro h
        have := nI_inj (by omega) (by omega) h
        rw [← this]; exact e
      · intro h
        rw [rEq_u (by omega) hw e h]
    · rw [if_neg e]
      by_cases e2 : 12 - (j + 1) = w
      · rw [e2] at e
        constructor
        · intro h
          exfalso
          have ge : ∀ i, wIx c n p i = nI w → ∃ v, 12 - i ≤ v ∧ v < 12 ∧ nI v = nI w := by
            intro i
            induction i with
            | zero => intro h; exact absurd h.symm (nI_n1 (by omega))
            | succ i ih2 =>
              intro h
              change (if rEq c n p (12 - (i + 1)) = true then nI (12 - (i + 1)) else wIx c n p i) = nI w at h
              by_cases e3 : rEq c n p (12 - (i + 1)) = true
              · rw [if_pos e3] at h
                exact ⟨12 - (i + 1), Nat.le_refl _, by omega, h⟩
              · rw [if_neg e3] at h
                obtain ⟨v, v1, v2, v3⟩ := ih2 h
                exact ⟨v, by omega, v2, v3⟩
          obtain ⟨v, v1, v2, v3⟩ := ge j h
          have := nI_inj (by omega) (by omega) v3
          omega
        · intro h; exact absurd h e
      · exact ih (by omega) (by omega)
end
