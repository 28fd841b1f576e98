/-! ===== the scanner of the reference: words and numbers ===== -/
section
variable {E : Dm} {c : Nat → Nat} {n p : Nat}
theorem isIn_A {x : Nat} (hx : x < 256) : f_X12_isIn (Int32.toInt64 (sb x)) 97 122 E = some (b01 (isA x), E) := by
  rw [isIn_i (l := 97) (h := 122) rfl rfl, sb_toInt hx]
  unfold isA
  congr 2
  by_cases q : 97 ≤ x ∧ x ≤ 122
  · rw [if_pos (by rw [if_pos (by omega)]; omega), decide_eq_true q.1, decide_eq_true q.2]; rfl
  · rw [if_neg (by split <;> omega)]
    by_cases q1 : 97 ≤ x
    · rw [decide_eq_true q1, decide_eq_false (fun z => q ⟨q1, z⟩)]; rfl
    · rw [decide_eq_false q1]; rfl
theorem isIn_N {y : Int32} {q : Nat} (hq : q < n → c q < 256) (hy : y = if q < n then nI (c q) else -1) : f_X12_isIn (Int32.toInt64 y) 48 57 E = some (b01 (decide (q < n) && isN (c q)), E) := by
  rw [isIn_i (l := 48) (h := 57) rfl rfl, hy]
  unfold isN
  congr 2
  by_cases e : q < n
  · have := hq e
    rw [if_pos e, nI_toInt (by omega), decide_eq_true e]
    by_cases qq : 48 ≤ c q ∧ c q ≤ 57
    · rw [if_pos (by omega), decide_eq_true qq.1, decide_eq_true qq.2]; rfl
    · rw [if_neg (by omega)]
      by_cases q1 : 48 ≤ c q
      · rw [decide_eq_true q1, decide_eq_false (fun z => qq ⟨q1, z⟩)]; rfl
      · rw [decide_eq_false q1]; rfl
  · rw [if_neg e, decide_eq_false e, if_neg (by decide)]; rfl
theorem wordNext_ok {s : Nat} (hb : RPb E c n) (hs : s ≤ n) (h9 : E 281 9 = nI s) : Y (f_X12_wordNext E) (fun r => r.1 = wIx c n (blk c n s) 12 ∧ Fr SSP9 E r.2 ∧ r.2 281 9 = nI (blk c n s)) := by
  have n5 := hb.1
  unfold f_X12_wordNext
  refine yBV (blanks_ok hb (by omega) h9) (fun E1 h1 => yLt0 ?_)
  obtain ⟨F1, g9⟩ := h1
  have hb1 := hb.s F1
  have hp := blk_le (c := c) hs
  generalize blk c n s = p at *
  rw [g9]
  have loop : ∀ (j q z : Nat), q + j = n → re isA c n q = re isA c n p → Y (f_X12_wordNext_9 (j + 1 + z) (nI q) E1) (fun r => r.1 = wIx c n p 12 ∧ Fr SSP9 E r.2 ∧ r.2 281 9 = nI p) := by
    have fin : ∀ q, re isA c n p = q → Y (f_X12_wordNext_42 (nI q) E1) (fun r => r.1 = wIx c n p 12 ∧ Fr SSP9 E r.2 ∧ r.2 281 9 = nI p) := fun q e => by
      unfold f_X12_wordNext_42
      obtain ⟨z, hz⟩ := FUs 12 (by omega)
      have := w46 hb1 hp.2 g9 12 0 z (by omega)
      rw [e, nI_0, show off 0 = 0 from rfl, nI_0] at this
      rw [hz, this]
      exact yRet ⟨rfl, F1, g9⟩
    intro j
    induction j with
    | zero =>
      intro q z hq er
      rw [show 0 + 1 + z = z + 1 by omega]
      show Y (f_X12_wordNext_9_b _ _ _) _
      unfold f_X12_wordNext_9_b
      rw [hb1.2.1]
      refine yPos (nI_le (by omega) (by omega)) (fin q ?_)
      rw [← er]; exact re_stop (fun z => by omega)
    | succ j ih =>
      intro q z hq er
      rw [show j + 1 + 1 + z = (j + 1 + z) + 1 by omega]
      show Y (f_X12_wordNext_9_b _ _ _) _
      unfold f_X12_wordNext_9_b
      obtain ⟨b1, b2⟩ := hb1.2.2 q (by omega)
      rw [hb1.2.1]
      refine yNeg (nI_nle2 (by omega) (by omega)) (yGd (inB_nI (by omega) (by omega)) ?_)
      rw [nI_clamp (by omega), b2, isIn_A b1, bI_d]
      cases e : isA (c q) with
      | false =>
        refine yPos rfl (fin q ?_)
        rw [← er]; exact re_stop (fun z => by rw [e] at z; cases z.2)
      | true =>
        refine yNeg (by decide) (yLt0 ?_)
        rw [nI_1]
        exact ih (q + 1) z (by omega) (by rw [← er, re_step (by omega) e])
  obtain ⟨z, hz⟩ := FUs (n - p) (by omega)
  rw [hz]
  exact loop (n - p) p z (by omega) rfl
theorem rtakes_ok {s w : Nat} (hb : RPb E c n) (hs : s ≤ n) (h9 : E 281 9 = nI s) (h10 : E 281 10 = 0) (hw : w < 12) : Y (f_X12_takes (nI w) E) (fun r => r.1 = b01 (rEq c n (blk c n s) w) ∧ Fr SSP9 E r.2 ∧ r.2 281 9 = nI (if rEq c n (blk c n s) w = true then re isA c n (blk c n s) else blk c n s)) := by
  have n5 := hb.1
  unfold f_X12_takes
  refine yPos h10 (yBI (wordNext_ok hb hs h9) (fun r E1 h1 => ?_))
  dsimp only at h1
  obtain ⟨er, F1, g9⟩ := h1
  have hp := blk_le (c := c) hs
  generalize blk c n s = p at *
  have hi := wIx_t (c := c) (n := n) (p := p) hw 12 (by omega) (by omega)
  rw [er]
  cases e : rEq c n p w with
  | false =>
    refine yNeg (fun q => by rw [hi, e] at q; cases q) (yRet ⟨rfl, F1, ?_⟩)
    rw [if_neg (by decide)]; exact g9
  | true =>
    refine yPos (hi.mpr e) ?_
    rw [if_pos rfl]
    have loop : ∀ (j q z : Nat) (E2 : Dm), q + j = n → Fr SSP9 E E2 → E2 281 9 = nI q → re isA c n q = re isA c n p → Y (f_X12_takes_17 (j + 1 + z) E2) (fun r => r.1 = b01 true ∧ Fr SSP9 E r.2 ∧ r.2 281 9 = nI (re isA c n p)) := by
      intro j
      induction j with
      | zero =>
        intro q z E2 hq F2 i9 er
        rw [show 0 + 1 + z = z + 1 by omega]
        show Y (f_X12_takes_17_b _ _) _
        unfold f_X12_takes_17_b
        rw [(hb.s F2).2.1, i9]
        refine yPos (nI_le (by omega) (by omega)) (yRet ⟨rfl, F2, ?_⟩)
        rw [← er, re_stop (fun z => by omega)]; exact i9
      | succ j ih =>
        intro q z E2 hq F2 i9 er
        rw [show j + 1 + 1 + z = (j + 1 + z) + 1 by omega]
        show Y (f_X12_takes_17_b _ _) _
        unfold f_X12_takes_17_b
        obtain ⟨b1, b2⟩ := (hb.s F2).2.2 q (by omega)
        rw [(hb.s F2).2.1, i9]
        refine yNeg (nI_nle2 (by omega) (by omega)) (yGd (inB_nI (by omega) (by omega)) ?_)
        rw [nI_clamp (by omega), b2, isIn_A b1, bI_d]
        cases e : isA (c q) with
        | false =>
          refine yPos rfl (yRet ⟨rfl, F2, ?_⟩)
          rw [← er, re_stop (fun z => by rw [e] at z; cases z.2)]; exact i9
        | true =>
          refine yNeg (by decide) (yLt0 ?_)
          rw [i9, nI_1]
          exact ih (q + 1) z _ (by omega) (F2.ud ⟨rfl, rfl⟩) (by rw [ud_at, if_pos ⟨rfl, rfl⟩]) (by rw [← er, re_step (by omega) e])
    obtain ⟨z, hz⟩ := FUs (n - p) (by omega)
    rw [hz]
    exact loop (n - p) p z E1 (by omega) F1 g9 rfl
/-- the token of the class and the word of the reference -/
def rwk (k : Nat) : Nat := [0, 1, 2, 3, 4, 10, 11, 5, 6, 7, 8, 9].getD k 0
theorem rwk_1 : ∀ k, k < 12 → rwk k < 12 ∧ slN k = lenW (rwk k) ∧ ∀ j, j < slN k → chN k j = chN 13 (off (rwk k) + j) := by decide +kernel
theorem tok_r (hp : p ≤ n) {k : Nat} (hk : k < 12) : tokEq c n p k = rEq c n p (rwk k) ∧ (tokEq c n p k = true → te c n p = re isA c n p ∧ p < n) := by
  obtain ⟨r1, r2, r3⟩ := rwk_1 k hk
  obtain ⟨l1, l2⟩ := ch_len k (by omega)
  have hA := ch_let k hk 0 (by omega)
  have fst : ∀ q, q = true → (p < n ∧ isA (c p) = true ∨ True) := fun _ _ => Or.inr trivial
  by_cases e : p < n ∧ isA (c p) = true
  · have et : te c n p = re isA c n p := by
      unfold te
      rw [if_pos e.1, if_pos e.2, re_step e.1 e.2]
    refine ⟨?_, fun _ => ⟨et, e.1⟩⟩
    rw [Bool.eq_iff_iff, tokEq_t, rEq_t, et, r2]
    constructor
    · exact fun h => ⟨h.1, fun j hj => by rw [h.2 j hj, r3 j (by omega)]⟩
    · exact fun h => ⟨h.1, fun j hj => by rw [h.2 j hj, r3 j (by omega)]⟩
  · have f1 : tokEq c n p k = false := by
      rw [Bool.eq_false_iff]
      intro h
      rw [tokEq_t] at h
      have h0 := h.2 0 (by omega)
      rw [Nat.add_zero] at h0
      by_cases e2 : p < n
      · exact e ⟨e2, by rw [h0]; exact hA⟩
      · have : te c n p = p := by unfold te; rw [if_neg e2]
        omega
    have f2 : rEq c n p (rwk k) = false := by
      rw [Bool.eq_false_iff]
      intro h
      rw [rEq_t, re_stop e] at h
      omega
    rw [f1, f2]
    exact ⟨rfl, fun h => by cases h⟩
abbrev SRF (j k : Nat) : Prop := j = 281 ∧ (9 ≤ k ∧ k ≤ 11)
def RFt (E : Dm) (w p : Nat) : Prop := E 281 10 = nI w ∧ E 281 11 = nI p ∧ 1 ≤ w ∧ w ≤ 3 ∧ ∃ s, s ≤ 500 ∧ E 281 9 = nI s
theorem RFt.ne {w q : Nat} (h : RFt E w q) : E 281 10 ≠ 0 := by
  rw [h.1]
  exact fun z => absurd (nI_inj (by have := h.2.2.2.1; omega) (by omega) (show nI w = nI 0 from z)) (by have := h.2.2.1; omega)
theorem fails_ok {w q s : Nat} (h : E 281 10 = 0) (h1 : 1 ≤ w) (h3 : w ≤ 3) (hs : s ≤ 500) (h9 : E 281 9 = nI s) : Y (f_X12_fails (nI w) (nI q) E) (fun E' => Fr SRF E E' ∧ RFt E' w q ∧ E' 281 9 = nI s) := by
  unfold f_X12_fails
  have e9 : (ud (ud E 281 10 (nI w)) 281 11 (nI q)) 281 9 = nI s := by rw [ud_at, if_neg (by omega), ud_at, if_neg (by omega), h9]
  refine yPos h (yLt0 (yLt0 (yRet ⟨(Fr.refl.ud ⟨rfl, by omega, by omega⟩).ud ⟨rfl, by omega, by omega⟩, ⟨?_, ?_, h1, h3, s, hs, e9⟩, e9⟩)))
  · rw [ud_at, if_neg (by omega), ud_at, if_pos ⟨rfl, rfl⟩]
  · rw [ud_at, if_pos ⟨rfl, rfl⟩]
theorem fails_f {x y : Int32} (h : E 281 10 ≠ 0) : f_X12_fails x y E = some E := by
  unfold f_X12_fails
  rw [if_neg h]
def vd (c : Nat → Nat) (p i : Nat) : Nat := if i = 0 then 0 else if i = 1 then c p - 48 else 10 * (c p - 48) + (c (p + 1) - 48)
theorem number_ok {s : Nat} {lo hi : Int32} (hb : RPb E c n) (hs : s ≤ n) (h9 : E 281 9 = nI s) (h10 : E 281 10 = 0) : Y (f_X12_number lo hi E) (fun r => (numW c n (blk c n s) lo hi = 0 ∧ r.1 = nI (nv c (blk c n s) (te c n (blk c n s))) ∧ Fr SSP9 E r.2 ∧ r.2 281 9 = nI (te c n (blk c n s))) ∨ (Fr SRF E r.2 ∧ RFt r.2 (numW c n (blk c n s) lo hi) (blk c n s))) := by
  have n5 := hb.1
  unfold f_X12_number
  refine yPos h10 (yBV (blanks_ok hb (by omega) h9) (fun E1 h1 => yLt0 ?_))
  obtain ⟨F1, g9⟩ := h1
  have hp := blk_le (c := c) hs
  have hpb := blk_id (c := c) hs
  generalize blk c n s = p at *
  rw [g9]
  have loop : ∀ (j q z : Nat) (E2 : Dm), n - q ≤ j → p ≤ q → q ≤ n → (∀ k, p ≤ k → k < q → isN (c k) = true) → Fr SSP9 E E2 → E2 281 9 = nI q → re isN c n q = re isN c n p → Y (f_X12_number_21 (j + 1 + z) lo hi (nI p) (nI (vd c p (q - p))) E2) (fun r => (numW c n p lo hi = 0 ∧ r.1 = nI (nv c p (te c n p)) ∧ Fr SSP9 E r.2 ∧ r.2 281 9 = nI (te c n p)) ∨ (Fr SRF E r.2 ∧ RFt r.2 (numW c n p lo hi) p)) := by
    have fin : ∀ (q : Nat) (E2 : Dm), p ≤ q → q ≤ n → Fr SSP9 E E2 → E2 281 9 = nI q → re isN c n p = q → (∀ k, p ≤ k → k < q → isN (c k) = true) → Y (if (E2 281 9) = nI p then (bV (f_X12_fails 1 (nI p) E2) fun D12 => some (nI (vd c p (q - p)), D12)) else (if 2 < ((E2 281 9) - nI p) then (f_X12_number_115 (nI p) (nI (vd c p (q - p))) E2) else (if nI (vd c p (q - p)) < lo then (f_X12_number_115 (nI p) (nI (vd c p (q - p))) E2) else (if nI (vd c p (q - p)) ≤ hi then (some (nI (vd c p (q - p)), E2)) else (f_X12_number_115 (nI p) (nI (vd c p (q - p))) E2))))) (fun r => (numW c n p lo hi = 0 ∧ r.1 = nI (nv c p (te c n p)) ∧ Fr SSP9 E r.2 ∧ r.2 281 9 = nI (te c n p)) ∨ (Fr SRF E r.2 ∧ RFt r.2 (numW c n p lo hi) p)) := by
      intro q E2 hpq hqn F2 i9 er hall
      have i10 : E2 281 10 = 0 := by rw [F2 _ _ (by unfold SSP9; omega), h10]
      have bad : ∀ w v, 1 ≤ w → w ≤ 2 → numW c n p lo hi = w → Y (bV (f_X12_fails (nI w) (nI p) E2) fun D12 => some (v, D12)) (fun r => (numW c n p lo hi = 0 ∧ r.1 = nI (nv c p (te c n p)) ∧ Fr SSP9 E r.2 ∧ r.2 281 9 = nI (te c n p)) ∨ (Fr SRF E r.2 ∧ RFt r.2 (numW c n p lo hi) p)) := fun w v w1 w2 e => by
        refine yBV (fails_ok (s := q) i10 w1 (by omega) (by omega) i9) (fun E3 h3 => yRet (Or.inr ⟨?_, ?_⟩))
        · exact Fr.tr (F2.mono (fun j k z => by unfold SSP9 at z; unfold SRF; omega)) h3.1
        · rw [e]; exact h3.2.1
      rw [i9, nI_sub hpq]
      by_cases c1 : q = p
      · refine yPos (by rw [c1]) (bad 1 _ (by omega) (by omega) ?_)
        unfold numW
        rw [if_neg]
        intro k2
        obtain ⟨k1, k3, -⟩ := kd2 k2
        rw [re_step k1 k3] at er
        have := re_le (P := isN) (c := c) (n := n) (q := p + 1) (by omega)
        omega
      · have k2 : kd c n p = 2 := by
          have hN := hall p (Nat.le_refl _) (by omega)
          have hN' := hN
          rw [isN_r, rng_t] at hN'
          unfold kd
          rw [if_pos (by omega), if_neg (fun z => by rw [isA_r, rng_t] at z; omega), if_pos hN]
        have et : te c n p = q := by rw [(kd2 k2).2.2.2, er]
        refine yNeg (fun z => c1 (nI_inj (by omega) (by omega) z)) ?_
        unfold f_X12_number_115
        have bad2 := fun v (h : ¬ (te c n p - p ≤ 2 ∧ ¬ nI (nv c p (te c n p)) < lo ∧ nI (nv c p (te c n p)) ≤ hi)) => bad 2 v (by omega) (by omega) (by unfold numW; rw [if_pos k2, if_neg h])
        by_cases c2 : q - p ≤ 2
        · refine yNeg (nI_nlt (a := 2) (b := q - p) c2 (by omega)) ?_
          have ev : vd c p (q - p) = nv c p (te c n p) := by
            unfold vd nv
            rw [et, if_neg (by omega)]
          rw [ev]
          by_cases c3 : nI (nv c p (te c n p)) < lo
          · exact yPos c3 (bad2 _ (fun z => z.2.1 c3))
          · refine yNeg c3 ?_
            by_cases c4 : nI (nv c p (te c n p)) ≤ hi
            · refine yPos c4 (yRet (Or.inl ⟨?_, rfl, F2, by rw [et]; exact i9⟩))
              unfold numW
              rw [if_pos k2, if_pos ⟨by omega, c3, c4⟩]
            · exact yNeg c4 (bad2 _ (fun z => c4 z.2.2))
        · exact yPos (nI_lt (a := 2) (b := q - p) (by omega) (by omega)) (bad2 _ (fun z => by have := z.1; omega))
    intro j
    induction j with
    | zero =>
      intro q z E2 hj hpq hqn hall F2 i9 er
      rw [show 0 + 1 + z = z + 1 by omega]
      show Y (f_X12_number_21_b _ _ _ _ _ _) _
      unfold f_X12_number_21_b
      rw [peek_ok (hb.s F2) (by omega) i9, bI_d, isIn_N (c := c) (n := n) (q := q) (fun h => by omega) rfl, bI_d, decide_eq_false (show ¬ q < n by omega), Bool.false_and, if_pos (show b01 false = 0 from rfl)]
      exact fin q E2 hpq hqn F2 i9 (by rw [← er]; exact re_stop (fun z => by omega)) hall
    | succ j ih =>
      intro q z E2 hj hpq hqn hall F2 i9 er
      rw [show j + 1 + 1 + z = (j + 1 + z) + 1 by omega]
      show Y (f_X12_number_21_b _ _ _ _ _ _) _
      unfold f_X12_number_21_b
      rw [peek_ok (hb.s F2) (by omega) i9, bI_d, isIn_N (c := c) (n := n) (q := q) (fun h => (hb.2.2 q h).1) rfl, bI_d]
      by_cases e : q < n ∧ isN (c q) = true
      · have hN := e.2
        rw [isN_r, rng_t] at hN
        rw [decide_eq_true e.1, e.2, if_neg (show ¬ b01 (true && true) = 0 by decide)]
        unfold f_X12_number_63
        have hall' : ∀ k, p ≤ k → k < q + 1 → isN (c k) = true := fun k k1 k2 => by
          by_cases ek : k = q
          · rw [ek]; exact e.2
          · exact hall k k1 (by omega)
        have next : ∀ v, v = vd c p (q + 1 - p) → Y (lt (ud E2 281 9 (E2 281 9 + 1)) fun D1 => f_X12_number_21 (j + 1 + z) lo hi (nI p) (nI v) D1) (fun r => (numW c n p lo hi = 0 ∧ r.1 = nI (nv c p (te c n p)) ∧ Fr SSP9 E r.2 ∧ r.2 281 9 = nI (te c n p)) ∨ (Fr SRF E r.2 ∧ RFt r.2 (numW c n p lo hi) p)) := fun v ev => by
          refine yLt0 ?_
          rw [i9, nI_1, ev]
          exact ih (q + 1) z _ (by omega) (by omega) (by omega) hall' (F2.ud ⟨rfl, rfl⟩) (by rw [ud_at, if_pos ⟨rfl, rfl⟩]) (by rw [← er, re_step e.1 e.2])
        rw [i9, nI_sub hpq]
        by_cases c2 : 2 ≤ q - p
        · refine yPos (nI_le (a := 2) (b := q - p) c2 (by omega)) ?_
          rw [← i9]
          exact next _ (by unfold vd; rw [if_neg (by omega), if_neg (by omega), if_neg (by omega), if_neg (by omega)])
        · refine yNeg (nI_nle2 (a := q - p) (b := 2) (by omega) (by omega)) ?_
          rw [peek_ok (hb.s F2) (by omega) i9, bI_d, lt_d, if_pos e.1]
          have ev : (10 : Int32) * nI (vd c p (q - p)) + nI (c q) - 48 = nI (vd c p (q + 1 - p)) := by
            rw [show (10 : Int32) = nI 10 from rfl, nI_mul, nI_add, show (48 : Int32) = nI 48 from rfl, nI_sub (by omega)]
            congr 1
            unfold vd
            by_cases e0 : q = p
            · rw [if_pos (by omega), if_neg (by omega), if_pos (by omega), e0]; omega
            · rw [if_neg (by omega), if_pos (by omega), if_neg (by omega), if_neg (by omega), show p + 1 = q by omega]; omega
          rw [ev]
          exact next _ rfl
      · have ef : (decide (q < n) && isN (c q)) = false := by
          rw [Bool.eq_false_iff]
          intro z
          rw [Bool.and_eq_true, decide_eq_true_eq] at z
          exact e z
        rw [ef, if_pos (show b01 false = 0 from rfl)]
        exact fin q E2 hpq hqn F2 i9 (by rw [← er]; exact re_stop e) hall
  obtain ⟨z, hz⟩ := FUs n (by omega)
  have := loop n p z E1 (by omega) (Nat.le_refl _) hp.2 (fun k k1 k2 => by omega) F1 g9 rfl
  rw [Nat.sub_self, show nI (vd c p 0) = 0 from nI_0] at this
  rw [hz]
  exact this
end
