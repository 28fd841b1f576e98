/-! ===== the reader of the class: words and numbers ===== -/
def chN (k j : Nat) : Nat := (sch k j).toNatClampNeg
theorem ch_ok1 : ∀ k, k < 14 → ∀ j, j < slN k → sch k j = nI (chN k j) ∧ chN k j < 128 := by decide +kernel
theorem ch_len : ∀ k, k < 13 → 1 ≤ slN k ∧ slN k ≤ 9 := by decide +kernel
theorem ch_let : ∀ k, k < 12 → ∀ j, j < slN k → isA (chN k j) = true := by decide +kernel
theorem ch_semi : slN 12 = 1 ∧ chN 12 0 = 59 := by decide +kernel
def tokEq (c : Nat → Nat) (n p k : Nat) : Bool := decide (te c n p - p = slN k) && (List.range (slN k)).all (fun j => decide (c (p + j) = chN k j))
theorem tokEq_t {c : Nat → Nat} {n p k : Nat} : tokEq c n p k = true ↔ te c n p - p = slN k ∧ ∀ j, j < slN k → c (p + j) = chN k j := by
  unfold tokEq
  rw [Bool.and_eq_true, decide_eq_true_eq, List.all_eq_true]
  constructor
  · exact fun h => ⟨h.1, fun j hj => of_decide_eq_true (h.2 j (List.mem_range.mpr hj))⟩
  · exact fun h => ⟨h.1, fun j hj => decide_eq_true (h.2 j (List.mem_range.mp hj))⟩
theorem skip_f {D : Dm} {k : Nat} (h : D 1 6 ≠ 0) : f_X7_skip k D = some (0, D) := by
  unfold f_X7_skip
  rw [if_neg h]
def skQ (D : Dm) (c : Nat → Nat) (n p : Nat) (b : Bool) (r : Int32 × Dm) : Prop := r.1 = b01 b ∧ (b = false → r.2 = D) ∧ (b = true → Fr SNX D r.2 ∧ TK r.2 c n (blk c n (te c n p)))
theorem skip_ok {D : Dm} {c : Nat → Nat} {n p k : Nat} (h : TK D c n p) (h6 : D 1 6 = 0) (hk : k < 13) : Y (f_X7_skip k D) (skQ D c n p (tokEq c n p k)) := by
  obtain ⟨hb, hp, hbl, h4, h5, h3⟩ := id h
  obtain ⟨n5, h2, hby⟩ := id hb
  obtain ⟨t1, t2, t3⟩ := te_le (c := c) (n := n) hp
  obtain ⟨l1, l2⟩ := ch_len k hk
  unfold f_X7_skip
  refine yPos h6 ?_
  rw [h4, h5, nI_sub t1]
  have no : tokEq c n p k = false → skQ D c n p (tokEq c n p k) (0, D) := fun e => by
    rw [e]
    exact ⟨rfl, fun _ => rfl, fun q => by cases q⟩
  by_cases e : te c n p - p = slN k
  · refine yPos (by rw [e]; rfl) ?_
    have fin : (∀ j, j < slN k → c (p + j) = chN k j) → Y (f_X7_skip_75 D) (skQ D c n p (tokEq c n p k)) := fun ha => by
      unfold f_X7_skip_75
      refine yBV (next_ok hb t2 h5) (fun D1 h1 => yRet ?_)
      rw [tokEq_t.mpr ⟨e, ha⟩]
      exact ⟨rfl, (fun q => by cases q), fun _ => h1⟩
    have loop : ∀ (j i z : Nat), i + j = slN k → (∀ q, q < i → c (p + q) = chN k q) → Y (f_X7_skip_27 (j + 1 + z) k (nI i) D) (skQ D c n p (tokEq c n p k)) := by
      intro j
      induction j with
      | zero =>
        intro i z hi ha
        rw [show 0 + 1 + z = z + 1 by omega]
        show Y (f_X7_skip_27_b _ _ _ _) _
        unfold f_X7_skip_27_b
        exact yPos (by rw [show i = slN k by omega]; exact nI_le (Nat.le_refl _) (by omega)) (fin (fun j hj => ha j (by omega)))
      | succ j ih =>
        intro i z hi ha
        rw [show j + 1 + 1 + z = (j + 1 + z) + 1 by omega]
        show Y (f_X7_skip_27_b _ _ _ _) _
        unfold f_X7_skip_27_b
        obtain ⟨b1, b2⟩ := hby (p + i) (by omega)
        obtain ⟨s1, s2⟩ := ch_ok1 k (by omega) i (by omega)
        rw [h4, h2, nI_add]
        refine yNeg (show ¬ nI (slN k) ≤ nI i from nI_nle2 (by omega) (by omega)) (yNeg (nI_nle2 (by omega) (by omega)) (yGd (inB_nI (by omega) (by omega)) (yGd (inB_nI (by omega) (by omega)) ?_)))
        rw [nI_clamp (show p + i < 2 ^ 31 by omega), nI_clamp (show i < 2 ^ 31 by omega), b2, s1]
        by_cases ce : c (p + i) = chN k i
        · refine yPos (by rw [ce]) (yLt0 ?_)
          rw [nI_1]
          refine ih (i + 1) z (by omega) (fun q hq => ?_)
          by_cases eq : q = i
          · rw [eq]; exact ce
          · exact ha q (by omega)
        · refine yNeg (fun q => ce (nI_inj (by omega) (by omega) q)) (yRet (no ?_))
          rw [Bool.eq_false_iff]
          intro q
          exact ce ((tokEq_t.mp q).2 i (by omega))
    obtain ⟨z, hz⟩ := FUs (slN k) (by omega)
    have := loop (slN k) 0 z (by omega) (fun q hq => absurd hq (Nat.not_lt_zero q))
    rw [nI_0] at this
    rw [hz]
    exact this
  · refine yNeg (show ¬ nI (te c n p - p) = nI (slN k) from fun q => e (nI_inj (by omega) (by omega) q)) (yRet (no ?_))
    rw [Bool.eq_false_iff]
    intro q
    exact e (tokEq_t.mp q).1
/-- a fault is noted once -/
abbrev SFA (j k : Nat) : Prop := j = 1 ∧ (k = 6 ∨ k = 7)
theorem refuse_f {D : Dm} {x y : Int32} (h : D 1 6 ≠ 0) : f_X7_refuse x y D = some D := by
  unfold f_X7_refuse
  rw [if_neg h]
def CFt (D : Dm) (w p : Nat) : Prop := D 1 6 = nI w ∧ D 1 7 = nI p ∧ 1 ≤ w ∧ w ≤ 3
theorem CFt.ne {D : Dm} {w p : Nat} (h : CFt D w p) : D 1 6 ≠ 0 := by
  rw [h.1]
  exact fun q => absurd (nI_inj (by have := h.2.2.2; omega) (by omega) (show nI w = nI 0 from q)) (by have := h.2.2.1; omega)
theorem refuse_ok {D : Dm} {w p : Nat} (h : D 1 6 = 0) (h1 : 1 ≤ w) (h3 : w ≤ 3) : Y (f_X7_refuse (nI w) (nI p) D) (fun D' => Fr SFA D D' ∧ CFt D' w p) := by
  unfold f_X7_refuse
  refine yPos h (yLt0 (yLt0 (yRet ⟨(Fr.refl.ud ⟨rfl, Or.inl rfl⟩).ud ⟨rfl, Or.inr rfl⟩, ?_, ?_, h1, h3⟩)))
  · rw [ud_at, if_neg (by omega), ud_at, if_pos ⟨rfl, rfl⟩]
  · rw [ud_at, if_pos ⟨rfl, rfl⟩]
/-- the value of the digits at p -/
def nv (c : Nat → Nat) (p e : Nat) : Nat := if e - p = 1 then c p - 48 else 10 * (c p - 48) + (c (p + 1) - 48)
/-- 0 where a number within bounds stands at p, else the fault -/
def numW (c : Nat → Nat) (n p : Nat) (lo hi : Int32) : Nat := if kd c n p = 2 then (if te c n p - p ≤ 2 ∧ ¬ nI (nv c p (te c n p)) < lo ∧ nI (nv c p (te c n p)) ≤ hi then 0 else 2) else 1
theorem kd2 {c : Nat → Nat} {n p : Nat} (h : kd c n p = 2) : p < n ∧ isN (c p) = true ∧ isA (c p) = false ∧ te c n p = re isN c n p := by
  unfold kd at h
  by_cases e : p < n
  · rw [if_pos e] at h
    by_cases ha : isA (c p) = true
    · rw [if_pos ha] at h; omega
    · rw [if_neg ha] at h
      by_cases hn : isN (c p) = true
      · refine ⟨e, hn, by rw [Bool.not_eq_true] at ha; exact ha, ?_⟩
        unfold te
        rw [if_pos e, if_neg ha, if_pos hn, re_step e hn]
      · rw [if_neg hn] at h; omega
  · rw [if_neg e] at h; omega
theorem dig_in {c : Nat → Nat} {n p : Nat} (h : kd c n p = 2) : ∀ k, p ≤ k → k < te c n p → 48 ≤ c k ∧ c k ≤ 57 ∧ k < n := by
  obtain ⟨h1, h2, h3, h4⟩ := kd2 h
  intro k k1 k2
  rw [h4] at k2
  obtain ⟨a1, a2, a3, -⟩ := re_spec (P := isN) (c := c) (n := n) (n - p) p (by omega)
  have := a3 k k1 k2
  rw [isN_r, rng_t] at this
  omega
theorem num_f {D : Dm} {lo hi : Int32} (h : D 1 6 ≠ 0) : f_X7_readNumber lo hi D = some (0, D) := by
  unfold f_X7_readNumber f_X7_readNumber_15
  rw [if_neg h, refuse_f h, bV_d]
theorem nv_bd {c : Nat → Nat} {n p : Nat} (h : kd c n p = 2) (hl : te c n p - p ≤ 2) : nv c p (te c n p) < 100 := by
  have hd := dig_in h
  obtain ⟨h1, -⟩ := kd2 h
  obtain ⟨t1, t2, t3⟩ := te_le (c := c) (n := n) (p := p) (by omega)
  have := hd p (Nat.le_refl _) (by omega)
  unfold nv
  split
  · omega
  · have := hd (p + 1) (by omega) (by omega)
    omega
theorem readNumber_ok {D : Dm} {c : Nat → Nat} {n p : Nat} {lo hi : Int32} (h : TK D c n p) (h6 : D 1 6 = 0) : Y (f_X7_readNumber lo hi D) (fun r => (numW c n p lo hi = 0 ∧ r.1 = nI (nv c p (te c n p)) ∧ Fr SNX D r.2 ∧ TK r.2 c n (blk c n (te c n p))) ∨ (r.1 = 0 ∧ Fr SFA D r.2 ∧ CFt r.2 (numW c n p lo hi) p)) := by
  obtain ⟨hb, hp, hbl, h4, h5, h3⟩ := id h
  obtain ⟨n5, h2, hby⟩ := id hb
  obtain ⟨t1, t2, t3⟩ := te_le (c := c) (n := n) hp
  unfold f_X7_readNumber f_X7_readNumber_15
  refine yPos h6 ?_
  by_cases k2 : kd c n p = 2
  · rw [h3, k2]
    refine yPos rfl (yLt0 ?_)
    rw [h4]
    have hd := dig_in k2
    have pn := (kd2 k2).1
    have r99 : numW c n p lo hi = 2 → Y (f_X7_readNumber_99 D) (fun r => (numW c n p lo hi = 0 ∧ r.1 = nI (nv c p (te c n p)) ∧ Fr SNX D r.2 ∧ TK r.2 c n (blk c n (te c n p))) ∨ (r.1 = 0 ∧ Fr SFA D r.2 ∧ CFt r.2 (numW c n p lo hi) p)) := fun e => by
      unfold f_X7_readNumber_99
      rw [h4]
      refine yBV (refuse_ok (w := 2) (p := p) h6 (by omega) (by omega)) (fun D1 h1 => yRet (Or.inr ⟨rfl, h1.1, ?_⟩))
      rw [e]; exact h1.2
    have r76 : ∀ x3 : Int32, (te c n p - p ≤ 2 → x3 = nI (nv c p (te c n p))) → Y (f_X7_readNumber_76 lo hi x3 D) (fun r => (numW c n p lo hi = 0 ∧ r.1 = nI (nv c p (te c n p)) ∧ Fr SNX D r.2 ∧ TK r.2 c n (blk c n (te c n p))) ∨ (r.1 = 0 ∧ Fr SFA D r.2 ∧ CFt r.2 (numW c n p lo hi) p)) := fun x3 hx => by
      unfold f_X7_readNumber_76
      rw [h4, h5, nI_sub t1]
      by_cases c1 : te c n p - p ≤ 2
      · rw [hx c1]
        refine yNeg (nI_nlt (a := 2) (b := te c n p - p) c1 (by omega)) ?_
        by_cases c2 : nI (nv c p (te c n p)) < lo
        · exact yPos c2 (r99 (by unfold numW; rw [if_pos k2, if_neg (fun q => q.2.1 c2)]))
        · refine yNeg c2 ?_
          by_cases c3 : nI (nv c p (te c n p)) ≤ hi
          · refine yPos c3 (yBV (next_ok hb t2 h5) (fun D1 h1 => yRet (Or.inl ⟨?_, rfl, h1⟩)))
            unfold numW
            rw [if_pos k2, if_pos ⟨c1, c2, c3⟩]
          · exact yNeg c3 (r99 (by unfold numW; rw [if_pos k2, if_neg (fun q => c3 q.2.2)]))
      · refine yPos (nI_lt (a := 2) (b := te c n p - p) (by omega) (by omega)) (r99 ?_)
        unfold numW
        rw [if_pos k2, if_neg (fun q => c1 q.1)]
    -- at most three digits are read
    obtain ⟨z, hz⟩ := FUs 3 (by omega)
    rw [hz, show 3 + 1 + z = (z + 3) + 1 by omega]
    have e3 : nI p + 3 = nI (p + 3) := nI_add p 3
    have d0 := hd p (Nat.le_refl _) (by omega)
    have dg : ∀ q, p ≤ q → q < te c n p → D 2 q = nI (c q) := fun q q1 q2 => (hby q (hd q q1 q2).2.2).2
    have go : ∀ (f : Nat) (x3 : Int32) (q : Nat), q < p + 3 → p ≤ q → q < te c n p → f_X7_readNumber_34 (f + 1) lo hi x3 (nI q) D = f_X7_readNumber_34 f lo hi (x3 * 10 + nI (c q) - 48) (nI (q + 1)) D := fun f x3 q q1 q2 q3 => by
      show f_X7_readNumber_34_b _ _ _ _ _ _ = _
      unfold f_X7_readNumber_34_b
      have := hd q q2 q3
      rw [h5, h4, e3, if_neg (nI_nle2 q3 (by omega)), if_neg (nI_nle2 q1 (by omega)), gd_t (inB_nI (by omega) (by omega)), nI_clamp (by omega), dg q q2 q3, lt_d, lt_d, nI_1]
    have stop : ∀ (f : Nat) (x3 : Int32) (q : Nat), (q = te c n p ∨ q = p + 3) → q < 2 ^ 31 → f_X7_readNumber_34 (f + 1) lo hi x3 (nI q) D = f_X7_readNumber_76 lo hi x3 D := fun f x3 q hq hs => by
      show f_X7_readNumber_34_b _ _ _ _ _ _ = _
      unfold f_X7_readNumber_34_b
      rw [h5, h4, e3]
      rcases hq with e | e
      · rw [e, if_pos (nI_le (Nat.le_refl _) (by omega))]
      · by_cases ce : te c n p ≤ q
        · rw [if_pos (nI_le ce hs)]
        · rw [if_neg (nI_nle2 (by omega) (by omega)), e, if_pos (nI_le (Nat.le_refl _) (by omega))]
    have v1 : ∀ q, 48 ≤ q → q ≤ 57 → (0 : Int32) * 10 + nI q - 48 = nI (q - 48) := fun q q1 q2 => by
      rw [Int32.zero_mul, Int32.zero_add, show (48 : Int32) = nI 48 from rfl, nI_sub q1]
    have v2 : ∀ v q, 48 ≤ q → nI v * 10 + nI q - 48 = nI (10 * v + (q - 48)) := fun v q q1 => by
      rw [show (10 : Int32) = nI 10 from rfl, nI_mul, nI_add, show (48 : Int32) = nI 48 from rfl, nI_sub (by omega)]
      congr 1; omega
    rw [go (z + 3) 0 p (by omega) (Nat.le_refl _) (by omega), v1 _ d0.1 d0.2.1]
    by_cases l1 : te c n p = p + 1
    · rw [show z + 3 = (z + 2) + 1 by omega, stop (z + 2) _ (p + 1) (Or.inl l1.symm) (by omega)]
      refine r76 _ (fun _ => ?_)
      unfold nv
      rw [if_pos (by omega)]
    · have d1 := hd (p + 1) (by omega) (by omega)
      rw [show z + 3 = (z + 2) + 1 by omega, go (z + 2) _ (p + 1) (by omega) (by omega) (by omega), v2 _ _ d1.1]
      by_cases l2 : te c n p = p + 2
      · rw [show z + 2 = (z + 1) + 1 by omega, stop (z + 1) _ (p + 1 + 1) (Or.inl (by omega)) (by omega)]
        refine r76 _ (fun _ => ?_)
        unfold nv
        rw [if_neg (by omega)]
      · have d2 := hd (p + 2) (by omega) (by omega)
        rw [show z + 2 = (z + 1) + 1 by omega, go (z + 1) _ (p + 1 + 1) (by omega) (by omega) (by omega), stop z _ (p + 1 + 1 + 1) (Or.inr (by omega)) (by omega)]
        exact r76 _ (fun q => by omega)
  · refine yNeg (by rw [h3]; exact fun q => k2 (nI_inj (by unfold kd; split <;> (try split) <;> (try split) <;> omega) (by omega) (show nI (kd c n p) = nI 2 from q))) ?_
    rw [h4]
    refine yBV (refuse_ok (w := 1) (p := p) h6 (by omega) (by omega)) (fun D1 h1 => yRet (Or.inr ⟨rfl, h1.1, ?_⟩))
    unfold numW
    rw [if_neg k2]
    exact h1.2
