/-! ===== reader and scanner side by side ===== -/
section
variable {D E : Dm} {c : Nat → Nat} {n p : Nat}
def JT (D E : Dm) (c : Nat → Nat) (n p : Nat) : Prop := TK D c n p ∧ D 1 6 = 0 ∧ D 1 7 = -1 ∧ RPb E c n ∧ E 281 10 = 0 ∧ E 281 11 = -1 ∧ ∃ s, s ≤ n ∧ E 281 9 = nI s ∧ blk c n s = p
def JF (D E : Dm) (c : Nat → Nat) (n : Nat) : Prop := RPb E c n ∧ ∃ w q, CFt D w q ∧ RFt E w q
abbrev SCR (j k : Nat) : Prop := j = 1 ∧ (3 ≤ k ∧ k ≤ 7)
theorem SNX_C {j k : Nat} (h : SNX j k) : SCR j k := by unfold SNX at h; unfold SCR; omega
theorem SFA_C {j k : Nat} (h : SFA j k) : SCR j k := by unfold SFA at h; unfold SCR; omega
theorem SP9_C {j k : Nat} (h : SSP9 j k) : SRF j k := by unfold SSP9 at h; unfold SRF; omega
theorem RPb.f {E' : Dm} (h : RPb E c n) (hF : Fr SRF E E') : RPb E' c n := h.fr (hF _ _ (by unfold SRF; omega)) (fun k => hF _ _ (by unfold SRF; omega))
/-- both go on to the token at q -/
theorem JT.go {D' E' : Dm} {q s : Nat} (h : JT D E c n p) (hD : Fr SNX D D') (hT : TK D' c n q) (hE : Fr SSP9 E E') (h9 : E' 281 9 = nI s) (hs : s ≤ n) (hq : blk c n s = q) : JT D' E' c n q := by
  obtain ⟨h1, h2, h3, h4, h5, h6, -⟩ := h
  exact ⟨hT, by rw [hD _ _ (by unfold SNX; omega)]; exact h2, by rw [hD _ _ (by unfold SNX; omega)]; exact h3, h4.s hE, by rw [hE _ _ (by unfold SSP9; omega)]; exact h5, by rw [hE _ _ (by unfold SSP9; omega)]; exact h6, s, hs, h9, hq⟩
theorem skip_j {k : Nat} (h : JT D E c n p) (hk : k < 12) : ∃ D' E', f_X7_skip k D = some (b01 (tokEq c n p k), D') ∧ f_X12_takes (nI (rwk k)) E = some (b01 (tokEq c n p k), E') ∧ Fr SCR D D' ∧ Fr SRF E E' ∧ (tokEq c n p k = false → D' = D ∧ JT D E' c n p) ∧ (tokEq c n p k = true → JT D' E' c n (blk c n (te c n p)) ∧ p < n) := by
  obtain ⟨h1, h2, h3, h4, h5, h6, s, hs, h9, hp⟩ := id h
  have hpn := h1.2.1
  obtain ⟨t1, t2⟩ := tok_r (c := c) hpn hk
  obtain ⟨r1, -, -⟩ := rwk_1 k hk
  obtain ⟨⟨v1, D'⟩, e1, a1, a2, a3⟩ := skip_ok h1 h2 (show k < 13 by omega)
  obtain ⟨⟨v2, E'⟩, e2, b1, b2, b3⟩ := rtakes_ok h4 hs h9 h5 r1
  dsimp only at a1 a2 a3 b1 b2 b3
  rw [hp, ← t1] at b1 b3
  refine ⟨D', E', by rw [e1, a1], by rw [e2, b1], ?_, b2.mono (fun j k q => SP9_C q), fun e => ?_, fun e => ?_⟩
  · cases e : tokEq c n p k with
    | false => rw [a2 e]; exact Fr.refl
    | true => exact (a3 e).1.mono (fun j k q => SNX_C q)
  · rw [e, if_neg (by decide)] at b3
    exact ⟨a2 e, h.go Fr.refl h1 b2 b3 hpn h1.2.2.1⟩
  · rw [e, if_pos rfl] at b3
    obtain ⟨u1, u2⟩ := t2 e
    have tl := te_le (c := c) hpn
    exact ⟨h.go (a3 e).1 (a3 e).2 b2 b3 (by omega) (by rw [u1]), u2⟩
theorem num_j {lo hi : Int32} (h : JT D E c n p) : ∃ v1 v2 D' E', f_X7_readNumber lo hi D = some (v1, D') ∧ f_X12_number lo hi E = some (v2, E') ∧ Fr SCR D D' ∧ Fr SRF E E' ∧ ((∃ v, v < 100 ∧ v1 = nI v ∧ v2 = nI v ∧ ¬ nI v < lo ∧ nI v ≤ hi ∧ JT D' E' c n (blk c n (te c n p)) ∧ p < n) ∨ JF D' E' c n) := by
  obtain ⟨h1, h2, h3, h4, h5, h6, s, hs, h9, hp⟩ := id h
  have hpn := h1.2.1
  have tl := te_le (c := c) hpn
  obtain ⟨⟨v1, D'⟩, e1, a⟩ := readNumber_ok (lo := lo) (hi := hi) h1 h2
  obtain ⟨⟨v2, E'⟩, e2, b⟩ := number_ok (lo := lo) (hi := hi) h4 hs h9 h5
  dsimp only at a b
  rw [hp] at b
  rcases a with ⟨w0, a1, a2, a3⟩ | ⟨a0, a1, a2⟩
  · rcases b with ⟨-, b1, b2, b3⟩ | ⟨b1, b2⟩
    · have k2 : kd c n p = 2 := by
        by_cases k2 : kd c n p = 2
        · exact k2
        · unfold numW at w0
          rw [if_neg k2] at w0; omega
      unfold numW at w0
      rw [if_pos k2] at w0
      by_cases q : te c n p - p ≤ 2 ∧ ¬ nI (nv c p (te c n p)) < lo ∧ nI (nv c p (te c n p)) ≤ hi
      · exact ⟨v1, v2, D', E', e1, e2, a2.mono (fun j k q => SNX_C q), b2.mono (fun j k q => SP9_C q), Or.inl ⟨_, nv_bd k2 q.1, a1, b1, q.2.1, q.2.2, h.go a2 a3 b2 b3 tl.2.1 rfl, (kd2 k2).1⟩⟩
      · rw [if_neg q] at w0; omega
    · rw [w0] at b2
      exact absurd b2.2.2.1 (by omega)
  · rcases b with ⟨w0, -⟩ | ⟨b1, b2⟩
    · rw [w0] at a2
      exact absurd a2.2.2.1 (by omega)
    · exact ⟨v1, v2, D', E', e1, e2, a1.mono (fun j k q => SFA_C q), b1, Or.inr ⟨h4.f b1, _, _, a2, b2⟩⟩
/-- both refuse at the token -/
theorem ref_j {w q s : Nat} (h : JT D E c n p) (h1 : 1 ≤ w) (h3 : w ≤ 3) : ∃ D' E', f_X7_refuse (nI w) (nI q) D = some D' ∧ f_X12_fails (nI w) (nI q) E = some E' ∧ Fr SCR D D' ∧ Fr SRF E E' ∧ JF D' E' c n := by
  obtain ⟨g1, g2, g3, g4, g5, g6, s, hs, h9, hp⟩ := id h
  obtain ⟨D', e1, a1, a2⟩ := refuse_ok (p := q) g2 h1 h3
  obtain ⟨E', e2, b1, b2, -⟩ := fails_ok (q := q) (s := s) g5 h1 h3 (by have := g4.1; omega) h9
  exact ⟨D', E', e1, e2, a1.mono (fun j k q => SFA_C q), b1, g4.f b1, w, q, a2, b2⟩
theorem sym_j {x1 : Int32} (h : JT D E c n p) : ∃ y1 y2 D' E', f_X7_readSymbol x1 D = some (y1, D') ∧ f_X12_symbol x1 E = some (y2, E') ∧ Fr SCR D D' ∧ Fr SRF E E' ∧ ((∃ y, y < 2 ∧ (y = 1 → ¬ x1 ≤ 1) ∧ y1 = nI y ∧ y2 = nI y ∧ JT D' E' c n (blk c n (te c n p)) ∧ p < n) ∨ JF D' E' c n) := by
  unfold f_X7_readSymbol f_X12_symbol f_X7_readSymbol_27 f_X12_symbol_27
  obtain ⟨D1, E1, a1, a2, a3, a4, a5, a6⟩ := skip_j (k := 5) h (by omega)
  rw [a1, bI_d, show f_X12_takes 10 E = some (b01 (tokEq c n p 5), E1) from a2, bI_d]
  -- the refusal
  have bad : ∀ E2, Fr SRF E E2 → JT D E2 c n p → ∃ y1 y2 D' E', (bV (f_X7_refuse 1 (D 1 4) D) fun D1 => some ((0 : Int32), D1)) = some (y1, D') ∧ (bV (f_X12_blanks E2) fun D1 => bV (f_X12_fails 1 (D1 281 9) D1) fun D3 => some ((0 : Int32), D3)) = some (y2, E') ∧ Fr SCR D D' ∧ Fr SRF E E' ∧ ((∃ y, y < 2 ∧ (y = 1 → ¬ x1 ≤ 1) ∧ y1 = nI y ∧ y2 = nI y ∧ JT D' E' c n (blk c n (te c n p)) ∧ p < n) ∨ JF D' E' c n) := fun E2 F2 h2 => by
    obtain ⟨g1, g2, g3, g4, g5, g6, s, hs, h9, hp⟩ := id h2
    obtain ⟨E3, e3, F3, i9⟩ := blanks_ok g4 (by have := g4.1; omega) h9
    rw [hp] at i9
    have J3 : JT D E3 c n p := h2.go Fr.refl g1 F3 i9 g1.2.1 g1.2.2.1
    obtain ⟨D4, E4, r1, r2, r3, r4, r5⟩ := ref_j (w := 1) (q := p) (s := s) J3 (by omega) (by omega)
    rw [e3, bV_d, i9, g1.2.2.2.1]
    exact ⟨0, 0, D4, E4, by rw [show f_X7_refuse 1 (nI p) D = some D4 from r1, bV_d], by rw [show f_X12_fails 1 (nI p) E3 = some E4 from r2, bV_d], r3, F2.tr ((F3.mono (fun j k q => SP9_C q)).tr r4), Or.inr r5⟩
  cases t5 : tokEq c n p 5 with
  | true =>
    obtain ⟨b1, b2⟩ := a6 t5
    rw [if_neg (show ¬ b01 true = 0 by decide), if_neg (show ¬ b01 true = 0 by decide)]
    exact ⟨0, 0, D1, E1, rfl, rfl, a3, a4, Or.inl ⟨0, by omega, fun q => by omega, nI_0.symm, nI_0.symm, b1, b2⟩⟩
  | false =>
    obtain ⟨b1, b2⟩ := a5 t5
    rw [b1, if_pos (show b01 false = 0 from rfl), if_pos (show b01 false = 0 from rfl)]
    by_cases c1 : x1 ≤ 1
    · rw [if_pos c1, if_pos c1]
      exact bad E1 a4 b2
    · rw [if_neg c1, if_neg c1]
      obtain ⟨D2, E2, d1, d2, d3, d4, d5, d6⟩ := skip_j (k := 6) b2 (by omega)
      rw [d1, bI_d, show f_X12_takes 11 E1 = some (b01 (tokEq c n p 6), E2) from d2, bI_d]
      cases t6 : tokEq c n p 6 with
      | true =>
        obtain ⟨g1, g2⟩ := d6 t6
        rw [if_neg (show ¬ b01 true = 0 by decide), if_neg (show ¬ b01 true = 0 by decide)]
        exact ⟨1, 1, D2, E2, rfl, rfl, d3, a4.tr d4, Or.inl ⟨1, by omega, fun _ => c1, rfl, rfl, g1, g2⟩⟩
      | false =>
        obtain ⟨g1, g2⟩ := d5 t6
        rw [g1, if_pos (show b01 false = 0 from rfl), if_pos (show b01 false = 0 from rfl)]
        exact bad E2 (a4.tr d4) g2
theorem must_j {k : Nat} (h : JT D E c n p) (hk : k < 12) : ∃ D' E', f_X7_expect k D = some D' ∧ f_X12_must (nI (rwk k)) E = some E' ∧ Fr SCR D D' ∧ Fr SRF E E' ∧ (JT D' E' c n (blk c n (te c n p)) ∨ JF D' E' c n) := by
  unfold f_X7_expect f_X12_must
  obtain ⟨D1, E1, a1, a2, a3, a4, a5, a6⟩ := skip_j h hk
  rw [a1, bI_d, a2, bI_d, if_pos h.2.2.2.2.1]
  cases t : tokEq c n p k with
  | true =>
    rw [if_neg (show ¬ b01 true = 0 by decide), if_neg (show ¬ b01 true = 0 by decide)]
    exact ⟨D1, E1, rfl, rfl, a3, a4, Or.inl (a6 t).1⟩
  | false =>
    obtain ⟨b1, b2⟩ := a5 t
    obtain ⟨g1, g2, g3, g4, g5, g6, s, hs, h9, hp⟩ := id b2
    obtain ⟨⟨v2, E'⟩, e2, c1, c2, c3⟩ := rtakes_ok h.2.2.2.1 (s := (h.2.2.2.2.2.2).choose) (h.2.2.2.2.2.2).choose_spec.1 (h.2.2.2.2.2.2).choose_spec.2.1 h.2.2.2.2.1 (rwk_1 k hk).1
    dsimp only at c1 c2 c3
    rw [e2] at a2
    have eE : E' = E1 := by cases a2; rfl
    rw [(h.2.2.2.2.2.2).choose_spec.2.2, ← (tok_r (c := c) h.1.2.1 hk).1, t, if_neg (by decide), eE] at c3
    rw [b1, if_pos (show b01 false = 0 from rfl), if_pos (show b01 false = 0 from rfl), h.1.2.2.2.1, c3]
    obtain ⟨D4, E4, r1, r2, r3, r4, r5⟩ := ref_j (w := 1) (q := p) (s := s) b2 (by omega) (by omega)
    exact ⟨D4, E4, by rw [show f_X7_refuse 1 (nI p) D = some D4 from r1, bV_d], by rw [show f_X12_fails 1 (nI p) E1 = some E4 from r2, bV_d], r3, a4.tr r4, Or.inr r5⟩
/-- the end of a line -/
def RFe (E : Dm) (w p : Nat) : Prop := E 281 10 = nI w ∧ E 281 11 = nI p ∧ 1 ≤ w ∧ w ≤ 3 ∧ ∃ s, s ≤ 501 ∧ E 281 9 = nI s
def JFe (D E : Dm) (c : Nat → Nat) (n : Nat) : Prop := RPb E c n ∧ ∃ w q, CFt D w q ∧ RFe E w q
theorem ends_f (h : JF D E c n) : ∃ E', f_X7_expect 12 D = some D ∧ f_X12_ends E = some E' ∧ Fr SRF E E' ∧ JFe D E' c n := by
  obtain ⟨hb, w, q, hC, hR⟩ := h
  have n5 := hb.1
  obtain ⟨s, hs, h9⟩ := hR.2.2.2.2
  unfold f_X7_expect f_X12_ends f_X12_ends_29
  rw [skip_f hC.ne, bI_d, if_pos rfl, refuse_f hC.ne, bV_d]
  obtain ⟨E1, e1, F1, i9⟩ := blanks_ok hb (by omega) h9
  have b5 : blk c n s ≤ 500 := by
    by_cases e : s ≤ n
    · have := blk_le (c := c) e; omega
    · rw [show blk c n s = s from re_stop (fun z => e (by omega))]; exact hs
  have h10 : E1 281 10 = nI w := by rw [F1 _ _ (by unfold SSP9; omega)]; exact hR.1
  rw [e1, bV_d, if_neg (by rw [F1 _ _ (by unfold SSP9; omega)]; exact hR.ne), i9, nI_1]
  have F2 : Fr SSP9 E (ud E1 281 9 (nI (blk c n s + 1))) := F1.ud ⟨rfl, rfl⟩
  refine ⟨_, rfl, rfl, F2.mono (fun j k q => SP9_C q), hb.s F2, w, q, hC, ?_, ?_, hR.2.2.1, hR.2.2.2.1, blk c n s + 1, by omega, by rw [ud_at, if_pos ⟨rfl, rfl⟩]⟩
  · rw [F2 _ _ (by unfold SSP9; omega)]; exact hR.1
  · rw [F2 _ _ (by unfold SSP9; omega)]; exact hR.2.1
theorem ends_j (h : JT D E c n p) : ∃ D' E', f_X7_expect 12 D = some D' ∧ f_X12_ends E = some E' ∧ Fr SCR D D' ∧ Fr SRF E E' ∧ ((JT D' E' c n (blk c n (te c n p)) ∧ p < n) ∨ JFe D' E' c n) := by
  obtain ⟨h1, h2, h3, h4, h5, h6, s, hs, h9, hp⟩ := id h
  have n5 := h4.1
  have hpn := h1.2.1
  unfold f_X7_expect f_X12_ends f_X12_ends_29
  obtain ⟨⟨v1, D'⟩, e1, a1, a2, a3⟩ := skip_ok h1 h2 (show 12 < 13 by omega)
  dsimp only at a1 a2 a3
  obtain ⟨E1, e2, F1, i9⟩ := blanks_ok h4 (by omega) h9
  rw [hp] at i9
  have J1 : JT D E1 c n p := h.go Fr.refl h1 F1 i9 hpn h1.2.2.1
  rw [e1, bI_d, a1, e2, bV_d, if_pos J1.2.2.2.2.1, peek_ok (h4.s F1) (by omega) i9, bI_d]
  have semi : tokEq c n p 12 = true ↔ p < n ∧ c p = 59 := by
    rw [tokEq_t, ch_semi.1]
    constructor
    · intro q
      have q0 := q.2 0 (by omega)
      rw [Nat.add_zero, ch_semi.2] at q0
      refine ⟨?_, q0⟩
      by_cases e : p < n
      · exact e
      · have : te c n p = p := by unfold te; rw [if_neg e]
        omega
    · intro q
      have : te c n p = p + 1 := by
        unfold te
        rw [if_pos q.1, if_neg (by rw [q.2]; decide), if_neg (by rw [q.2]; decide)]
      refine ⟨by omega, fun j hj => ?_⟩
      rw [show j = 0 by omega, Nat.add_zero, ch_semi.2]; exact q.2
  by_cases e : p < n ∧ c p = 59
  · have t := semi.mpr e
    have et : te c n p = p + 1 := by
      unfold te
      rw [if_pos e.1, if_neg (by rw [e.2]; decide), if_neg (by rw [e.2]; decide)]
    rw [t, if_neg (show ¬ b01 true = 0 by decide), if_pos e.1, if_pos (by rw [e.2]; rfl), i9, nI_1]
    have F2 : Fr SSP9 E (ud E1 281 9 (nI (p + 1))) := F1.ud ⟨rfl, rfl⟩
    exact ⟨D', _, rfl, rfl, (a3 t).1.mono (fun j k q => SNX_C q), F2.mono (fun j k q => SP9_C q), Or.inl ⟨h.go (s := p + 1) (a3 t).1 (a3 t).2 F2 (by rw [ud_at, if_pos ⟨rfl, rfl⟩]) (by omega) (by rw [et]), e.1⟩⟩
  · have t : tokEq c n p 12 = false := by rw [Bool.eq_false_iff]; exact fun q => e (semi.mp q)
    rw [t, a2 t, if_pos (show b01 false = 0 from rfl), h1.2.2.2.1]
    have n59 : ¬ (if p < n then nI (c p) else -1) = 59 := by
      by_cases e1 : p < n
      · rw [if_pos e1]
        intro q
        exact e ⟨e1, nI_inj (by have := (h4.2.2 p e1).1; omega) (by omega) (show nI (c p) = nI 59 from q)⟩
      · rw [if_neg e1]; decide
    rw [if_neg n59, i9]
    obtain ⟨D4, E4, r1, r2, r3, r4, r5, w, q, r6, r7⟩ := ref_j (w := 1) (q := p) (s := s) J1 (by omega) (by omega)
    obtain ⟨E5, e5, F5, r8, i5⟩ := fails_ok (w := 1) (q := p) (s := p) J1.2.2.2.2.1 (by omega) (by omega) (by omega) i9
    rw [r2] at e5
    have eE : E4 = E5 := by cases e5; rfl
    rw [show f_X7_refuse 1 (nI p) D = some D4 from r1, bV_d, show f_X12_fails 1 (nI p) E1 = some E4 from r2, bV_d, eE, i5, nI_1]
    have F6 : Fr SRF E (ud E5 281 9 (nI (p + 1))) := ((F1.mono (fun j k q => SP9_C q)).tr F5).ud ⟨rfl, by omega, by omega⟩
    rw [eE] at r7
    refine ⟨D4, _, rfl, rfl, r3, F6, Or.inr ⟨h4.f F6, w, q, r6, ?_, ?_, r7.2.2.1, r7.2.2.2.1, p + 1, by omega, by rw [ud_at, if_pos ⟨rfl, rfl⟩]⟩⟩
    · rw [ud_at, if_neg (by omega)]; exact r7.1
    · rw [ud_at, if_neg (by omega)]; exact r7.2.1
theorem rtakes_f {w : Int32} (h : E 281 10 ≠ 0) : f_X12_takes w E = some (0, E) := by
  unfold f_X12_takes
  rw [if_neg h]
theorem rmust_f {w : Int32} (h : E 281 10 ≠ 0) : f_X12_must w E = some E := by
  unfold f_X12_must
  rw [if_neg h]
theorem rnum_f {lo hi : Int32} (h : E 281 10 ≠ 0) : f_X12_number lo hi E = some (lo, E) := by
  unfold f_X12_number
  rw [if_neg h]
theorem expect_f {k : Nat} (h : D 1 6 ≠ 0) : f_X7_expect k D = some D := by
  unfold f_X7_expect
  rw [skip_f h, bI_d, if_pos rfl, refuse_f h, bV_d]
theorem JF.ne (h : JF D E c n) : D 1 6 ≠ 0 ∧ E 281 10 ≠ 0 := by
  obtain ⟨-, w, q, h1, h2⟩ := h
  exact ⟨h1.ne, h2.ne⟩
end
