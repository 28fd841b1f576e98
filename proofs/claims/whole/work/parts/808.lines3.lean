/-! ===== the lines of a machine's text ===== -/
section
variable {D E : Dm} {c : Nat → Nat} {n p : Nat}
def LNE (c : Nat → Nat) (n p : Nat) (D E : Dm) (x y : Option Dm) : Prop := ∃ D' E', x = some D' ∧ y = some E' ∧ Fr SCM D D' ∧ Fr SRX E E' ∧ ((∃ p', p < p' ∧ JT D' E' c n p' ∧ DRF D' E') ∨ JFe D' E' c n)
theorem tail_j {pl : Nat} {x : Option (Int32 × Dm)} {y : Option Dm} (h : BOD c n p pl D E x y) : LNE c n p D E (bI x fun y39 D37 => f_X5_readLine_103 (nI pl) y39 D37) (bV y fun D35 => f_X12_line_104 D35) := by
  obtain ⟨fl, D', E', rfl, rfl, F, G, r⟩ := h
  rw [bI_d, bV_d]
  unfold f_X5_readLine_103 f_X5_readLine_113 f_X12_line_104
  rcases r with ⟨rfl, ⟨p', hp, hJ⟩, hR⟩ | ⟨rfl, D'', r2, r3, r4⟩ | ⟨hfl, hF⟩
  · rw [if_pos rfl]
    obtain ⟨D2, E2, e1, e2, F2, G2, res⟩ := ends_j hJ
    rw [e1, bV_d, e2, bV_d]
    refine ⟨D2, E2, rfl, rfl, F.tr (F2.mono (fun j k q => SCR_M q)), G.tr (G2.mono (fun j k q => SRF_X q)), ?_⟩
    rcases res with ⟨J2, pn⟩ | hF
    · exact Or.inl ⟨_, by have := blk_te (c := c) pn; omega, J2, hR.fr F2 G2⟩
    · exact Or.inr hF
  · rw [if_neg (by decide), r2, bV_d]
    obtain ⟨E2, e1, e2, G2, hF⟩ := ends_f r4
    rw [e1, bV_d, e2, bV_d]
    exact ⟨D'', E2, rfl, rfl, r3, G.tr (G2.mono (fun j k q => SRF_X q)), Or.inr hF⟩
  · obtain ⟨E2, e1, e2, G2, hF2⟩ := ends_f hF
    rw [refuse_f hF.ne.1, bV_d, e1, bV_d, e2, bV_d]
    refine ⟨D', E2, ?_, rfl, F, G.tr (G2.mono (fun j k q => SRF_X q)), Or.inr hF2⟩
    split <;> rfl
theorem LNE.mono {D0 E0 : Dm} {q : Nat} {x y : Option Dm} (h : LNE c n q D E x y) (hp : p ≤ q) (hD : Fr SCM D0 D) (hE : Fr SRX E0 E) : LNE c n p D0 E0 x y := by
  obtain ⟨D', E', h1, h2, h3, h4, h5⟩ := h
  refine ⟨D', E', h1, h2, hD.tr h3, hE.tr h4, ?_⟩
  rcases h5 with ⟨p', q1, q2⟩ | q
  · exact Or.inl ⟨p', by omega, q2⟩
  · exact Or.inr q
theorem line_j (hJ : JT D E c n p) (hR : DRF D E) : LNE c n p D E (f_X5_readLine D) (f_X12_line E) := by
  obtain ⟨h1, h2, h3, h4, h5, h6, s, hs, h9, hp⟩ := id hJ
  have n5 := h4.1
  unfold f_X5_readLine f_X12_line
  obtain ⟨E0, e0, F0, i9⟩ := blanks_ok h4 (by omega) h9
  rw [hp] at i9
  have J0 : JT D E0 c n p := hJ.go Fr.refl h1 F0 i9 h1.2.1 h1.2.2.1
  have G0 : Fr SRX E E0 := F0.mono (fun j k q => SRF_X (SP9_C q))
  have R0 : DRF D E0 := hR.fr Fr.refl (F0.mono (fun j k q => SP9_C q))
  rw [lt_d, h1.2.2.2.1, e0, bV_d, lt_d, i9]
  -- a word that is not taken leaves the class as it is
  have sk : ∀ (k : Nat) (E1 : Dm), k < 5 → JT D E1 c n p → DRF D E1 → ∃ D2 E2, f_X7_skip k D = some (b01 (tokEq c n p k), D2) ∧ f_X12_takes (nI k) E1 = some (b01 (tokEq c n p k), E2) ∧ Fr SRX E1 E2 ∧ Fr SCM D D2 ∧ DRF D2 E2 ∧ (tokEq c n p k = false → D2 = D ∧ JT D E2 c n p) ∧ (tokEq c n p k = true → ∃ q, p < q ∧ JT D2 E2 c n q) := fun k E1 hk hJ1 hR1 => by
    obtain ⟨D2, E2, a1, a2, a3, a4, a5, a6⟩ := skip_j (k := k) hJ1 (by omega)
    have er : rwk k = k := by
      have : k = 0 ∨ k = 1 ∨ k = 2 ∨ k = 3 ∨ k = 4 := by omega
      rcases this with rfl | rfl | rfl | rfl | rfl <;> rfl
    rw [er] at a2
    exact ⟨D2, E2, a1, a2, a4.mono (fun j k q => SRF_X q), a3.mono (fun j k q => SCR_M q), hR1.fr a3 a4, a5, fun t => ⟨_, blk_te (a6 t).2, (a6 t).1⟩⟩
  -- the class's reading of the first three lines
  have cs : ∀ (D2 : Dm) (f : Nat → Bool) (fb : Bool), D2 3 1 = b01 (f 0) → D2 3 4 = b01 fb → f_X5_readStates D2 = (lt (ud D2 3 (0 + 1) 1) fun D1 => bI (f_X7_readNumber (nI 1) (nI 5) D1) fun y5 D3 => lt (ud D3 4 0 y5) fun D6 => gd (zbB (b01 (f 0 || fb))) (some (b01 (f 0 || fb), D6))) := fun D2 f fb q1 q2 => by
    unfold f_X5_readStates f_X5_readStates_14 f_X5_readStates_19
    rw [q1, q2]
    cases f 0 <;> cases fb <;> rfl
  have cr : ∀ (D2 : Dm) (f : Nat → Bool) (fb : Bool), D2 3 2 = b01 (f 1) → D2 3 4 = b01 fb → f_X5_readRegisters D2 = (lt (ud D2 3 (1 + 1) 1) fun D1 => bI (f_X7_readNumber (nI 0) (nI 2) D1) fun y5 D3 => lt (ud D3 4 1 y5) fun D6 => gd (zbB (b01 (f 1 || fb))) (some (b01 (f 1 || fb), D6))) := fun D2 f fb q1 q2 => by
    unfold f_X5_readRegisters f_X5_readRegisters_14 f_X5_readRegisters_19
    rw [q1, q2, nI_0]
    cases f 1 <;> cases fb <;> rfl
  have cy : ∀ (D2 : Dm) (f : Nat → Bool) (fb : Bool), D2 3 3 = b01 (f 2) → D2 3 4 = b01 fb → f_X5_readSymbols D2 = (lt (ud D2 3 (2 + 1) 1) fun D1 => bI (f_X7_readNumber (nI 1) (nI 2) D1) fun y5 D3 => lt (ud D3 4 2 y5) fun D6 => gd (zbB (b01 (f 2 || fb))) (some (b01 (f 2 || fb), D6))) := fun D2 f fb q1 q2 => by
    unfold f_X5_readSymbols f_X5_readSymbols_14 f_X5_readSymbols_19
    rw [q1, q2]
    cases f 2 <;> cases fb <;> rfl
  obtain ⟨D1, E1, a1, a2, a3, a4, a5, a6, a7⟩ := sk 0 E0 (by omega) J0 R0
  rw [a1, bI_d, show f_X12_takes 0 E0 = some (b01 (tokEq c n p 0), E1) from a2, bI_d]
  have G1 := G0.tr a3
  cases t0 : tokEq c n p 0 with
  | true =>
    obtain ⟨q, hq, Jq⟩ := a7 t0
    rw [if_neg (show ¬ b01 true = 0 by decide), if_neg (show ¬ b01 true = 0 by decide)]
    obtain ⟨V, A, f, fb, hV⟩ := a5
    rw [cs D1 f fb (hV.2.1 0 (by omega)).2.2 hV.2.2.2.2.2.2.1]
    exact (tail_j (many_b (x := 0) (lo := 1) (hi := 5) (pl := p) (by omega) (Or.inl ⟨rfl, rfl, rfl⟩) Jq hV)).mono (by omega) a4 G1
  | false =>
    obtain ⟨rfl, J1⟩ := a6 t0
    rw [if_pos (show b01 false = 0 from rfl), if_pos (show b01 false = 0 from rfl)]
    obtain ⟨D2, E2, b1, b2, b3, b4, b5, b6, b7⟩ := sk 1 E1 (by omega) J1 a5
    rw [b1, bI_d, show f_X12_takes 1 E1 = some (b01 (tokEq c n p 1), E2) from b2, bI_d]
    have G2 := G1.tr b3
    cases t1 : tokEq c n p 1 with
    | true =>
      obtain ⟨q, hq, Jq⟩ := b7 t1
      rw [if_neg (show ¬ b01 true = 0 by decide), if_neg (show ¬ b01 true = 0 by decide)]
      obtain ⟨V, A, f, fb, hV⟩ := b5
      rw [cr D2 f fb (hV.2.1 1 (by omega)).2.2 hV.2.2.2.2.2.2.1]
      have key := (tail_j (many_b (x := 1) (lo := 0) (hi := 2) (pl := p) (by omega) (Or.inr (Or.inl ⟨rfl, rfl, rfl⟩)) Jq hV)).mono (p := p) (by omega) b4 G2
      rw [nI_0] at key
      rw [nI_0]
      exact key
    | false =>
      obtain ⟨rfl, J2⟩ := b6 t1
      rw [if_pos (show b01 false = 0 from rfl), if_pos (show b01 false = 0 from rfl)]
      obtain ⟨D3, E3, d1, d2, d3, d4, d5, d6, d7⟩ := sk 2 E2 (by omega) J2 b5
      rw [d1, bI_d, show f_X12_takes 2 E2 = some (b01 (tokEq c n p 2), E3) from d2, bI_d]
      have G3 := G2.tr d3
      cases t2 : tokEq c n p 2 with
      | true =>
        obtain ⟨q, hq, Jq⟩ := d7 t2
        rw [if_neg (show ¬ b01 true = 0 by decide), if_neg (show ¬ b01 true = 0 by decide)]
        obtain ⟨V, A, f, fb, hV⟩ := d5
        rw [cy D3 f fb (hV.2.1 2 (by omega)).2.2 hV.2.2.2.2.2.2.1]
        exact (tail_j (many_b (x := 2) (lo := 1) (hi := 2) (pl := p) (by omega) (Or.inr (Or.inr ⟨rfl, rfl, rfl⟩)) Jq hV)).mono (by omega) d4 G3
      | false =>
        obtain ⟨rfl, J3⟩ := d6 t2
        rw [if_pos (show b01 false = 0 from rfl), if_pos (show b01 false = 0 from rfl)]
        obtain ⟨D4, E4, g1, g2, g3, g4, g5, g6, g7⟩ := sk 3 E3 (by omega) J3 d5
        rw [g1, bI_d, show f_X12_takes 3 E3 = some (b01 (tokEq c n p 3), E4) from g2, bI_d]
        have G4 := G3.tr g3
        cases t3 : tokEq c n p 3 with
        | true =>
          obtain ⟨q, hq, Jq⟩ := g7 t3
          rw [if_neg (show ¬ b01 true = 0 by decide), if_neg (show ¬ b01 true = 0 by decide)]
          exact (tail_j (acc_b (pl := p) Jq g5)).mono (by omega) g4 G4
        | false =>
          obtain ⟨rfl, J4⟩ := g6 t3
          rw [if_pos (show b01 false = 0 from rfl), if_pos (show b01 false = 0 from rfl)]
          obtain ⟨D5, E5, k1, k2, k3, k4, k5, k6, k7⟩ := sk 4 E4 (by omega) J4 g5
          rw [k1, bI_d, show f_X12_takes 4 E4 = some (b01 (tokEq c n p 4), E5) from k2, bI_d]
          have G5 := G4.tr k3
          cases t4 : tokEq c n p 4 with
          | true =>
            obtain ⟨q, hq, Jq⟩ := k7 t4
            rw [if_neg (show ¬ b01 true = 0 by decide), if_neg (show ¬ b01 true = 0 by decide)]
            exact (tail_j (mv_b (pl := p) Jq k5)).mono (by omega) k4 G5
          | false =>
            obtain ⟨rfl, J5⟩ := k6 t4
            rw [if_pos (show b01 false = 0 from rfl), if_pos (show b01 false = 0 from rfl)]
            obtain ⟨D6, E6, r1, r2, r3, r4, r5⟩ := ref_j (w := 1) (q := p) (s := 0) J5 (by omega) (by omega)
            obtain ⟨E7, u1, u2, u3, u4⟩ := ends_f r5
            unfold f_X5_readLine_103 f_X5_readLine_113 f_X12_line_104
            rw [show f_X7_refuse 1 (nI p) D5 = some D6 from r1, bV_d, if_pos rfl, u1, bV_d, show f_X12_fails 1 (nI p) E5 = some E6 from r2, bV_d, u2, bV_d]
            exact ⟨D6, E7, rfl, rfl, r3.mono (fun j k q => SCR_M q), G5.tr ((r4.mono (fun j k q => SRF_X q)).tr (u3.mono (fun j k q => SRF_X q))), Or.inr u4⟩
end
