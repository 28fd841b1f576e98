/-! ===== the text of a machine is read ===== -/
section
variable {D E : Dm} {c : Nat → Nat} {n p : Nat}
theorem hasMore_ok (h : TK D c n p) (h6 : D 1 6 = 0) : f_X7_hasMore D = some (if p < n then 1 else 0, D) := by
  unfold f_X7_hasMore
  rw [if_pos h6, h.2.2.2.2.2]
  unfold kd
  by_cases e : p < n
  · rw [if_pos e, if_pos e, if_neg]
    split
    · decide
    · split <;> decide
  · rw [if_neg e, if_neg e, if_pos nI_0]
theorem isOver_ok {s : Nat} (hb : RPb E c n) (hs : s ≤ n) (h9 : E 281 9 = nI s) (h10 : E 281 10 = 0) : Y (f_X12_isOver E) (fun r => r.1 = (if blk c n s < n then 0 else 1) ∧ Fr SSP9 E r.2 ∧ r.2 281 9 = nI (blk c n s)) := by
  have n5 := hb.1
  unfold f_X12_isOver f_X12_isOver_19
  refine yBV (blanks_ok hb (by omega) h9) (fun E1 h1 => ?_)
  obtain ⟨F1, g9⟩ := h1
  have hp := blk_le (c := c) hs
  generalize blk c n s = p at *
  refine yPos (by rw [F1 _ _ (by unfold SSP9; omega)]; exact h10) ?_
  rw [peek_ok (hb.s F1) (by omega) g9, bI_d]
  by_cases e : p < n
  · rw [if_pos e]
    exact yNeg (nI_n1 (by have := (hb.2.2 p e).1; omega)) (yRet ⟨by rw [if_pos e], F1, g9⟩)
  · rw [if_neg e]
    exact yPos rfl (yRet ⟨by rw [if_neg e], F1, g9⟩)
theorem isOver_f {s : Nat} (hb : RPb E c n) (hs : s ≤ 501) (h9 : E 281 9 = nI s) (h10 : E 281 10 ≠ 0) : Y (f_X12_isOver E) (fun r => r.1 = 1 ∧ Fr SSP9 E r.2) := by
  unfold f_X12_isOver f_X12_isOver_19
  refine yBV (blanks_ok hb hs h9) (fun E1 h1 => ?_)
  exact yNeg (by rw [h1.1 _ _ (by unfold SSP9; omega)]; exact h10) (yRet ⟨rfl, h1.1⟩)
/-- what the reading of the whole text leaves -/
def MTE (x1 : Int32) (D E : Dm) (x : Option Dm) (y : Option (Int32 × Dm)) : Prop := ∃ D' E', x = some D' ∧ Fr SCM D D' ∧ Fr SRX E E' ∧ ((D' 1 6 = 0 ∧ D' 1 7 = -1 ∧ E' 281 10 = 0 ∧ E' 281 11 = -1 ∧ DRF D' E' ∧ y = f_X12_machine_85 FU x1 0 E') ∨ (∃ w q, CFt D' w q ∧ E' 281 10 = nI w ∧ E' 281 11 = nI q ∧ y = some (-30 - nI w, E')))
theorem mt_loop {x1 : Int32} : ∀ (j p i z z' : Nat) (D E : Dm), n - p ≤ j → i ≤ p → JT D E c n p → DRF D E → MTE x1 D E (f_X5_read_29 (j + 1 + z) (nI i) D) (f_X12_machine_54 (j + 1 + z') x1 E) := by
  have stop : ∀ (p i z z' : Nat) (D E : Dm), ¬ p < n → i ≤ p → JT D E c n p → DRF D E → MTE x1 D E (f_X5_read_29 (z + 1) (nI i) D) (f_X12_machine_54 (z' + 1) x1 E) := by
    intro p i z z' D E hp hi hJ hR
    obtain ⟨h1, h2, h3, h4, h5, h6, s, hs, h9, hb⟩ := id hJ
    obtain ⟨⟨v, E1⟩, e1, a1, a2, a3⟩ := isOver_ok h4 hs h9 h5
    dsimp only at a1 a2 a3
    rw [hb, if_neg hp] at a1
    refine ⟨D, E1, ?_, Fr.refl, a2.mono (fun j k q => SRF_X (SP9_C q)), Or.inl ⟨h2, h3, by rw [a2 _ _ (by unfold SSP9; omega)]; exact h5, by rw [a2 _ _ (by unfold SSP9; omega)]; exact h6, hR.fr Fr.refl (a2.mono (fun j k q => SP9_C q)), ?_⟩⟩
    · show f_X5_read_29_b _ _ _ = _
      unfold f_X5_read_29_b
      rw [hasMore_ok h1 h2, bI_d, if_neg hp, if_pos rfl]
      split <;> rfl
    · show f_X12_machine_54_b _ _ _ = _
      unfold f_X12_machine_54_b
      rw [e1, bI_d, a1, if_neg (by decide), if_pos (by rw [a2 _ _ (by unfold SSP9; omega)]; exact h5)]
  intro j
  induction j with
  | zero =>
    intro p i z z' D E hj hi hJ hR
    rw [show 0 + 1 + z = z + 1 by omega, show 0 + 1 + z' = z' + 1 by omega]
    exact stop p i z z' D E (by omega) hi hJ hR
  | succ j ih =>
    intro p i z z' D E hj hi hJ hR
    by_cases hp : p < n
    · obtain ⟨h1, h2, h3, h4, h5, h6, s, hs, h9, hb⟩ := id hJ
      have n5 := h4.1
      obtain ⟨⟨v, E1⟩, e1, a1, a2, a3⟩ := isOver_ok h4 hs h9 h5
      dsimp only at a1 a2 a3
      rw [hb] at a1 a3
      rw [if_pos hp] at a1
      have J1 : JT D E1 c n p := hJ.go Fr.refl h1 a2 a3 h1.2.1 h1.2.2.1
      have G1 : Fr SRX E E1 := a2.mono (fun j k q => SRF_X (SP9_C q))
      obtain ⟨D2, E2, b1, b2, F2, G2, res⟩ := line_j J1 (hR.fr Fr.refl (a2.mono (fun j k q => SP9_C q)))
      have ec : f_X5_read_29 (j + 1 + 1 + z) (nI i) D = f_X5_read_29 (j + 1 + z) (nI (i + 1)) D2 := by
        rw [show j + 1 + 1 + z = (j + 1 + z) + 1 by omega]
        show f_X5_read_29_b _ _ _ = _
        unfold f_X5_read_29_b
        rw [if_neg (show ¬ (500 : Int32) ≤ nI i from nI_nle2 (a := i) (b := 500) (by omega) (by omega)), hasMore_ok h1 h2, bI_d, if_pos hp, if_neg (by decide), b1, bV_d, lt_d, nI_1]
      have er : f_X12_machine_54 (j + 1 + 1 + z') x1 E = f_X12_machine_54 (j + 1 + z') x1 E2 := by
        rw [show j + 1 + 1 + z' = (j + 1 + z') + 1 by omega]
        show f_X12_machine_54_b _ _ _ = _
        unfold f_X12_machine_54_b
        rw [e1, bI_d, a1, if_pos rfl, b2, bV_d]
      rw [ec, er]
      rcases res with ⟨p', hp', J2, R2⟩ | ⟨hb2, w, q, hC, hr1, hr2, hr3, hr4, s2, hs2, hr5⟩
      · obtain ⟨D3, E3, k1, k2, k3, k4⟩ := ih p' (i + 1) z z' D2 E2 (by omega) (by omega) J2 R2
        exact ⟨D3, E3, k1, F2.tr k2, (G1.tr G2).tr k3, k4⟩
      · have n10 : E2 281 10 ≠ 0 := by
          rw [hr1]
          exact fun z => absurd (nI_inj (by omega) (by omega) (show nI w = nI 0 from z)) (by omega)
        obtain ⟨⟨v, E3⟩, e3, g1, g2⟩ := isOver_f hb2 hs2 hr5 n10
        dsimp only at g1 g2
        refine ⟨D2, E3, ?_, F2, (G1.tr G2).tr (g2.mono (fun j k q => SRF_X (SP9_C q))), Or.inr ⟨w, q, hC, by rw [g2 _ _ (by unfold SSP9; omega)]; exact hr1, by rw [g2 _ _ (by unfold SSP9; omega)]; exact hr2, ?_⟩⟩
        · rw [show j + 1 + z = (j + z) + 1 by omega]
          show f_X5_read_29_b _ _ _ = _
          unfold f_X5_read_29_b f_X7_hasMore
          rw [if_neg hC.ne, bI_d, if_pos rfl]
          split <;> rfl
        · rw [show j + 1 + z' = (j + z') + 1 by omega]
          show f_X12_machine_54_b _ _ _ = _
          unfold f_X12_machine_54_b
          rw [e3, bI_d, g1, if_neg (by decide), g2 281 10 (by unfold SSP9; omega), if_neg n10, hr1]
    · rw [show j + 1 + 1 + z = (j + 1 + z) + 1 by omega, show j + 1 + 1 + z' = (j + 1 + z') + 1 by omega]
      exact stop p i (j + 1 + z) (j + 1 + z') D E hp hi hJ hR
/-- the tape of both -/
def TPR (D E : Dm) (c : Nat → Nat) (h : Nat) : Prop := h ≤ 500 ∧ D 1 1 = nI h ∧ E 281 7 = nI h ∧ ∀ k, k < h → c k < 256 ∧ D 2 k = nI (c k) ∧ E 284 k = sb (c k)
abbrev SC1 (j k : Nat) : Prop := j = 1 ∧ (1 ≤ k ∧ k ≤ 7)
abbrev SR1 (j k : Nat) : Prop := j = 281 ∧ (k = 0 ∨ (7 ≤ k ∧ k ≤ 11))
/-- both open the tape -/
theorem open_j {h n : Nat} (hT : TPR D E c h) (hn : n ≤ h) : ∃ D' E', f_X7_open (nI n) D = some D' ∧ f_X12_begins (nI n) E = some E' ∧ Fr SC1 D D' ∧ Fr SR1 E E' ∧ JT D' E' c n (blk c n 0) ∧ D' 1 1 = 0 ∧ E' 281 7 = 0 := by
  obtain ⟨h5, h1, h7, hby⟩ := hT
  unfold f_X7_open f_X12_begins
  have mn : mnI (nI n) 500 = nI n := by
    unfold mnI
    by_cases e : n = 500
    · rw [e]; decide
    · exact if_neg (show ¬ (500 : Int32) < nI n from nI_nlt (a := 500) (b := n) (by omega) (by omega))
  rw [mn]
  simp only [lt_d]
  have F1 : Fr SC1 D (ud (ud (ud (ud (ud D 1 2 (nI n)) 1 1 0) 1 5 0) 1 6 0) 1 7 (-1)) := ((((Fr.refl.ud ⟨rfl, by omega, by omega⟩).ud ⟨rfl, by omega, by omega⟩).ud ⟨rfl, by omega, by omega⟩).ud ⟨rfl, by omega, by omega⟩).ud ⟨rfl, by omega, by omega⟩
  have G1 : Fr SR1 E (ud (ud (ud (ud (ud E 281 7 0) 281 8 (nI n)) 281 9 0) 281 10 0) 281 11 (-1)) := ((((Fr.refl.ud ⟨rfl, by omega⟩).ud ⟨rfl, by omega⟩).ud ⟨rfl, by omega⟩).ud ⟨rfl, by omega⟩).ud ⟨rfl, by omega⟩
  generalize hX : ud (ud (ud (ud (ud D 1 2 (nI n)) 1 1 0) 1 5 0) 1 6 0) 1 7 (-1) = X at *
  generalize hW : ud (ud (ud (ud (ud E 281 7 0) 281 8 (nI n)) 281 9 0) 281 10 0) 281 11 (-1) = W at *
  have x2 : X 1 2 = nI n := by rw [← hX, ud_at, if_neg (by omega), ud_at, if_neg (by omega), ud_at, if_neg (by omega), ud_at, if_neg (by omega), ud_at, if_pos ⟨rfl, rfl⟩]
  have x1 : X 1 1 = 0 := by rw [← hX, ud_at, if_neg (by omega), ud_at, if_neg (by omega), ud_at, if_neg (by omega), ud_at, if_pos ⟨rfl, rfl⟩]
  have x5 : X 1 5 = nI 0 := by rw [← hX, ud_at, if_neg (by omega), ud_at, if_neg (by omega), ud_at, if_pos ⟨rfl, rfl⟩, nI_0]
  have x6 : X 1 6 = 0 := by rw [← hX, ud_at, if_neg (by omega), ud_at, if_pos ⟨rfl, rfl⟩]
  have x7 : X 1 7 = -1 := by rw [← hX, ud_at, if_pos ⟨rfl, rfl⟩]
  have w7 : W 281 7 = 0 := by rw [← hW, ud_at, if_neg (by omega), ud_at, if_neg (by omega), ud_at, if_neg (by omega), ud_at, if_neg (by omega), ud_at, if_pos ⟨rfl, rfl⟩]
  have w8 : W 281 8 = nI n := by rw [← hW, ud_at, if_neg (by omega), ud_at, if_neg (by omega), ud_at, if_neg (by omega), ud_at, if_pos ⟨rfl, rfl⟩]
  have w9 : W 281 9 = nI 0 := by rw [← hW, ud_at, if_neg (by omega), ud_at, if_neg (by omega), ud_at, if_pos ⟨rfl, rfl⟩, nI_0]
  have w10 : W 281 10 = 0 := by rw [← hW, ud_at, if_neg (by omega), ud_at, if_pos ⟨rfl, rfl⟩]
  have w11 : W 281 11 = -1 := by rw [← hW, ud_at, if_pos ⟨rfl, rfl⟩]
  have hb : TKb X c n := ⟨by omega, x2, fun k hk => by rw [F1 2 k (by unfold SC1; omega)]; exact ⟨(hby k (by omega)).1, (hby k (by omega)).2.1⟩⟩
  have hr : RPb W c n := ⟨by omega, w8, fun k hk => by rw [G1 284 k (by unfold SR1; omega)]; exact ⟨(hby k (by omega)).1, (hby k (by omega)).2.2⟩⟩
  obtain ⟨X2, e1, F2, hK⟩ := next_ok hb (Nat.zero_le _) x5
  rw [e1, bV_d]
  exact ⟨X2, W, rfl, rfl, F1.tr (F2.mono (fun j k q => by unfold SNX at q; unfold SC1; omega)), G1, ⟨hK, by rw [F2 _ _ (by unfold SNX; omega)]; exact x6, by rw [F2 _ _ (by unfold SNX; omega)]; exact x7, hr, w10, w11, 0, Nat.zero_le _, w9, rfl⟩, by rw [F2 _ _ (by unfold SNX; omega)]; exact x1, w7⟩
/-- an empty draft on both sides -/
theorem empty_j {x1 : Int32} (hJ : JT D E c n p) : MTE x1 D E (f_X5_read D) (bV (f_X12_empties 283 94 E) fun D13 => lt (ud D13 281 12 0) fun D15 => lt (ud D15 281 13 0) fun D17 => f_X12_machine_54 FU x1 D17) := by
  have n5 := hJ.2.2.2.1.1
  unfold f_X5_read f_X4_clear
  simp only [lt_d]
  generalize hX : ud (ud (ud (ud D 4 0 1) 4 1 0) 4 2 1) 4 3 0 = X
  have FX : Fr SCM D X := by
    rw [← hX]
    exact (((Fr.refl.ud (Or.inr ⟨by omega, by omega⟩)).ud (Or.inr ⟨by omega, by omega⟩)).ud (Or.inr ⟨by omega, by omega⟩)).ud (Or.inr ⟨by omega, by omega⟩)
  obtain ⟨X1, f1, G1, v1⟩ := fill_ok (D0 := X) (r := 4 + 1) (n := 30) (v := -1) (by omega)
  obtain ⟨X2, f2, G2, v2⟩ := fill_ok (D0 := X1) (r := 4 + 2) (n := 30) (v := -1) (by omega)
  obtain ⟨X3, f3, G3, v3⟩ := fill_ok (D0 := X2) (r := 4 + 3) (n := 30) (v := -1) (by omega)
  rw [f1, bV_d, f2, bV_d, f3, bV_d, bV_d]
  generalize hC : ud (ud (ud (ud X3 3 1 0) 3 2 0) 3 3 0) 3 4 0 = C
  have c3 : ∀ k, 1 ≤ k → k ≤ 4 → C 3 k = 0 := fun k q1 q2 => by
    rw [← hC]
    have : k = 1 ∨ k = 2 ∨ k = 3 ∨ k = 4 := by omega
    rcases this with rfl | rfl | rfl | rfl <;> simp [ud_at]
  have cx : ∀ j k, j ≠ 3 → C j k = X3 j k := fun j k q => by
    rw [← hC, ud_at, if_neg (by omega), ud_at, if_neg (by omega), ud_at, if_neg (by omega), ud_at, if_neg (by omega)]
  have c4 : ∀ k, C 4 k = X 4 k := fun k => by rw [cx 4 k (by omega), G3 _ _ (by omega), G2 _ _ (by omega), G1 _ _ (by omega)]
  have c5 : ∀ k, k < 30 → C 5 k = -1 := fun k hk => by rw [cx 5 k (by omega), G3 _ _ (by omega), G2 _ _ (by omega)]; exact v1 k hk
  have c6 : ∀ k, k < 30 → C 6 k = -1 := fun k hk => by rw [cx 6 k (by omega), G3 _ _ (by omega)]; exact v2 k hk
  have c7 : ∀ k, k < 30 → C 7 k = -1 := fun k hk => by rw [cx 7 k (by omega)]; exact v3 k hk
  have FC : Fr (fun j k => 3 ≤ j ∧ j ≤ 7) D C := fun j k q => by
    rw [cx j k (by omega), G3 _ _ (by omega), G2 _ _ (by omega), G1 _ _ (by omega), ← hX, ud_at, if_neg (by omega), ud_at, if_neg (by omega), ud_at, if_neg (by omega), ud_at, if_neg (by omega)]
  -- the reference
  have hem : Y (f_X12_empties 283 94 E) (fun E' => Fr (fun j k => j = 283) E E' ∧ E' 283 0 = 1 ∧ E' 283 1 = 0 ∧ E' 283 2 = 1 ∧ E' 283 3 = 0 ∧ ∀ k, 4 ≤ k → k < 94 → E' 283 k = -1) := by
    unfold f_X12_empties
    refine yGd (by decide) (yLt0 (yGd (by decide) (yLt0 (yGd (by decide) (yLt0 (yGd (by decide) (yLt ?_)))))))
    intro W hW
    have loop : ∀ (j i z : Nat) (E1 : Dm), i + j = 94 → 4 ≤ i → Fr (fun j k => j = 283 ∧ 4 ≤ k) W E1 → (∀ k, 4 ≤ k → k < i → E1 283 k = -1) → Y (f_X12_empties_18 (j + 1 + z) 283 94 (nI i) E1) (fun E' => Fr (fun j k => j = 283 ∧ 4 ≤ k) W E' ∧ ∀ k, 4 ≤ k → k < 94 → E' 283 k = -1) := by
      intro j
      induction j with
      | zero =>
        intro i z E1 hi h4 hF hv
        rw [show 0 + 1 + z = z + 1 by omega]
        show Y (f_X12_empties_18_b _ _ _ _ _) _
        unfold f_X12_empties_18_b
        exact yPos (show (94 : Int32) ≤ nI i by rw [show i = 94 by omega]; decide) (yRet ⟨hF, fun k q1 q2 => hv k q1 (by omega)⟩)
      | succ j ih =>
        intro i z E1 hi h4 hF hv
        rw [show j + 1 + 1 + z = (j + 1 + z) + 1 by omega]
        show Y (f_X12_empties_18_b _ _ _ _ _) _
        unfold f_X12_empties_18_b
        refine yNeg (nI_nle2 (a := i) (b := 94) (by omega) (by omega)) (yGd (inB_nI (by omega) (by omega)) (yLt0 (yLt0 ?_)))
        rw [nI_1, nI_clamp (by omega)]
        refine ih (i + 1) z _ (by omega) (by omega) (hF.ud ⟨rfl, h4⟩) (fun k q1 q2 => ?_)
        rw [ud_at]
        by_cases e : k = i
        · rw [if_pos ⟨rfl, e⟩]
        · rw [if_neg (fun q => e q.2)]; exact hv k q1 (by omega)
    obtain ⟨z, hz⟩ := FUs 90 (by omega)
    rw [hz]
    refine yMono (loop 90 4 z W (by omega) (by omega) Fr.refl (fun k q1 q2 => by omega)) (fun E' h => ?_)
    refine ⟨fun j k q => ?_, ?_, ?_, ?_, ?_, h.2⟩
    · rw [h.1 j k (by omega), hW, ud_at, if_neg (by omega), ud_at, if_neg (by omega), ud_at, if_neg (by omega), ud_at, if_neg (by omega)]
    · rw [h.1 283 0 (by omega), hW]; rfl
    · rw [h.1 283 1 (by omega), hW]; rfl
    · rw [h.1 283 2 (by omega), hW]; rfl
    · rw [h.1 283 3 (by omega), hW]; rfl
  obtain ⟨W, ew, FW, w0, w1, w2, w3, wk⟩ := hem
  rw [ew, bV_d]
  generalize hR : ud (ud W 281 12 0) 281 13 0 = R
  have FR : Fr (fun j k => j = 283 ∨ (j = 281 ∧ (k = 12 ∨ k = 13))) E R := fun j k q => by
    rw [← hR, ud_at, if_neg (by omega), ud_at, if_neg (by omega), FW j k (by omega)]
  have r3 : ∀ k, R 283 k = W 283 k := fun k => by rw [← hR, ud_at, if_neg (by omega), ud_at, if_neg (by omega)]
  have J0 : JT C R c n p := hJ.fr (fun j k q => FC j k (by omega)) (fun j k q => FR j k (by omega))
  have D0 : DRF C R := by
    refine ⟨fun i => if i = 1 then 0 else 1, 0, fun _ => false, false, ⟨⟨by decide, by decide⟩, by decide, ⟨by decide, by decide⟩, by decide⟩, fun x hx => ?_, ⟨by rw [c4, ← hX]; rfl, by rw [r3, w3]; rfl⟩, fun k hk => ?_, fun k hk => Or.inl ⟨c5 k hk, c6 k hk, c7 k hk⟩, fun _ => ⟨rfl, fun k hk => ⟨c5 k hk, c6 k hk, c7 k hk⟩⟩, by rw [c3 4 (by omega) (by omega)]; rfl, by rw [← hR, ud_at, if_pos ⟨rfl, rfl⟩]; rfl, by rw [← hR, ud_at, if_neg (by omega), ud_at, if_pos ⟨rfl, rfl⟩]; rfl⟩
    · have : x = 0 ∨ x = 1 ∨ x = 2 := by omega
      rcases this with rfl | rfl | rfl
      · exact ⟨by rw [c4, ← hX]; rfl, by rw [r3, w0]; rfl, c3 1 (by omega) (by omega)⟩
      · exact ⟨by rw [c4, ← hX]; rfl, by rw [r3, w1]; rfl, c3 2 (by omega) (by omega)⟩
      · exact ⟨by rw [c4, ← hX]; rfl, by rw [r3, w2]; rfl, c3 3 (by omega) (by omega)⟩
    · rw [r3, r3, r3, wk _ (by omega) (by omega), wk _ (by omega) (by omega), wk _ (by omega) (by omega), c5 k hk, c6 k hk, c7 k hk]
      exact ⟨rfl, rfl, rfl⟩
  obtain ⟨z, hz⟩ := FUs n (by omega)
  have key := mt_loop (x1 := x1) (n := n) (c := c) n p 0 z z C R (by omega) (Nat.zero_le _) J0 D0
  rw [nI_0] at key
  rw [hz]
  obtain ⟨D', E', k1, k2, k3, k4⟩ := key
  exact ⟨D', E', k1, Fr.tr (FC.mono (fun j k q => Or.inr q)) k2, Fr.tr (FR.mono (fun j k q => by unfold SRX; omega)) k3, k4⟩
end
