/-! ===== a line of a move ===== -/
section
variable {D E D0 E0 : Dm} {c : Nat → Nat} {n p p0 : Nat}
theorem BOD.mono {q : Nat} {pl : Nat} {x : Option (Int32 × Dm)} {y : Option Dm} (h : BOD c n q pl D E x y) (hp : p ≤ q) (hD : Fr SCM D0 D) (hE : Fr SRX E0 E) : BOD c n p pl D0 E0 x y := by
  obtain ⟨fl, D', E', e1, e2, F, G, r⟩ := h
  refine ⟨fl, D', E', e1, e2, hD.tr F, hE.tr G, ?_⟩
  rcases r with ⟨r1, ⟨p', r2, r3⟩, r4⟩ | ⟨r1, D'', r2, r3, r4⟩ | r
  · exact Or.inl ⟨r1, ⟨p', by omega, r3⟩, r4⟩
  · exact Or.inr (Or.inl ⟨r1, D'', r2, hD.tr r3, r4⟩)
  · exact Or.inr (Or.inr r)
theorem BOD.jf {pl : Nat} {x : Option (Int32 × Dm)} {y : Option Dm} (h : JF D E c n) (hx : x = some (0, D)) (hy : y = some E) : BOD c n p pl D E x y :=
  ⟨0, D, E, hx, hy, Fr.refl, Fr.refl, Or.inr (Or.inr ⟨Or.inl rfl, h⟩)⟩
theorem c147_f {a b g t ke dr : Int32} (h : D 1 6 ≠ 0) : f_X5_readMove_147 a b g t ke dr D = some (0, D) := by
  unfold f_X5_readMove_147
  rw [if_neg h]
theorem r146_f {pl a b g t ke dr : Int32} (h : E 281 10 ≠ 0) : f_X12_moveLine_146 pl a b g t ke dr E = some E := by
  unfold f_X12_moveLine_146
  rw [if_neg h]
theorem c118_f {a b g t ke : Int32} (h : D 1 6 ≠ 0) : f_X5_readMove_118 a b g t ke D = some (0, D) := by
  unfold f_X5_readMove_118
  rw [skip_f h, bI_d, if_pos rfl, c147_f h]
theorem r118_f {pl a b g t ke : Int32} (h : E 281 10 ≠ 0) : f_X12_moveLine_118 pl a b g t ke E = some E := by
  unfold f_X12_moveLine_118
  rw [rtakes_f h, bI_d, if_pos rfl, r146_f h]
theorem c69_f {a b g : Int32} (h : D 1 6 ≠ 0) : f_X5_readMove_69 a b g D = some (0, D) := by
  unfold f_X5_readMove_69
  rw [expect_f h, bV_d, num_f h, bI_d, skip_f h, bI_d, if_pos rfl, c118_f h]
theorem r71_f {pl a b g : Int32} (h : E 281 10 ≠ 0) : f_X12_moveLine_71 pl a b g E = some E := by
  unfold f_X12_moveLine_71
  rw [rmust_f h, bV_d, rnum_f h, bI_d, rtakes_f h, bI_d, if_pos rfl, r118_f h]
theorem slot_m : ∀ s, s < 5 → ∀ y, y < 2 → ∀ g, g < 3 → ((nI s * 2 + nI y) * 3 + nI g) = nI ((s * 2 + y) * 3 + g) ∧ (4 + (3 * (((6 * nI s) + (3 * nI y)) + nI g))) = nI (4 + 3 * ((s * 2 + y) * 3 + g)) := by decide +kernel
def DRW (D E : Dm) (V : Nat → Nat) (A : Nat) (f : Nat → Bool) : Prop :=
  ((1 ≤ V 0 ∧ V 0 ≤ 5) ∧ V 1 ≤ 2 ∧ (1 ≤ V 2 ∧ V 2 ≤ 2) ∧ A < 32) ∧
  (∀ x, x < 3 → D 4 x = nI (V x) ∧ E 283 x = nI (V x) ∧ D 3 (x + 1) = b01 (f x)) ∧ (D 4 3 = nI A ∧ E 283 3 = nI A) ∧
  (∀ k, k < 30 → E 283 (4 + 3 * k) = D 5 k ∧ E 283 (4 + 3 * k + 1) = D 6 k ∧ E 283 (4 + 3 * k + 2) = D 7 k) ∧
  MV (V 0) (V 1) (V 2) (D 5) (D 6) (D 7) ∧ E 281 12 = nI (fN f)
theorem DRW.fr {D' E' : Dm} {V : Nat → Nat} {A : Nat} {f : Nat → Bool} (h : DRW D E V A f) (hD : ∀ j k, ¬ SCR j k → ¬ (j = 3 ∧ k = 4) → D' j k = D j k) (hE : Fr SRF E E') : DRW D' E' V A f := by
  obtain ⟨h1, h2, h3, h4, h5, h9⟩ := h
  have d5 : D' 5 = D 5 := funext (fun k => hD _ _ (by unfold SCR; omega) (by omega))
  have d6 : D' 6 = D 6 := funext (fun k => hD _ _ (by unfold SCR; omega) (by omega))
  have d7 : D' 7 = D 7 := funext (fun k => hD _ _ (by unfold SCR; omega) (by omega))
  have e3 : E' 283 = E 283 := funext (fun k => hE _ _ (by unfold SRF; omega))
  refine ⟨h1, fun x hx => ?_, ?_, ?_, ?_, ?_⟩
  · rw [hD _ _ (by unfold SCR; omega) (by omega), hD _ _ (by unfold SCR; omega) (by omega), e3]; exact h2 x hx
  · rw [hD _ _ (by unfold SCR; omega) (by omega), e3]; exact h3
  · rw [d5, d6, d7, e3]; exact h4
  · rw [d5, d6, d7]; exact h5
  · rw [hE _ _ (by unfold SRF; omega)]; exact h9
/-- the move is put in -/
theorem mv_end {pl s y g t : Nat} {ke dr : Int32} (hJ : JT D E c n p) (h0 : p0 < p) {V : Nat → Nat} {A : Nat} {f : Nat → Bool} (hR : DRW D E V A f) (hb : D 3 4 = 1) (hs : s < V 0) (hy : y < V 2) (hg : g = 2 ∨ g < V 1) (ht : t < V 0) (hke : ke = -1 ∨ ∃ r, r < V 1 ∧ ke = nI r) (hdr : dr = -1 ∨ ∃ r, r < V 1 ∧ dr = nI r) :
    BOD c n p0 pl D E (f_X5_readMove_147 (nI s) (nI y) (nI g) (nI t) ke dr D) (f_X12_moveLine_146 (nI pl) (nI s) (nI y) (nI g) (nI t) ke dr E) := by
  obtain ⟨h1, h2, h3, h4, h5, h9⟩ := id hR
  obtain ⟨sl1, sl2⟩ := slot_m s (by omega) y (by omega) g (by omega)
  have hj : (s * 2 + y) * 3 + g < 30 := by omega
  have m1 : ((s * 2 + y) * 3 + g) % 3 = g := by omega
  have m2 : ((s * 2 + y) * 3 + g) / 3 % 2 = y := by omega
  have m3 : ((s * 2 + y) * 3 + g) / 6 = s := by omega
  generalize (s * 2 + y) * 3 + g = j at *
  have z0 : zbB 0 = true := by decide
  have z1 : zbB 1 = true := by decide
  unfold f_X5_readMove_147 f_X12_moveLine_146 f_X4_slot f_X12_moveAt f_X5_readMove_186 f_X12_moveLine_182 f_X4_put
  rw [if_pos hJ.2.1, bI_d, if_pos hJ.2.2.2.2.1, bI_d, sl1, sl2, gd_t (inB_nI (by omega) (by omega)), gd_t (inB_nI (by omega) (by omega)), nI_clamp (by omega), nI_clamp (by omega), (h4 j hj).1]
  have i1 : nI (4 + 3 * j) + 1 = nI (4 + 3 * j + 1) := nI_1 _
  have i2 : nI (4 + 3 * j) + 2 = nI (4 + 3 * j + 2) := nI_add _ 2
  simp only [gd_t (inB_nI hj (show (30 : Nat) < 2 ^ 31 by omega)), lt_d, bV_d, i1, i2, gd_t (inB_nI (show 4 + 3 * j < 94 by omega) (show (94 : Nat) < 2 ^ 31 by omega)), gd_t (inB_nI (show 4 + 3 * j + 1 < 94 by omega) (show (94 : Nat) < 2 ^ 31 by omega)), gd_t (inB_nI (show 4 + 3 * j + 2 < 94 by omega) (show (94 : Nat) < 2 ^ 31 by omega)), nI_clamp (show 4 + 3 * j + 1 < 2 ^ 31 by omega), nI_clamp (show 4 + 3 * j + 2 < 2 ^ 31 by omega), gd_t z0, gd_t z1]
  have FD : Fr SCM D (ud (ud (ud D 5 j (nI t)) 6 j ke) 7 j dr) := ((Fr.refl.ud (Or.inr ⟨by omega, by omega⟩)).ud (Or.inr ⟨by omega, by omega⟩)).ud (Or.inr ⟨by omega, by omega⟩)
  have J2 : JT (ud (ud (ud D 5 j (nI t)) 6 j ke) 7 j dr) E c n p := hJ.fr (fun j k q => by rw [ud_at, if_neg (by omega), ud_at, if_neg (by omega), ud_at, if_neg (by omega)]) (fun _ _ _ => rfl)
  have GX : ∀ E1 : Dm, Fr SRX E E1 → Fr SRX E (ud (ud (ud (ud E1 283 (4 + 3 * j) (nI t)) 283 (4 + 3 * j + 1) ke) 283 (4 + 3 * j + 2) dr) 281 13 1) := fun E1 h => (((h.ud (Or.inr rfl)).ud (Or.inr rfl)).ud (Or.inr rfl)).ud (Or.inl ⟨rfl, by omega, by omega⟩)
  by_cases q : D 5 j = -1
  · rw [if_pos q, if_pos q]
    refine ⟨0, _, _, rfl, rfl, FD, GX E Fr.refl, Or.inl ⟨rfl, ⟨p, h0, J2.fr (fun _ _ _ => rfl) (fun j k q => by rw [ud_at, if_neg (by omega), ud_at, if_neg (by omega), ud_at, if_neg (by omega), ud_at, if_neg (by omega)])⟩, V, A, f, true, ?_⟩⟩
    have dj : ∀ i k, ¬ ((i = 5 ∨ i = 6 ∨ i = 7) ∧ k = j) → (ud (ud (ud D 5 j (nI t)) 6 j ke) 7 j dr) i k = D i k := fun i k z => by
      rw [ud_at, if_neg (by omega), ud_at, if_neg (by omega), ud_at, if_neg (by omega)]
    have ej : ∀ i k, ¬ (i = 281 ∧ k = 13) → ¬ (i = 283 ∧ (4 + 3 * j ≤ k ∧ k ≤ 4 + 3 * j + 2)) → (ud (ud (ud (ud E 283 (4 + 3 * j) (nI t)) 283 (4 + 3 * j + 1) ke) 283 (4 + 3 * j + 2) dr) 281 13 1) i k = E i k := fun i k z1 z2 => by
      rw [ud_at, if_neg (by omega), ud_at, if_neg (by omega), ud_at, if_neg (by omega), ud_at, if_neg (by omega)]
    refine ⟨h1, fun x hx => ?_, ⟨by rw [dj _ _ (by omega)]; exact h3.1, by rw [ej _ _ (by omega) (by omega)]; exact h3.2⟩, fun k hk => ?_, fun k hk => ?_, (fun z => by cases z), ?_, ?_, ?_⟩
    · rw [dj _ _ (by omega), ej _ _ (by omega) (by omega), dj _ _ (by omega)]; exact h2 x hx
    · by_cases e : k = j
      · subst e
        refine ⟨?_, ?_, ?_⟩
        · rw [ud_at, if_neg (by omega), ud_at, if_neg (by omega), ud_at, if_neg (by omega), ud_at, if_pos ⟨rfl, rfl⟩, ud_at, if_neg (by omega), ud_at, if_neg (by omega), ud_at, if_pos ⟨rfl, rfl⟩]
        · rw [ud_at, if_neg (by omega), ud_at, if_neg (by omega), ud_at, if_pos ⟨rfl, rfl⟩, ud_at, if_neg (by omega), ud_at, if_pos ⟨rfl, rfl⟩]
        · rw [ud_at, if_neg (by omega), ud_at, if_pos ⟨rfl, rfl⟩, ud_at, if_pos ⟨rfl, rfl⟩]
      · rw [dj _ _ (by omega), dj _ _ (by omega), dj _ _ (by omega), ej _ _ (by omega) (by omega), ej _ _ (by omega) (by omega), ej _ _ (by omega) (by omega)]
        exact h4 k hk
    · by_cases e : k = j
      · subst e
        right
        refine ⟨t, ht, ?_, ?_, ?_, by omega, by omega, by omega⟩
        · rw [ud_at, if_neg (by omega), ud_at, if_neg (by omega), ud_at, if_pos ⟨rfl, rfl⟩]
        · rw [ud_at, if_neg (by omega), ud_at, if_pos ⟨rfl, rfl⟩]; exact hke
        · rw [ud_at, if_pos ⟨rfl, rfl⟩]; exact hdr
      · rw [dj _ _ (by omega), dj _ _ (by omega), dj _ _ (by omega)]
        exact h5 k hk
    · rw [dj _ _ (by omega), hb]; rfl
    · rw [ud_at, if_pos ⟨rfl, rfl⟩]; rfl
    · rw [ej _ _ (by omega) (by omega)]; exact h9
  · rw [if_neg q, if_neg q]
    obtain ⟨D2, E2, r1, r2, r3, r4, r5⟩ := ref_j (w := 3) (q := pl) (s := 0) J2 (by omega) (by omega)
    rw [show f_X12_fails 3 (nI pl) E = some E2 from r2, bV_d]
    exact ⟨1, _, _, rfl, rfl, FD, GX E2 (r4.mono (fun j k q => SRF_X q)), Or.inr (Or.inl ⟨rfl, D2, r1, FD.tr (r3.mono (fun j k q => SCR_M q)), r5.fr (fun _ _ => rfl) (fun j k q => by rw [ud_at, if_neg (by omega), ud_at, if_neg (by omega), ud_at, if_neg (by omega), ud_at, if_neg (by omega)])⟩)⟩
/-- what the draft tells, after a read -/
theorem DRW.b {D' E' : Dm} {V : Nat → Nat} {A : Nat} {f : Nat → Bool} (hR : DRW D E V A f) (hb : D 3 4 = 1) (hD : Fr SCR D D') (hE : Fr SRF E E') : DRW D' E' V A f ∧ D' 3 4 = 1 := ⟨hR.fr (fun j k q _ => hD j k q) hE, by rw [hD _ _ (by unfold SCR; omega)]; exact hb⟩
theorem mv_118 {pl s y g t : Nat} {ke : Int32} (hJ : JT D E c n p) (h0 : p0 < p) {V : Nat → Nat} {A : Nat} {f : Nat → Bool} (hR : DRW D E V A f) (hb : D 3 4 = 1) (hs : s < V 0) (hy : y < V 2) (hg : g = 2 ∨ g < V 1) (ht : t < V 0) (hke : ke = -1 ∨ ∃ r, r < V 1 ∧ ke = nI r) :
    BOD c n p0 pl D E (f_X5_readMove_118 (nI s) (nI y) (nI g) (nI t) ke D) (f_X12_moveLine_118 (nI pl) (nI s) (nI y) (nI g) (nI t) ke E) := by
  unfold f_X5_readMove_118 f_X12_moveLine_118
  obtain ⟨D1, E1, a1, a2, a3, a4, a5, a6⟩ := skip_j (k := 11) hJ (by omega)
  obtain ⟨hR1, hb1⟩ := hR.b hb a3 a4
  rw [a1, bI_d, show f_X12_takes 9 E = some (b01 (tokEq c n p 11), E1) from a2, bI_d]
  have FD := a3.mono (fun j k q => SCR_M q)
  have GX := a4.mono (fun j k q => SRF_X q)
  cases tt : tokEq c n p 11 with
  | false =>
    obtain ⟨b1, b2⟩ := a5 tt
    rw [if_pos (show b01 false = 0 from rfl), if_pos (show b01 false = 0 from rfl)]
    rw [b1] at hR1 hb1 FD ⊢
    exact (mv_end (p0 := p0) b2 h0 hR1 hb1 hs hy hg ht hke (Or.inl rfl)).mono (Nat.le_refl _) FD GX
  | true =>
    obtain ⟨b1, b2⟩ := a6 tt
    rw [if_neg (show ¬ b01 true = 0 by decide), if_neg (show ¬ b01 true = 0 by decide), (hR1.2.1 1 (by omega)).1, (hR1.2.1 1 (by omega)).2.1]
    obtain ⟨v1, v2, D2, E2, e1, e2, F2, G2, res⟩ := num_j (lo := 0) (hi := nI (V 1) - 1) b1
    obtain ⟨hR2, hb2⟩ := hR1.b hb1 F2 G2
    have bp := blk_te (c := c) b2
    rw [e1, bI_d, e2, bI_d]
    rcases res with ⟨v, hv, rfl, rfl, vl, vh, J2, pn⟩ | hF
    · have hvR := lt_sub hv (by have := hR.1.2.1; omega) vh
      exact (mv_end (p0 := p0) J2 (by have := blk_te (c := c) pn; omega) hR2 hb2 hs hy hg ht hke (Or.inr ⟨v, hvR, rfl⟩)).mono (Nat.le_refl _) (FD.tr (F2.mono (fun j k q => SCR_M q))) (GX.tr (G2.mono (fun j k q => SRF_X q)))
    · exact (BOD.jf (p := p0) hF (c147_f hF.ne.1) (r146_f hF.ne.2)).mono (Nat.le_refl _) (FD.tr (F2.mono (fun j k q => SCR_M q))) (GX.tr (G2.mono (fun j k q => SRF_X q)))
theorem mv_69 {pl s y g : Nat} (hJ : JT D E c n p) (h0 : p0 < p) {V : Nat → Nat} {A : Nat} {f : Nat → Bool} (hR : DRW D E V A f) (hb : D 3 4 = 1) (hs : s < V 0) (hy : y < V 2) (hg : g = 2 ∨ g < V 1) :
    BOD c n p0 pl D E (f_X5_readMove_69 (nI s) (nI y) (nI g) D) (f_X12_moveLine_71 (nI pl) (nI s) (nI y) (nI g) E) := by
  unfold f_X5_readMove_69 f_X12_moveLine_71
  obtain ⟨D1, E1, a1, a2, a3, a4, a5⟩ := must_j (k := 9) hJ (by omega)
  obtain ⟨hR1, hb1⟩ := hR.b hb a3 a4
  rw [a1, bV_d, show f_X12_must 7 E = some E1 from a2, bV_d, (hR1.2.1 0 (by omega)).1, (hR1.2.1 0 (by omega)).2.1]
  have FD := a3.mono (fun j k q => SCR_M q)
  have GX := a4.mono (fun j k q => SRF_X q)
  rcases a5 with J1 | hF
  · have bp : p ≤ blk c n (te c n p) := by
      have t := te_le (c := c) hJ.1.2.1
      have := blk_le (c := c) t.2.1
      omega
    obtain ⟨v1, v2, D2, E2, e1, e2, F2, G2, res⟩ := num_j (lo := 0) (hi := nI (V 0) - 1) J1
    obtain ⟨hR2, hb2⟩ := hR1.b hb1 F2 G2
    have FD2 := FD.tr (F2.mono (fun j k q => SCR_M q))
    have GX2 := GX.tr (G2.mono (fun j k q => SRF_X q))
    rw [e1, bI_d, e2, bI_d]
    rcases res with ⟨t, hv, rfl, rfl, vl, vh, J2, pn⟩ | hF
    · have htS := lt_sub hv (by have := hR.1.1; omega) vh
      have bp2 := blk_te (c := c) pn
      obtain ⟨D3, E3, b1, b2, b3, b4, b5, b6⟩ := skip_j (k := 10) J2 (by omega)
      obtain ⟨hR3, hb3⟩ := hR2.b hb2 b3 b4
      rw [b1, bI_d, show f_X12_takes 8 E2 = some (b01 (tokEq c n (blk c n (te c n (blk c n (te c n p)))) 10), E3) from b2, bI_d]
      have FD3 := FD2.tr (b3.mono (fun j k q => SCR_M q))
      have GX3 := GX2.tr (b4.mono (fun j k q => SRF_X q))
      generalize hP : blk c n (te c n (blk c n (te c n p))) = P at *
      cases tt : tokEq c n P 10 with
      | false =>
        obtain ⟨d1, d2⟩ := b5 tt
        rw [if_pos (show b01 false = 0 from rfl), if_pos (show b01 false = 0 from rfl)]
        rw [d1] at hR3 hb3 FD3 ⊢
        exact (mv_118 (p0 := p0) d2 (by omega) hR3 hb3 hs hy hg htS (Or.inl rfl)).mono (Nat.le_refl _) FD3 GX3
      | true =>
        obtain ⟨d1, d2⟩ := b6 tt
        rw [if_neg (show ¬ b01 true = 0 by decide), if_neg (show ¬ b01 true = 0 by decide), (hR3.2.1 1 (by omega)).1, (hR3.2.1 1 (by omega)).2.1]
        have bp3 := blk_te (c := c) d2
        obtain ⟨v1, v2, D4, E4, g1, g2, F4, G4, res⟩ := num_j (lo := 0) (hi := nI (V 1) - 1) d1
        obtain ⟨hR4, hb4⟩ := hR3.b hb3 F4 G4
        have FD4 := FD3.tr (F4.mono (fun j k q => SCR_M q))
        have GX4 := GX3.tr (G4.mono (fun j k q => SRF_X q))
        rw [g1, bI_d, g2, bI_d]
        rcases res with ⟨v, hv, rfl, rfl, vl, vh, J4, pn4⟩ | hF
        · have hvR := lt_sub hv (by have := hR.1.2.1; omega) vh
          exact (mv_118 (p0 := p0) J4 (by have := blk_te (c := c) pn4; omega) hR4 hb4 hs hy hg htS (Or.inr ⟨v, hvR, rfl⟩)).mono (Nat.le_refl _) FD4 GX4
        · exact (BOD.jf (p := p0) hF (c118_f hF.ne.1) (r118_f hF.ne.2)).mono (Nat.le_refl _) FD4 GX4
    · refine (BOD.jf (p := p0) hF ?_ ?_).mono (Nat.le_refl _) FD2 GX2
      · rw [skip_f hF.ne.1, bI_d, if_pos rfl, c118_f hF.ne.1]
      · rw [rtakes_f hF.ne.2, bI_d, if_pos rfl, r118_f hF.ne.2]
  · refine (BOD.jf (p := p0) hF ?_ ?_).mono (Nat.le_refl _) FD GX
    · rw [num_f hF.ne.1, bI_d, skip_f hF.ne.1, bI_d, if_pos rfl, c118_f hF.ne.1]
    · rw [rnum_f hF.ne.2, bI_d, rtakes_f hF.ne.2, bI_d, if_pos rfl, r118_f hF.ne.2]
theorem r35_f {pl a b : Int32} (h : E 281 10 ≠ 0) : f_X12_moveLine_35 pl a b E = some E := by
  unfold f_X12_moveLine_35
  rw [rtakes_f h, bI_d, if_pos rfl, rmust_f h, bV_d, r71_f h]
theorem mv_b {pl : Nat} (hJ : JT D E c n p) (hR : DRF D E) : BOD c n p pl D E (f_X5_readMove D) (f_X12_moveLine (nI pl) E) := by
  obtain ⟨V, A, f, fb, hR⟩ := hR
  obtain ⟨h1, h2, h3, h4, h5, h6, h7, h8, h9⟩ := id hR
  unfold f_X5_readMove f_X12_moveLine
  rw [lt_d]
  have F0 : Fr SCM D (ud D 3 4 1) := Fr.refl.ud (Or.inr ⟨by omega, by omega⟩)
  have J0 : JT (ud D 3 4 1) E c n p := hJ.fr (fun j k q => by rw [ud_at, if_neg (by omega)]) (fun _ _ _ => rfl)
  rw [show (ud D 3 4 1) 4 0 = nI (V 0) by rw [ud_at, if_neg (by omega)]; exact (h2 0 (by omega)).1, (h2 0 (by omega)).2.1]
  obtain ⟨v1, v2, D1, E1, e1, e2, F1, G1, res⟩ := num_j (lo := 0) (hi := nI (V 0) - 1) J0
  rw [e1, bI_d, e2, bI_d]
  have FD1 := F0.tr (F1.mono (fun j k q => SCR_M q))
  have GX1 := G1.mono (fun j k q => SRF_X q)
  rcases res with ⟨s, hv, rfl, rfl, vl, vh, J1, pn⟩ | hF
  · have hs := lt_sub hv (by omega) vh
    have bp := blk_te (c := c) pn
    have hb1 : D1 3 4 = 1 := by rw [F1 _ _ (by unfold SCR; omega), ud_at, if_pos ⟨rfl, rfl⟩]
    have hW : DRW D E V A f := ⟨h1, h2, h3, h4, h5, h9⟩
    have hR1 : DRW D1 E1 V A f := hW.fr (fun j k q1 q2 => by rw [F1 j k q1, ud_at, if_neg q2]) G1
    rw [if_pos J1.2.2.2.2.1, (hR1.2.1 2 (by omega)).1, (hR1.2.1 2 (by omega)).2.1]
    obtain ⟨y1, y2, D2, E2, a1, a2, F2, G2, res⟩ := sym_j (x1 := nI (V 2)) J1
    obtain ⟨hR2, hb2⟩ := hR1.b hb1 F2 G2
    have FD2 := FD1.tr (F2.mono (fun j k q => SCR_M q))
    have GX2 := GX1.tr (G2.mono (fun j k q => SRF_X q))
    rw [a1, bI_d, a2, bI_d]
    rcases res with ⟨y, hy, hy1, rfl, rfl, J2, pn2⟩ | hF
    · have hyY : y < V 2 := by
        by_cases e : y = 1
        · have := hy1 e
          by_cases e2 : V 2 ≤ 1
          · exact absurd (nI_le (a := V 2) (b := 1) e2 (by omega)) this
          · omega
        · have := h1.2.2.1; omega
      have bp2 := blk_te (c := c) pn2
      unfold f_X12_moveLine_35
      obtain ⟨D3, E3, b1, b2, b3, b4, b5, b6⟩ := skip_j (k := 7) J2 (by omega)
      obtain ⟨hR3, hb3⟩ := hR2.b hb2 b3 b4
      have FD3 := FD2.tr (b3.mono (fun j k q => SCR_M q))
      have GX3 := GX2.tr (b4.mono (fun j k q => SRF_X q))
      rw [b1, bI_d, show f_X12_takes 5 E2 = some (b01 (tokEq c n (blk c n (te c n (blk c n (te c n p)))) 7), E3) from b2, bI_d]
      generalize hP : blk c n (te c n (blk c n (te c n p))) = P at *
      cases tt : tokEq c n P 7 with
      | false =>
        obtain ⟨d1, d2⟩ := b5 tt
        rw [if_pos (show b01 false = 0 from rfl), if_pos (show b01 false = 0 from rfl)]
        rw [d1] at hR3 hb3 FD3 ⊢
        obtain ⟨D4, E4, g1, g2, F4, G4, res⟩ := must_j (k := 8) d2 (by omega)
        obtain ⟨hR4, hb4⟩ := hR3.b hb3 F4 G4
        have FD4 := FD3.tr (F4.mono (fun j k q => SCR_M q))
        have GX4 := GX3.tr (G4.mono (fun j k q => SRF_X q))
        rw [g1, bV_d, show f_X12_must 6 E3 = some E4 from g2, bV_d]
        rcases res with J4 | hF
        · have bp4 : P ≤ blk c n (te c n P) := by
            have t := te_le (c := c) d2.1.2.1
            have := blk_le (c := c) t.2.1
            omega
          exact (mv_69 (p0 := p) (g := 2) J4 (by omega) hR4 hb4 hs hyY (Or.inl rfl)).mono (Nat.le_refl _) FD4 GX4
        · exact (BOD.jf (p := p) hF (c69_f hF.ne.1) (r71_f hF.ne.2)).mono (Nat.le_refl _) FD4 GX4
      | true =>
        obtain ⟨d1, d2⟩ := b6 tt
        rw [if_neg (show ¬ b01 true = 0 by decide), if_neg (show ¬ b01 true = 0 by decide), (hR3.2.1 1 (by omega)).1, (hR3.2.1 1 (by omega)).2.1]
        have bp3 := blk_te (c := c) d2
        obtain ⟨v1, v2, D4, E4, g1, g2, F4, G4, res⟩ := num_j (lo := 0) (hi := nI (V 1) - 1) d1
        obtain ⟨hR4, hb4⟩ := hR3.b hb3 F4 G4
        have FD4 := FD3.tr (F4.mono (fun j k q => SCR_M q))
        have GX4 := GX3.tr (G4.mono (fun j k q => SRF_X q))
        rw [g1, bI_d, g2, bI_d]
        rcases res with ⟨v, hv, rfl, rfl, vl, vh, J4, pn4⟩ | hF
        · have hvR := lt_sub hv (by omega) vh
          exact (mv_69 (p0 := p) J4 (by have := blk_te (c := c) pn4; omega) hR4 hb4 hs hyY (Or.inr hvR)).mono (Nat.le_refl _) FD4 GX4
        · exact (BOD.jf (p := p) hF (c69_f hF.ne.1) (r71_f hF.ne.2)).mono (Nat.le_refl _) FD4 GX4
    · refine (BOD.jf (p := p) hF ?_ (r35_f hF.ne.2)).mono (Nat.le_refl _) FD2 GX2
      rw [skip_f hF.ne.1, bI_d, if_pos rfl, expect_f hF.ne.1, bV_d, c69_f hF.ne.1]
  · rw [if_neg hF.ne.2]
    refine (BOD.jf (p := p) hF ?_ (r35_f hF.ne.2)).mono (Nat.le_refl _) FD1 GX1
    have sf : f_X7_readSymbol (D1 4 2) D1 = some (0, D1) := by
      unfold f_X7_readSymbol f_X7_readSymbol_27
      rw [skip_f hF.ne.1, bI_d, if_pos rfl, skip_f hF.ne.1, bI_d, if_pos rfl, refuse_f hF.ne.1, bV_d]
      split <;> rfl
    rw [sf, bI_d, skip_f hF.ne.1, bI_d, if_pos rfl, expect_f hF.ne.1, bV_d, c69_f hF.ne.1]
end
