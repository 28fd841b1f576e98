/-! ===== word ===== -/
section
variable {D E : Dm} {c : Nat → Nat} {n p : Nat}
def WDR (D E : Dm) (i : Nat) : Prop := isW D 21 i ∧ ∀ k, k < i → E 287 k = D 22 k ∧ E 288 k = D 23 k ∧ isSy (D 22 k) ∧ 0 ≤ (D 23 k).toInt ∧ (D 23 k).toInt ≤ 99
abbrev SCW (j k : Nat) : Prop := (j = 1 ∧ (3 ≤ k ∧ k ≤ 7)) ∨ (21 ≤ j ∧ j ≤ 24)
abbrev SRW (j k : Nat) : Prop := (j = 281 ∧ (9 ≤ k ∧ k ≤ 11)) ∨ j = 287 ∨ j = 288
theorem WDR.fr {D' E' : Dm} {i : Nat} (h : WDR D E i) (hD : Fr SCR D D') (hE : Fr SRF E E') : WDR D' E' i := by
  obtain ⟨h1, h2⟩ := h
  refine ⟨isW_congr h1 (hD _ _ (by unfold SCR; omega)) (hD _ _ (by unfold SCR; omega)) (fun k _ => hD _ _ (by unfold SCR; omega)) (fun k _ => hD _ _ (by unfold SCR; omega)), fun k hk => ?_⟩
  rw [hE _ _ (by unfold SRF; omega), hE _ _ (by unfold SRF; omega), hD _ _ (by unfold SCR; omega), hD _ _ (by unfold SCR; omega)]
  exact h2 k hk
def WTE (D E : Dm) (x : Option Dm) (y : Option (Int32 × Dm)) : Prop := ∃ D' E', x = some D' ∧ Fr SCW D D' ∧ Fr SRW E E' ∧ ((∃ i, i ≤ 12 ∧ D' 1 6 = 0 ∧ D' 1 7 = -1 ∧ E' 281 10 = 0 ∧ E' 281 11 = -1 ∧ WDR D' E' i ∧ y = (lt (ud E' 281 18 (nI i)) fun D5 => f_X12_word_113 FU (nI i) 0 D5)) ∨ (∃ w q, CFt D' w q ∧ E' 281 10 = nI w ∧ E' 281 11 = nI q ∧ y = some (-30 - nI w, E')))
theorem wd_loop : ∀ (j p i z z' : Nat) (D E : Dm), n - p ≤ j → i ≤ 12 → JT D E c n p → WDR D E i → WTE D E (f_X11_readWord_9 (j + 1 + 1 + z) (nI i) D) (f_X12_word_29 (j + 1 + z') (nI i) E) := by
  have stop : ∀ (p i z z' : Nat) (D E : Dm), ¬ p < n → i ≤ 12 → JT D E c n p → WDR D E i → WTE D E (f_X11_readWord_9 (z + 1) (nI i) D) (f_X12_word_29 (z' + 1) (nI i) E) := by
    intro p i z z' D E hp hi hJ hR
    obtain ⟨h1, h2, h3, h4, h5, h6, s, hs, h9, hb⟩ := id hJ
    obtain ⟨⟨v, E1⟩, e1, a1, a2, a3⟩ := isOver_ok h4 hs h9 h5
    dsimp only at a1 a2 a3
    rw [hb, if_neg hp] at a1
    refine ⟨D, E1, ?_, Fr.refl, a2.mono (fun j k q => Or.inl (SP9_C q)), Or.inl ⟨i, hi, h2, h3, by rw [a2 _ _ (by unfold SSP9; omega)]; exact h5, by rw [a2 _ _ (by unfold SSP9; omega)]; exact h6, hR.fr Fr.refl (a2.mono (fun j k q => SP9_C q)), ?_⟩⟩
    · show f_X11_readWord_9_b _ _ _ = _
      unfold f_X11_readWord_9_b
      rw [hasMore_ok h1 h2, bI_d, if_neg hp, if_pos rfl]
      split <;> rfl
    · show f_X12_word_29_b _ _ _ = _
      unfold f_X12_word_29_b
      rw [e1, bI_d, a1, if_neg (by decide)]
  intro j
  induction j with
  | zero =>
    intro p i z z' D E hj hi hJ hR
    rw [show 0 + 1 + 1 + z = (z + 1) + 1 by omega, show 0 + 1 + z' = z' + 1 by omega]
    exact stop p i (z + 1) z' D E (by omega) hi hJ hR
  | succ j ih =>
    intro p i z z' D E hj hi hJ hR
    by_cases hp : p < n
    · obtain ⟨h1, h2, h3, h4, h5, h6, s, hs, h9, hb⟩ := id hJ
      have n5 := h4.1
      obtain ⟨⟨v, E1⟩, e1, a1, a2, a3⟩ := isOver_ok h4 hs h9 h5
      dsimp only at a1 a2 a3
      rw [hb] at a1 a3
      rw [if_pos hp] at a1
      have J1 : JT D E1 c n p := hJ.go Fr.refl h1 a2 a3 h1.2.1 h1.2.2.1
      have R1 : WDR D E1 i := hR.fr Fr.refl (a2.mono (fun j k q => SP9_C q))
      have G1 : Fr SRW E E1 := a2.mono (fun j k q => Or.inl (SP9_C q))
      -- after a fault the class adds one more letter, and stops
      have cstop : ∀ (D2 : Dm) (x : Int32) (f : Nat), D2 1 6 ≠ 0 → isW D2 21 i → Fr SCW D D2 → ∃ D3, f_X11_readWord_57 (f_X11_readWord_9 (f + 1)) (nI i) x D2 = some D3 ∧ Fr SCW D D3 ∧ D3 1 6 = D2 1 6 ∧ D3 1 7 = D2 1 7 := fun D2 x f n6 hW F2 => by
        have n6' : (adD D2 21 i x 0) 1 6 ≠ 0 := by rw [adD_ne (by omega)]; exact n6
        refine ⟨adD D2 21 i x 0, ?_, ?_, adD_ne (by omega), adD_ne (by omega)⟩
        · unfold f_X11_readWord_57
          rw [num_f n6, bI_d, add_ok hW (by omega), bV_d, lt_d, nI_1]
          show f_X11_readWord_9_b _ _ _ = _
          unfold f_X11_readWord_9_b f_X7_hasMore
          rw [if_neg n6', bI_d, if_pos rfl]
          split <;> rfl
        · exact fun j k q => by rw [adD_ne (by unfold SCW at q; omega), F2 j k q]
      obtain ⟨y1, y2, D2, E2, b1, b2, F2, G2, res⟩ := sym_j (x1 := 2) J1
      have FD2 : Fr SCW D D2 := F2.mono (fun j k q => Or.inl q)
      have GX2 : Fr SRW E E2 := G1.tr (G2.mono (fun j k q => Or.inl q))
      have R2 : WDR D2 E2 i := R1.fr F2 G2
      have ec : f_X11_readWord_9 (j + 1 + 1 + 1 + z) (nI i) D = if nI i = 12 then (bV (f_X7_refuse 3 (nI p) D2) fun D12 => f_X11_readWord_57 (f_X11_readWord_9 (j + 1 + 1 + z)) (nI i) y1 D12) else (f_X11_readWord_57 (f_X11_readWord_9 (j + 1 + 1 + z)) (nI i) y1 D2) := by
        rw [show j + 1 + 1 + 1 + z = (j + 1 + 1 + z) + 1 by omega]
        show f_X11_readWord_9_b _ _ _ = _
        unfold f_X11_readWord_9_b
        rw [if_neg (show ¬ (12 : Int32) < nI i from nI_nlt (a := 12) (b := i) hi (by omega)), hasMore_ok h1 h2, bI_d, if_pos hp, if_neg (by decide), lt_d, h1.2.2.2.1, b1, bI_d]
      have er : f_X12_word_29 (j + 1 + 1 + z') (nI i) E = if nI i = 12 then (bV (f_X12_fails 3 (nI p) E2) fun D13 => f_X12_word_60 (f_X12_word_29 (j + 1 + z')) (nI i) y2 D13) else (f_X12_word_60 (f_X12_word_29 (j + 1 + z')) (nI i) y2 E2) := by
        rw [show j + 1 + 1 + z' = (j + 1 + z') + 1 by omega]
        show f_X12_word_29_b _ _ _ = _
        unfold f_X12_word_29_b
        rw [e1, bI_d, a1, if_pos rfl, lt_d, a3, b2, bI_d]
      rw [ec, er]
      -- the end in a fault
      have bad : ∀ (D3 E3 : Dm) (x x' : Int32), JF D3 E3 c n → isW D3 21 i → Fr SCW D D3 → Fr SRW E E3 → WTE D E (f_X11_readWord_57 (f_X11_readWord_9 (j + 1 + 1 + z)) (nI i) x D3) (f_X12_word_60 (f_X12_word_29 (j + 1 + z')) (nI i) x' E3) := fun D3 E3 x x' hF hW F3 G3 => by
        obtain ⟨hb3, w, q, hC, hRf⟩ := id hF
        obtain ⟨D4, k1, k2, k3, k4⟩ := cstop D3 x (j + 1 + z) hC.ne hW F3
        refine ⟨D4, E3, by rw [show j + 1 + 1 + z = (j + 1 + z) + 1 by omega]; exact k1, k2, G3, Or.inr ⟨w, q, ⟨by rw [k3]; exact hC.1, by rw [k4]; exact hC.2.1, hC.2.2.1, hC.2.2.2⟩, hRf.1, hRf.2.1, ?_⟩⟩
        unfold f_X12_word_60
        rw [rnum_f hRf.ne, bI_d, if_neg hRf.ne, hRf.1]
      rcases res with ⟨y, hy, -, rfl, rfl, J2, pn⟩ | hF
      · by_cases e12 : i = 12
        · subst e12
          rw [if_pos (by decide), if_pos (by decide)]
          obtain ⟨D3, E3, r1, r2, r3, r4, r5⟩ := ref_j (w := 3) (q := p) (s := 0) J2 (by omega) (by omega)
          rw [show f_X7_refuse 3 (nI p) D2 = some D3 from r1, bV_d, show f_X12_fails 3 (nI p) E2 = some E3 from r2, bV_d]
          exact bad D3 E3 _ _ r5 (R2.fr r3 r4).1 (FD2.tr (r3.mono (fun j k q => Or.inl q))) (GX2.tr (r4.mono (fun j k q => Or.inl q)))
        · have ne12 : ¬ nI i = 12 := fun q => e12 (nI_inj (by omega) (by omega) (show nI i = nI 12 from q))
          rw [if_neg ne12, if_neg ne12]
          obtain ⟨v1, v2, D3, E3, g1, g2, F3, G3, res⟩ := num_j (lo := 0) (hi := 99) J2
          have FD3 := FD2.tr (F3.mono (fun j k q => Or.inl q))
          have GX3 := GX2.tr (G3.mono (fun j k q => Or.inl q))
          have R3 : WDR D3 E3 i := R2.fr F3 G3
          rcases res with ⟨v, hv, rfl, rfl, vl, vh, J3, pn3⟩ | hF
          · unfold f_X11_readWord_57 f_X12_word_60
            rw [g1, bI_d, add_ok R3.1 (by omega), bV_d, lt_d, nI_1, g2, bI_d, if_pos J3.2.2.2.2.1, gd_t (inB_nI (by omega) (by omega)), lt_d, gd_t (inB_nI (by omega) (by omega)), lt_d, lt_d, nI_clamp (by omega)]
            have J4 : JT (adD D3 21 i (nI y) (nI v)) (ud (ud E3 287 i (nI y)) 288 i (nI v)) c n (blk c n (te c n (blk c n (te c n p)))) := J3.fr (fun j k q => by rw [adD_ne (by omega)]) (fun j k q => by rw [ud_at, if_neg (by omega), ud_at, if_neg (by omega)])
            have R4 : WDR (adD D3 21 i (nI y) (nI v)) (ud (ud E3 287 i (nI y)) 288 i (nI v)) (i + 1) := by
              refine ⟨adD_isW R3.1 (by omega), fun k hk => ?_⟩
              rw [show (22 : Nat) = 21 + 1 from rfl, show (23 : Nat) = 21 + 2 from rfl, adD_s, adD_n]
              by_cases e : k = i
              · rw [if_pos e, if_pos e, e, ud_at, if_neg (by omega), ud_at, if_pos ⟨rfl, rfl⟩, ud_at, if_pos ⟨rfl, rfl⟩, nI_toInt (by omega)]
                exact ⟨rfl, rfl, isSy_n hy, by omega, by omega⟩
              · rw [if_neg e, if_neg e, ud_at, if_neg (by omega), ud_at, if_neg (by omega), ud_at, if_neg (by omega), ud_at, if_neg (by omega)]
                exact R3.2 k (by omega)
            have := blk_te (c := c) pn3
            have := blk_te (c := c) pn
            obtain ⟨D5, E5, k1, k2, k3, k4⟩ := ih _ (i + 1) z z' _ _ (by omega) (by omega) J4 R4
            exact ⟨D5, E5, k1, fun j k q => by rw [k2 j k q, adD_ne (by unfold SCW at q; omega), FD3 j k q], fun j k q => by rw [k3 j k q, ud_at, if_neg (by unfold SRW at q; omega), ud_at, if_neg (by unfold SRW at q; omega), GX3 j k q], k4⟩
          · -- the number fails: the class goes on from the memory before it
            obtain ⟨hb3, w, q, hC, hRf⟩ := id hF
            unfold f_X11_readWord_57 f_X12_word_60
            rw [g1, bI_d, g2, bI_d, if_neg hRf.ne, hRf.1, add_ok R3.1 (by omega), bV_d, lt_d, nI_1]
            refine ⟨adD D3 21 i (nI y) v1, E3, ?_, fun j k q => by rw [adD_ne (by unfold SCW at q; omega), FD3 j k q], GX3, Or.inr ⟨w, q, ⟨by rw [adD_ne (by omega)]; exact hC.1, by rw [adD_ne (by omega)]; exact hC.2.1, hC.2.2.1, hC.2.2.2⟩, hRf.1, hRf.2.1, rfl⟩⟩
            have n6' : (adD D3 21 i (nI y) v1) 1 6 ≠ 0 := by rw [adD_ne (by omega)]; exact hC.ne
            rw [show j + 1 + 1 + z = (j + 1 + z) + 1 by omega]
            show f_X11_readWord_9_b _ _ _ = _
            unfold f_X11_readWord_9_b f_X7_hasMore
            rw [if_neg n6', bI_d, if_pos rfl]
            split <;> rfl
      · rw [refuse_f hF.ne.1, bV_d, fails_f hF.ne.2, bV_d]
        have := bad D2 E2 y1 y2 hF R2.1 FD2 GX2
        by_cases e12 : nI i = 12
        · rw [if_pos e12, if_pos e12]; exact this
        · rw [if_neg e12, if_neg e12]; exact this
    · rw [show j + 1 + 1 + 1 + z = (j + 1 + 1 + z) + 1 by omega, show j + 1 + 1 + z' = (j + 1 + z') + 1 by omega]
      exact stop p i (j + 1 + 1 + z) (j + 1 + z') D E hp hi hJ hR
theorem w113 {i : Nat} (hi : i ≤ 12) : Y (f_X12_word_113 FU (nI i) 0 E) (fun r => r.1 = nI i ∧ Fr (fun j k => j = 285 ∨ j = 286) E r.2 ∧ ∀ k, k < i → r.2 285 k = E 287 k ∧ r.2 286 k = E 288 k) := by
  have loop : ∀ (j q z : Nat) (E1 : Dm), q + j = i → Fr (fun j k => j = 285 ∨ j = 286) E E1 → (∀ k, k < q → E1 285 k = E 287 k ∧ E1 286 k = E 288 k) → Y (f_X12_word_113 (j + 1 + z) (nI i) (nI q) E1) (fun r => r.1 = nI i ∧ Fr (fun j k => j = 285 ∨ j = 286) E r.2 ∧ ∀ k, k < i → r.2 285 k = E 287 k ∧ r.2 286 k = E 288 k) := by
    intro j
    induction j with
    | zero =>
      intro q z E1 hq hF hv
      rw [show 0 + 1 + z = z + 1 by omega]
      show Y (f_X12_word_113_b _ _ _ _) _
      unfold f_X12_word_113_b
      exact yPos (nI_le (by omega) (by omega)) (yRet ⟨rfl, hF, fun k hk => hv k (by omega)⟩)
    | succ j ih =>
      intro q z E1 hq hF hv
      rw [show j + 1 + 1 + z = (j + 1 + z) + 1 by omega]
      show Y (f_X12_word_113_b _ _ _ _) _
      unfold f_X12_word_113_b
      refine yNeg (nI_nle2 (by omega) (by omega)) (yGd (inB_nI (by omega) (by omega)) (yGd (inB_nI (by omega) (by omega)) (yLt0 (yGd (inB_nI (by omega) (by omega)) (yGd (inB_nI (by omega) (by omega)) (yLt0 (yLt0 ?_)))))))
      rw [nI_1, nI_clamp (by omega)]
      refine ih (q + 1) z _ (by omega) ((hF.ud (Or.inl rfl)).ud (Or.inr rfl)) (fun k hk => ?_)
      by_cases e : k = q
      · rw [e, ud_at, if_neg (by omega), ud_at, if_pos ⟨rfl, rfl⟩, ud_at, if_pos ⟨rfl, rfl⟩, ud_at, if_neg (by omega), hF 287 q (by omega), hF 288 q (by omega)]
        exact ⟨rfl, rfl⟩
      · rw [ud_at, if_neg (by omega), ud_at, if_neg (by omega), ud_at, if_neg (by omega), ud_at, if_neg (by omega)]
        exact hv k (by omega)
  obtain ⟨z, hz⟩ := FUs i (by omega)
  have := loop i 0 z E (by omega) Fr.refl (fun k hk => absurd hk (Nat.not_lt_zero k))
  rw [nI_0] at this
  rw [hz]
  exact this
abbrev SCB (j k : Nat) : Prop := (j = 1 ∧ (1 ≤ k ∧ k ≤ 7)) ∨ (21 ≤ j ∧ j ≤ 24)
abbrev SRB (j k : Nat) : Prop := (j = 281 ∧ (k = 0 ∨ (7 ≤ k ∧ k ≤ 11))) ∨ j = 287 ∨ j = 288
def WDQ (D E D' E' : Dm) : Prop := (D' = D ∧ E' = ud E 281 0 0) ∨ (Fr SCB D D' ∧ Fr SRB E E' ∧ TFL D' E') ∨
  ∃ n, n ≤ 12 ∧ Fr (fun j k => SCB j k ∨ (17 ≤ j ∧ j ≤ 20)) D D' ∧ Fr (fun j k => SRB j k ∨ j = 285 ∨ j = 286 ∨ (j = 281 ∧ k = 18)) E E' ∧ TFL D' E' ∧ isW D' 17 n ∧ E' 281 18 = nI n ∧ ∀ k, k < n → E' 285 k = D' 18 k ∧ E' 286 k = D' 19 k ∧ isSy (D' 18 k) ∧ 0 ≤ (D' 19 k).toInt ∧ (D' 19 k).toInt ≤ 99
theorem word_j {h : Nat} (hT : TPR D E c h) (x1 : Int32) : ∃ r D' E', f_X11_word x1 D = some (r, D') ∧ f_X12_word x1 E = some (r, E') ∧ WDQ D E D' E' := by
  have hT' : TPR D (ud E 281 0 0) c h := ⟨hT.1, hT.2.1, by rw [ud_at, if_neg (by omega)]; exact hT.2.2.1, fun k hk => by rw [ud_at, if_neg (by omega)]; exact hT.2.2.2 k hk⟩
  have h5 := hT.1
  unfold f_X11_word f_X12_word
  rw [lt_d, isInM hT'.2.2.1 (by omega), bI_d, hT.2.1]
  by_cases c2 : 0 ≤ x1.toInt ∧ x1.toInt ≤ h
  · obtain ⟨n, hn, rfl⟩ : ∃ n, n ≤ h ∧ x1 = nI n := ⟨x1.toInt.toNat, by omega, nIt c2.1⟩
    rw [if_pos c2, if_neg i10, if_neg (nI_pos (by omega)), if_pos (nI_le hn (by omega))]
    obtain ⟨D1, E1, a1, a2, a3, a4, J1, a5, a6⟩ := open_j hT' hn
    rw [a1, bV_d, a2, bV_d]
    unfold f_X11_readWord
    rw [clear_ok, bV_d]
    have J2 : JT (ud (ud D1 21 3 0) 21 4 0) E1 c n (blk c n 0) := J1.fr (fun j k q => by rw [ud_at, if_neg (by omega), ud_at, if_neg (by omega)]) (fun _ _ _ => rfl)
    have R2 : WDR (ud (ud D1 21 3 0) 21 4 0) E1 0 := ⟨clear_isW, fun k hk => absurd hk (Nat.not_lt_zero k)⟩
    obtain ⟨z, hz⟩ := FUs (n + 1) (by omega)
    obtain ⟨z', hz'⟩ := FUs n (by omega)
    have key := wd_loop (n := n) (c := c) n (blk c n 0) 0 z z' _ _ (by omega) (by omega) J2 R2
    rw [nI_0, ← hz, ← hz'] at key
    obtain ⟨D2, E2, k1, k2, k3, k4⟩ := key
    rw [k1, bV_d]
    have FD : Fr SCB D D2 := fun j k q => by
      unfold SCB at q
      rw [k2 j k (by unfold SCW; omega), ud_at, if_neg (by omega), ud_at, if_neg (by omega), a3 j k (by unfold SC1; omega)]
    have FE : Fr SRB E E2 := fun j k q => by
      unfold SRB at q
      rw [k3 j k (by unfold SRW; omega), a4 j k (by unfold SR1; omega), ud_at, if_neg (by omega)]
    have t1 : D2 1 1 = 0 := by rw [k2 _ _ (by unfold SCW; omega), ud_at, if_neg (by omega), ud_at, if_neg (by omega)]; exact a5
    have t7 : E2 281 7 = 0 := by rw [k3 _ _ (by unfold SRW; omega)]; exact a6
    rcases k4 with ⟨i, hi, d6, d7, e10, e11, hR, ey⟩ | ⟨w, q, hC, e10, e11, ey⟩
    · rw [ey, if_pos d6, lt_d]
      obtain ⟨D3, c1, c3, c4, c5⟩ := copy_ok (D := D2) (w := 17) (v := 21) (n := i) hR.1.2.1 (by omega) (by omega)
      obtain ⟨⟨v, E3⟩, l1, l2, l3, l4⟩ := w113 (E := ud E2 281 18 (nI i)) hi
      dsimp only at l2 l3 l4
      rw [c1, bV_d, l1, l2, c3.2.1]
      refine ⟨_, D3, E3, rfl, rfl, Or.inr (Or.inr ⟨i, hi, fun j k q => ?_, fun j k q => ?_, ?_, c3, ?_, fun k hk => ?_⟩)⟩
      · rw [c5 j k (by omega), FD j k (fun z => q (Or.inl z))]
      · rw [l3 j k (by omega), ud_at, if_neg (by omega), FE j k (fun z => q (Or.inl z))]
      · refine ⟨by rw [c5 _ _ (by omega)]; exact t1, by rw [l3 _ _ (by omega), ud_at, if_neg (by omega)]; exact t7, ?_, ?_⟩
        · rw [c5 _ _ (by omega), d6, l3 _ _ (by omega), ud_at, if_neg (by omega), e10]
        · rw [c5 _ _ (by omega), d7, l3 _ _ (by omega), ud_at, if_neg (by omega), e11]
      · rw [l3 _ _ (by omega), ud_at, if_pos ⟨rfl, rfl⟩]
      · obtain ⟨q1, q2⟩ := l4 k hk
        obtain ⟨q3, q4⟩ := c4 k hk
        obtain ⟨u1, u2, u3, u4, u5⟩ := hR.2 k hk
        rw [ud_at, if_neg (by omega)] at q1 q2
        rw [q1, q2, show (18 : Nat) = 17 + 1 from rfl, show (19 : Nat) = 17 + 2 from rfl, q3, q4]
        exact ⟨u1, u2, u3, u4, u5⟩
    · rw [ey, if_neg hC.ne, hC.1]
      exact ⟨_, D2, E2, rfl, rfl, Or.inr (Or.inl ⟨FD, FE, t1, t7, by rw [hC.1, e10], by rw [hC.2.1, e11]⟩)⟩
  · refine ⟨-3, D, ud E 281 0 0, ?_, by rw [if_neg c2, if_pos rfl], Or.inl ⟨rfl, rfl⟩⟩
    by_cases c3 : x1 < 0
    · rw [if_pos c3]
    · rw [if_neg c3, if_neg]
      intro q
      rw [lt0] at c3
      rw [Int32.le_iff_toInt_le, nI_toInt (by omega)] at q
      omega
end
