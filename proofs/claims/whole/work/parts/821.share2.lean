/-! ===== share ===== -/
theorem sN_le {f g : Nat → Nat} : ∀ {n : Nat}, (∀ k, k < n → f k ≤ g k) → sN f n ≤ sN g n
  | 0, _ => Nat.le_refl _
  | n + 1, h => by
    have h1 := sN_le (f := f) (g := g) (n := n) (fun k hk => h k (by omega))
    have h2 := h n (by omega)
    show sN f n + f n ≤ sN g n + g n
    omega
theorem tkn_le {T : Tb} {acc : Int32} {Y : Nat} : ∀ (l : Nat) (c : Cf) (n : Nat), tkn T acc Y l c n ≤ alw Y l n
  | 0, c, n => by
    show (if tk acc c = true then 1 else 0) ≤ 1
    split <;> omega
  | l + 1, c, n => sN_le (fun y _ => sN_le (fun nm _ => tkn_le l _ _))
theorem shB_in {al lo n : Nat} (h : shBA al lo n = true) {t : Nat} (h1 : lo ≤ t) (h2 : t < lo + n) : shB1 al t = true := by
  unfold shBA at h
  rw [List.all_eq_true] at h
  have := h (t - lo) (List.mem_range.mpr (by omega))
  rw [show lo + (t - lo) = t by omega] at this
  exact this
theorem sh_1664 {t : Nat} (h : t ≤ 1664) : shB1 1664 t = true := by
  have : t < 128 ∨ (128 ≤ t ∧ t < 256) ∨ (256 ≤ t ∧ t < 384) ∨ (384 ≤ t ∧ t < 512) ∨ (512 ≤ t ∧ t < 640) ∨ (640 ≤ t ∧ t < 768) ∨ (768 ≤ t ∧ t < 896) ∨ (896 ≤ t ∧ t < 1024) ∨ (1024 ≤ t ∧ t < 1152) ∨ (1152 ≤ t ∧ t < 1280) ∨ (1280 ≤ t ∧ t < 1408) ∨ (1408 ≤ t ∧ t < 1536) ∨ (1536 ≤ t ∧ t < 1664) ∨ t = 1664 := by omega
  rcases this with q | q | q | q | q | q | q | q | q | q | q | q | q | q
  · exact shB_in shU_0 (by omega) (by omega)
  · exact shB_in shU_1 (by omega) (by omega)
  · exact shB_in shU_2 (by omega) (by omega)
  · exact shB_in shU_3 (by omega) (by omega)
  · exact shB_in shU_4 (by omega) (by omega)
  · exact shB_in shU_5 (by omega) (by omega)
  · exact shB_in shU_6 (by omega) (by omega)
  · exact shB_in shU_7 (by omega) (by omega)
  · exact shB_in shU_8 (by omega) (by omega)
  · exact shB_in shU_9 (by omega) (by omega)
  · exact shB_in shU_10 (by omega) (by omega)
  · exact shB_in shU_11 (by omega) (by omega)
  · exact shB_in shU_12 (by omega) (by omega)
  · exact shB_in shU_13 (by omega) (by omega)
def alwB (Y L : Nat) : Bool := [1, 2, 5, 8, 15, 40, 52, 240, 1664].contains (alw Y L 0) && decide (tab1 L * nI (Y ^ L) = nI (alw Y L 0))
theorem alw_b : (List.range 6).all (fun L => alwB 1 L && alwB 2 L) = true := by decide +kernel
theorem alw_n (Y : Nat) (h1 : Y < 3) (h2 : 1 ≤ Y) (L : Nat) (hL : L < 6) : (alw Y L 0 = 1 ∨ alw Y L 0 = 2 ∨ alw Y L 0 = 5 ∨ alw Y L 0 = 8 ∨ alw Y L 0 = 15 ∨ alw Y L 0 = 40 ∨ alw Y L 0 = 52 ∨ alw Y L 0 = 240 ∨ alw Y L 0 = 1664) ∧ tab1 L * nI (Y ^ L) = nI (alw Y L 0) := by
  have h := alw_b
  rw [List.all_eq_true] at h
  have h := h L (List.mem_range.mpr hL)
  rw [Bool.and_eq_true] at h
  have hB : alwB Y L = true := by
    have : Y = 1 ∨ Y = 2 := by omega
    rcases this with rfl | rfl
    · exact h.1
    · exact h.2
  unfold alwB at hB
  rw [Bool.and_eq_true, decide_eq_true_eq] at hB
  refine ⟨?_, hB.2⟩
  have := List.contains_iff_mem.mp hB.1
  simpa using this
theorem sh_all {Y L t : Nat} (hY : Y = 1 ∨ Y = 2) (hL : L ≤ 5) (ht : t ≤ alw Y L 0) : shB1 (alw Y L 0) t = true := by
  rcases (alw_n Y (by omega) (by omega) L (by omega)).1 with q | q | q | q | q | q | q | q | q <;> rw [q] at ht ⊢
  · exact shB_in shT_1 (by omega) (by omega)
  · exact shB_in shT_2 (by omega) (by omega)
  · exact shB_in shT_5 (by omega) (by omega)
  · exact shB_in shT_8 (by omega) (by omega)
  · exact shB_in shT_15 (by omega) (by omega)
  · exact shB_in shT_40 (by omega) (by omega)
  · exact shB_in shT_52 (by omega) (by omega)
  · exact shB_in shT_240 (by omega) (by omega)
  · exact sh_1664 ht
theorem sh_bits {al t : Nat} (h : shB1 al t = true) : ∃ v, nanB (FP.fdiv (FP.i2f (nI t)) (FP.i2f (nI al))) = true ∧ (∀ D : Dm, f_X11_bitsOf (FP.fdiv (FP.i2f (nI t)) (FP.i2f (nI al))) D = some (v, D)) ∧ ∀ D : Dm, f_X12_bitsOf (nI t) (nI al) D = some (v, D) := by
  unfold shB1 at h
  rw [Bool.and_eq_true, Bool.and_eq_true, decide_eq_true_eq] at h
  obtain ⟨⟨h1, h2⟩, h3⟩ := h
  obtain ⟨v, hv⟩ := Option.isSome_iff_exists.mp h2
  refine ⟨v, h1, fun D => pC_ok (n := 40) (by omega) hv, fun D => ?_⟩
  rw [hv] at h3
  unfold pRb at h3
  unfold f_X12_bitsOf
  by_cases c : nI t = 0
  · rw [if_pos c] at h3 ⊢
    cases h3; rfl
  · rw [if_neg c] at h3 ⊢
    obtain ⟨q, hq⟩ := FUs 40 (by omega)
    rw [hq, show 40 + 1 + q = 40 + (1 + q) by omega]
    exact pR8_ok h3.symm
theorem share_loop {D : Dm} {x1 : Int32} {m L Y : Nat} {y3 : Int32} (hm : isMc x1 m) (hL : L ≤ 5) (hY : D (9 + 4 * m) 2 = nI Y) : ∀ (j i z : Nat), i + j = L → f_X11_share_23 (j + 1 + z) x1 (nI L) y3 (tab1 L * nI (Y ^ i)) (nI i) D = gd (nanB (FP.fdiv (FP.i2f y3) (FP.i2f (tab1 L * nI (Y ^ L))))) (bI (f_X11_bitsOf (FP.fdiv (FP.i2f y3) (FP.i2f (tab1 L * nI (Y ^ L)))) D) fun y5 D3 => some (y5, D3)) := by
  intro j
  induction j with
  | zero =>
    intro i z hi
    have hi : i = L := by omega
    subst hi
    rw [show 0 + 1 + z = z + 1 by omega]
    show f_X11_share_23_b _ _ _ _ _ _ _ = _
    unfold f_X11_share_23_b
    rw [if_pos (nI_le (Nat.le_refl _) (by omega))]
  | succ j ih =>
    intro i z hi
    rw [show j + 1 + 1 + z = (j + 1 + z) + 1 by omega]
    show f_X11_share_23_b _ _ _ _ _ _ _ = _
    unfold f_X11_share_23_b
    rw [if_neg (nI_nle2 (by omega) (by omega)), gd_t (mc_in hm), mc_ar hm, hY, lt_d, lt_d, nI_1, Int32.mul_assoc, nI_mul, ← Nat.pow_succ]
    exact ih (i + 1) z (by omega)
theorem share_eq {D : Dm} (h0 : RM D 0) (h1 : RM D 1) (x1 x2 : Int32) : ∃ r D1, f_X11_share x1 x2 D = some (r, D1) ∧ frT D D1 269 ∧ ∀ D' : Dm, (∀ k, D' 282 k = D 282 k) → ∃ D2, f_X12_share x1 x2 D' = some (r, D2) ∧ frC D' D2 := by
  rcases cnt_eq h0 h1 x1 x2 with ⟨r, hr, a, b⟩ | ⟨m, L, Y, t, D1, hm, rfl, hL, hY, hY2, a, f, ht, b⟩
  · refine ⟨r, D, ?_, frT_refl, fun D' hD => ⟨ud D' 281 0 0, ?_, frC_0⟩⟩
    · unfold f_X11_share
      rw [a, bI_d, if_neg hr]
    · unfold f_X12_share
      rw [lt_d, b (ud D' 281 0 0) (fun k => by rw [← hD]; rfl), bI_d, if_neg hr]
  · have hle : t ≤ alw Y L 0 := by rw [ht]; exact tkn_le _ _ _
    obtain ⟨al, ea⟩ := alw_n Y (by omega) (by omega) L (by omega)
    obtain ⟨v, v1, v2, v3⟩ := sh_bits (sh_all hY hL hle)
    have m2 : m < 2 := by rcases hm with ⟨-, rfl⟩ | ⟨-, rfl⟩ <;> omega
    have t0 : (0 : Int32) ≤ nI t := nI_nn (by omega)
    refine ⟨v, D1, ?_, f, fun D' hD => ?_⟩
    · unfold f_X11_share
      rw [a, bI_d, if_pos t0, gd_t (inB_nI (by omega) (by omega)), lt_d, nI_clamp (by omega)]
      obtain ⟨q, hq⟩ := FUs L (by omega)
      have := share_loop (D := D1) (Y := Y) (y3 := nI t) hm hL (by rw [f _ _ (by omega)]; exact hY2) L 0 q (by omega)
      rw [Nat.pow_zero, show tab1 L * nI 1 = tab1 L from Int32.mul_one _, nI_0, ea] at this
      rw [hq, this, gd_t v1, v2, bI_d]
    · obtain ⟨c', e⟩ := b (ud D' 281 0 0) (fun k => by rw [← hD]; rfl)
      refine ⟨cmR (ud D' 281 0 0) (nI (alw Y L 0)) (nI t) c', ?_, frC_cm⟩
      unfold f_X12_share
      rw [lt_d, e, bI_d, if_pos (by decide), cmR_20, cmR_19, v3, bI_d]
