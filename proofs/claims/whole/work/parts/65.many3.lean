theorem sN_congr {f g : Nat → Nat} : ∀ {n : Nat}, (∀ k, k < n → f k = g k) → sN f n = sN g n
  | 0, _ => rfl
  | n + 1, h => by
    show sN f n + f n = sN g n + g n
    rw [sN_congr (fun k hk => h k (by omega)), h n (by omega)]
theorem tkn_congr {T T' : Tb} {acc : Int32} {Y : Nat} (hT : wfT T) (h : ∀ k, k < 30 → T.1 k = T'.1 k ∧ T.2.1 k = T'.2.1 k ∧ T.2.2 k = T'.2.2 k) (hY : Y ≤ 2) : ∀ {l : Nat} {c : Cf} {n : Nat}, okSt c.1 → tkn T acc Y l c n = tkn T' acc Y l c n
  | 0, c, n, _ => rfl
  | l + 1, c, n, hc => by
    unfold tkn
    refine sN_congr (fun y hy => sN_congr (fun nm _ => ?_))
    have hyS : isSy (nI y) := by
      have : y = 0 ∨ y = 1 := by omega
      rcases this with rfl | rfl <;> decide
    have e : step T c (nI y, nI nm) = step T' c (nI y, nI nm) := mst_congr h hc hyS
    rw [← e]
    exact tkn_congr hT h hY (mst_ok (fun k hk => (hT k hk).1) hc hyS)
theorem lc_ok {D : Dm} {x1 : Int32} {m L Y : Nat} {T : Tb} {acc : Int32} (hx : isMc x1 m) (hTe : T = (rTo D m, rKe D m, rDr D m)) (hT : wfT T) (hY : D 282 (94 * m + 2) = nI Y) (hY2 : Y ≤ 2) (ha : D 282 (94 * m + 3) = acc) (hL : L ≤ 5) : ∃ c', f_X12_laysCounts x1 (nI L) D = some (0, cmR D (nI (alw Y L 0)) (nI (tkn T acc Y L (0, -1, -1) 0)) c') := by
  obtain ⟨c', h⟩ := ct_ok hx hTe hT hY hY2 ha L (15 - L) 0 (by omega) (0, -1, -1) 0 0 0 (Or.inr (Or.inl rfl)) (Nat.le_refl 0)
  refine ⟨c', ?_⟩
  unfold f_X12_laysCounts
  rw [mc_r hx, bI_d, if_neg (by decide : ¬ (1 : Int32) = 0), isIn_i (l := 0) (h := 5) rfl rfl, bI_d, if_pos (by rw [nI_toInt (by omega)]; omega : 0 ≤ (nI L).toInt ∧ (nI L).toInt ≤ 5), if_neg (by decide : ¬ (1 : Int32) = 0), lt_d, lt_d, r_starts, bV_d]
  rw [show L + 1 + (15 - L) = RF by unfold RF; omega, nI_0, Int32.zero_add, Int32.zero_add] at h
  rw [show setR (ud (ud D 281 19 0) 281 20 0) (0, -1, -1) = cmR D 0 0 (0, -1, -1) from rfl, h, bV_d]
theorem mn_c {D : Dm} {x1 : Int32} {m L Y : Nat} (hx : isMc x1 m) (hR : RM D m) (hY : D (9 + 4 * m) 2 = nI Y) (hY2 : Y ≤ 2) (hL : L ≤ 5) : ∃ D1, f_X11_many x1 (nI L) D = some (nI (tkn (tbl D m) (D (9 + 4 * m) 3) Y L (0, -1, -1) 0), D1) ∧ frT D D1 269 := by
  have hm2 : m < 2 := by rcases hx with ⟨-, rfl⟩ | ⟨-, rfl⟩ <;> omega
  have f1 : frT D (setGo D (269 + 2 * 0) (0, -1, -1)) 269 := frT_set (by omega) (by omega)
  obtain ⟨D1, h, f2⟩ := cc_ok (D := D) (T := tbl D m) (acc := D (9 + 4 * m) 3) rfl hm2 hR.1 rfl hY hY2 rfl hL L 0 (15 - L) 0 (by omega) (by omega) (0, -1, -1) 0 (setGo D (269 + 2 * 0) (0, -1, -1)) f1 getGo_set (Or.inr (Or.inl rfl)) (Nat.le_refl 0)
  refine ⟨D1, ?_, frT_tr f1 f2 (by omega)⟩
  unfold f_X11_many
  rw [mc_c hx, bI_d, if_neg (by decide : ¬ (1 : Int32) = 0), if_neg (show ¬ nI L < 0 by rw [lt0, nI_toInt (by omega)]; omega), if_pos (show nI L ≤ (5 : Int32) from nI_le (b := 5) (by omega) (by omega)), go_start, bV_d, gd_t (mc_in hx), mc_ar hx]
  rw [show L + 1 + (15 - L) = RF by unfold RF; omega, nI_0, Nat.sub_zero] at h
  rw [show setGo D 269 (0, -1, -1) = setGo D (269 + 2 * 0) (0, -1, -1) from rfl, h, bI_d]
/-- the reference's cells that counting may change -/
def frC (D D' : Dm) : Prop := ∀ j k, ¬ (j = 281 ∧ (k = 0 ∨ k = 3 ∨ k = 4 ∨ k = 5 ∨ k = 19 ∨ k = 20)) → D' j k = D j k
theorem frC_cm {D : Dm} {A B : Int32} {c : Cf} : frC D (cmR (ud D 281 0 0) A B c) := fun j k h => by
  unfold cmR
  rw [setR_at, if_neg (by omega), if_neg (by omega), if_neg (by omega), ud_at, if_neg (by omega), ud_at, if_neg (by omega), ud_at, if_neg (by omega)]
theorem frC_0 {D : Dm} : frC D (ud D 281 0 0) := fun j k h => by rw [ud_at, if_neg (by omega)]
/-- counting: both refuse, or both count the same -/
theorem cnt_eq {D : Dm} (h0 : RM D 0) (h1 : RM D 1) (x1 x2 : Int32) :
    (∃ r : Int32, ¬ 0 ≤ r ∧ f_X11_many x1 x2 D = some (r, D) ∧ ∀ D' : Dm, (∀ k, D' 282 k = D 282 k) → f_X12_laysCounts x1 x2 D' = some (r, D')) ∨
    (∃ m L Y t D1, isMc x1 m ∧ x2 = nI L ∧ L ≤ 5 ∧ (Y = 1 ∨ Y = 2) ∧ D (9 + 4 * m) 2 = nI Y ∧ f_X11_many x1 x2 D = some (nI t, D1) ∧ frT D D1 269 ∧ t = tkn (tbl D m) (D (9 + 4 * m) 3) Y L (0, -1, -1) 0 ∧ ∀ D' : Dm, (∀ k, D' 282 k = D 282 k) → ∃ c', f_X12_laysCounts x1 x2 D' = some (0, cmR D' (nI (alw Y L 0)) (nI t) c')) := by
  rcases mc_cases x1 with ⟨m, hm⟩ | hm
  · have hR : RM D m := by rcases hm with ⟨-, rfl⟩ | ⟨-, rfl⟩; exact h0; exact h1
    by_cases c : 0 ≤ x2.toInt ∧ x2.toInt ≤ 5
    · right
      obtain ⟨L, hL, rfl⟩ := clt (x := x2) (n := 6) (by omega) (by omega)
      have wY := hR.1.2.2.1
      obtain ⟨Y, hY, hY2⟩ := clt (x := D (9 + 4 * m) 2) (n := 3) (by omega) (by omega)
      have hY1 : Y = 1 ∨ Y = 2 := by
        rw [hY2, nI_toInt (by omega)] at wY
        omega
      obtain ⟨D1, a, b⟩ := mn_c hm hR hY2 (by omega) (L := L) (by omega)
      refine ⟨m, L, Y, _, D1, hm, rfl, by omega, hY1, hY2, a, b, rfl, fun D' hD => ?_⟩
      obtain ⟨-, e0, e1, e2, e3, -⟩ := id hR
      have t1 : rTo D' m = rTo D m := funext fun k => hD _
      have t2 : rKe D' m = rKe D m := funext fun k => hD _
      have t3 : rDr D' m = rDr D m := funext fun k => hD _
      have hT : wfT (tbl D m) := hR.1.tb
      have hT' : wfT (rTo D' m, rKe D' m, rDr D' m) := fun k hk => by
        have q := hR.eqT k hk
        have w := hT k hk
        rw [t1, t2, t3]
        show (rTo D m k = -1 ∨ isSt (rTo D m k)) ∧ isRg (rKe D m k) ∧ isRg (rDr D m k)
        rw [← q.1, ← q.2.1, ← q.2.2]
        exact w
      rw [tkn_congr hT (T' := (rTo D' m, rKe D' m, rDr D' m)) (by rw [t1, t2, t3]; exact hR.eqT) (by omega) (Or.inr (Or.inl rfl))]
      exact lc_ok hm rfl hT' (by rw [hD, e2, hY2]) (by omega) (by rw [hD, e3]) (by omega)
    · left
      refine ⟨-3, by decide, ?_, fun D' hD => ?_⟩
      · unfold f_X11_many
        rw [mc_c hm, bI_d, if_neg (by decide : ¬ (1 : Int32) = 0)]
        by_cases d : x2 < 0
        · rw [if_pos d]
        · rw [if_neg d, if_neg]
          rw [lt0] at d
          rw [Int32.le_iff_toInt_le, show (5 : Int32).toInt = 5 from rfl]
          omega
      · unfold f_X12_laysCounts
        rw [mc_r hm, bI_d, if_neg (by decide : ¬ (1 : Int32) = 0), isIn_i (l := 0) (h := 5) rfl rfl, bI_d, if_neg c, if_pos rfl]
  · left
    refine ⟨-2, by decide, ?_, fun D' hD => ?_⟩
    · unfold f_X11_many
      rw [mc_cn hm, bI_d, if_pos rfl]
    · unfold f_X12_laysCounts
      rw [mc_rn hm, bI_d, if_pos rfl]
