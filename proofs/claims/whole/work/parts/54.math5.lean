theorem isIn_ok {a b c : Int64} {D : Dm} : f_X12_isIn a b c D = some (if b.toInt ≤ a.toInt ∧ a.toInt ≤ c.toInt then 1 else 0, D) := by
  unfold f_X12_isIn
  by_cases h1 : lg_cmp a b < 0
  · rw [if_pos h1, if_neg]
    rw [lg_cmp_lt, Int64.lt_iff_toInt_lt] at h1
    omega
  · rw [if_neg h1]
    rw [lg_cmp_lt, Int64.lt_iff_toInt_lt] at h1
    by_cases h2 : 0 < lg_cmp a c
    · rw [if_pos h2, if_neg]
      rw [lg_cmp_gt, Int64.lt_iff_toInt_lt] at h2
      omega
    · rw [if_neg h2, if_pos]
      rw [lg_cmp_gt, Int64.lt_iff_toInt_lt] at h2
      omega
theorem isIn_i {a : Int32} {lo : Int64} {c : Int64} {l h : Int} {D : Dm} (hl : lo.toInt = l) (hh : c.toInt = h) : f_X12_isIn (Int32.toInt64 a) lo c D = some (if l ≤ a.toInt ∧ a.toInt ≤ h then 1 else 0, D) := by
  rw [isIn_ok, Int32.toInt_toInt64, hl, hh]
theorem t64 {a : Int32} {k : Int} (h : a.toInt = k) : (Int32.toInt64 a).toInt = k := by rw [Int32.toInt_toInt64, h]
theorem sub1 {a : Int32} (h0 : 0 ≤ a.toInt) : (a - 1).toInt = a.toInt - 1 := by
  have h1 := Int32.toInt_lt a
  rw [Int32.toInt_sub, show (1 : Int32).toInt = 1 from rfl, Int.bmod_eq_of_le (by omega) (by omega)]
theorem i32_ne {x y : Int32} (h : ¬ x = y) : x.toInt ≠ y.toInt := fun e => h (Int32.toInt_inj.mp e)
/-- which machine: 0, 1, none -/
theorem mc_cases (x : Int32) : (∃ m, isMc x m) ∨ ((x < 0 ∨ 2 ≤ x) ∧ ¬ x = 0 ∧ ¬ x = 1) := by
  by_cases h0 : x = 0
  · exact Or.inl ⟨0, Or.inl ⟨h0, rfl⟩⟩
  · by_cases h1 : x = 1
    · exact Or.inl ⟨1, Or.inr ⟨h1, rfl⟩⟩
    · refine Or.inr ⟨?_, h0, h1⟩
      have a := ne_toInt h0 (k := 0) rfl
      have b := ne_toInt h1 (k := 1) rfl
      rw [Int32.lt_iff_toInt_lt, Int32.le_iff_toInt_le, show (0 : Int32).toInt = 0 from rfl, show (2 : Int32).toInt = 2 from rfl]
      omega
theorem mc_c {x : Int32} {m : Nat} {D : Dm} (h : isMc x m) : f_X11_isMachine x D = some (1, D) := by
  rcases h with ⟨rfl, -⟩ | ⟨rfl, -⟩ <;> rfl
theorem mc_r {x : Int32} {m : Nat} {D : Dm} (h : isMc x m) : f_X12_isMachine x D = some (1, D) := by
  rcases h with ⟨rfl, -⟩ | ⟨rfl, -⟩ <;> rfl
theorem mc_cn {x : Int32} {D : Dm} (h : (x < 0 ∨ 2 ≤ x) ∧ ¬ x = 0 ∧ ¬ x = 1) : f_X11_isMachine x D = some (0, D) := by
  unfold f_X11_isMachine
  by_cases h1 : x < 0
  · rw [if_pos h1]
  · rw [if_neg h1, if_pos (h.1.resolve_left h1)]
theorem mc_rn {x : Int32} {D : Dm} (h : (x < 0 ∨ 2 ≤ x) ∧ ¬ x = 0 ∧ ¬ x = 1) : f_X12_isMachine x D = some (0, D) := by
  unfold f_X12_isMachine
  rw [if_neg h.2.1, if_neg h.2.2]
theorem mc_in {x : Int32} {m : Nat} (h : isMc x m) : inB x 2 = true := by
  rcases h with ⟨rfl, -⟩ | ⟨rfl, -⟩ <;> decide
theorem mc_ar {x : Int32} {m : Nat} (h : isMc x m) : ar_8 x.toNatClampNeg = 9 + 4 * m := by
  rcases h with ⟨rfl, rfl⟩ | ⟨rfl, rfl⟩ <;> rfl
theorem its_ok {x k : Int32} {m q : Nat} {D : Dm} (h : isMc x m) (hk : k = Int32.ofNat q) (hq : q < 94) : f_X12_its x k D = some (D 282 (94 * m + q), D) := by
  have e : 94 * x + k = nI (94 * m + q) := by
    rw [hk, ← nI_add]
    rcases h with ⟨rfl, rfl⟩ | ⟨rfl, rfl⟩ <;> rfl
  have hm : m < 2 := by rcases h with ⟨-, rfl⟩ | ⟨-, rfl⟩ <;> omega
  unfold f_X12_its
  rw [e, gd_t (inB_nI (by omega) (by omega)), nI_clamp (by omega)]
/-- class and reference hold one machine -/
def RM (D : Dm) (m : Nat) : Prop :=
  wfM (D (9 + 4 * m) 0) (D (9 + 4 * m) 1) (D (9 + 4 * m) 2) (D (9 + 4 * m) 3) (D (9 + 4 * m + 1)) (D (9 + 4 * m + 2)) (D (9 + 4 * m + 3)) ∧
  D 282 (94 * m + 0) = D (9 + 4 * m) 0 ∧ D 282 (94 * m + 1) = D (9 + 4 * m) 1 ∧ D 282 (94 * m + 2) = D (9 + 4 * m) 2 ∧ D 282 (94 * m + 3) = D (9 + 4 * m) 3 ∧
  ∀ k, k < 30 → rTo D m k = D (9 + 4 * m + 1) k ∧ rKe D m k = D (9 + 4 * m + 2) k ∧ rDr D m k = D (9 + 4 * m + 3) k
/-- how many moves -/
def cnt (to : Nat → Int32) : Nat → Nat
  | 0 => 0
  | n + 1 => cnt to n + if to n = -1 then 0 else 1
theorem cnt_le (to : Nat → Int32) : ∀ n, cnt to n ≤ n
  | 0 => Nat.le_refl 0
  | n + 1 => by
    have := cnt_le to n
    unfold cnt
    split <;> omega
theorem cnt_congr {f g : Nat → Int32} : ∀ {n : Nat}, (∀ k, k < n → f k = g k) → cnt f n = cnt g n
  | 0, _ => rfl
  | n + 1, h => by
    unfold cnt
    rw [cnt_congr (fun k hk => h k (by omega)), h n (by omega)]
theorem cmv_loop {D : Dm} {r : Nat} : ∀ (j i m : Nat), i + j = 30 → f_X4_countMoves_4 (j + 1 + m) r (nI (cnt (D (r + 1)) i)) (nI i) D = some (nI (cnt (D (r + 1)) 30), D) := by
  intro j
  induction j with
  | zero =>
    intro i m hi
    have hi : i = 30 := by omega
    subst hi
    rw [show 0 + 1 + m = m + 1 by omega]
    show f_X4_countMoves_4_b _ _ _ _ _ = _
    unfold f_X4_countMoves_4_b
    rw [if_pos (by decide)]
  | succ j ih =>
    intro i m hi
    rw [show j + 1 + 1 + m = (j + 1 + m) + 1 by omega]
    show f_X4_countMoves_4_b _ _ _ _ _ = _
    unfold f_X4_countMoves_4_b f_X4_countMoves_23
    rw [if_neg (show ¬ (30 : Int32) ≤ nI i from nI_ge (b := 30) (by omega) (by decide)), gd_t (inB_nI (by omega) (by omega)), nI_clamp (by omega)]
    simp only [lt_d]
    rw [nI_1, nI_1]
    have e := ih (i + 1) m (by omega)
    rw [cnt] at e
    by_cases h : D (r + 1) i = -1
    · rw [if_pos h]
      rw [if_pos h, Nat.add_zero] at e
      exact e
    · rw [if_neg h]
      rw [if_neg h] at e
      exact e
theorem cmv_ok {D : Dm} {r : Nat} : f_X4_countMoves r D = some (nI (cnt (D (r + 1)) 30), D) := by
  unfold f_X4_countMoves
  obtain ⟨m, hm⟩ := FUs 30 (by omega)
  rw [hm]
  exact cmv_loop 30 0 m rfl
theorem mvo_loop {D : Dm} {x : Int32} {q : Nat} (hx : isMc x q) : ∀ (j i m : Nat), i + j = 30 → f_X12_movesOf_4 (j + 1 + m) x (nI (cnt (rTo D q) i)) (nI (4 + 3 * i)) D = some (nI (cnt (rTo D q) 30), D) := by
  intro j
  induction j with
  | zero =>
    intro i m hi
    have hi : i = 30 := by omega
    subst hi
    rw [show 0 + 1 + m = m + 1 by omega]
    show f_X12_movesOf_4_b _ _ _ _ _ = _
    unfold f_X12_movesOf_4_b
    rw [if_pos (by decide)]
  | succ j ih =>
    intro i m hi
    rw [show j + 1 + 1 + m = (j + 1 + m) + 1 by omega]
    show f_X12_movesOf_4_b _ _ _ _ _ = _
    unfold f_X12_movesOf_4_b f_X12_movesOf_26
    rw [if_neg (show ¬ (94 : Int32) ≤ nI (4 + 3 * i) from nI_ge (b := 94) (by omega) (by decide)), its_ok (k := nI (4 + 3 * i)) (q := 4 + 3 * i) hx rfl (by omega), bI_d]
    simp only [lt_d]
    have e := ih (i + 1) m (by omega)
    rw [show 4 + 3 * (i + 1) = (4 + 3 * i) + 3 by omega, ← nI_add (4 + 3 * i) 3, cnt] at e
    have hr : rTo D q i = D 282 (94 * q + (4 + 3 * i)) := rfl
    rw [hr] at e
    by_cases h : D 282 (94 * q + (4 + 3 * i)) = -1
    · rw [if_pos h, Int32.add_zero]
      rw [if_pos h, Nat.add_zero] at e
      exact e
    · rw [if_neg h, nI_1]
      rw [if_neg h] at e
      exact e
theorem mvo_ok {D : Dm} {x : Int32} {q : Nat} (hx : isMc x q) : f_X12_movesOf x D = some (nI (cnt (rTo D q) 30), D) := by
  unfold f_X12_movesOf
  obtain ⟨m, hm⟩ := FUs 30 (by omega)
  rw [hm]
  exact mvo_loop hx 30 0 m rfl
theorem of_eq {D : Dm} (h0 : RM D 0) (h1 : RM D 1) (x1 x2 : Int32) : ∃ r, f_X11_of x1 x2 D = some (r, D) ∧ ∀ D', (∀ k, D' 282 k = D 282 k) → f_X12_of x1 x2 D' = some (r, ud D' 281 0 0) := by
  unfold f_X11_of f_X12_of
  rcases mc_cases x1 with ⟨m, hm⟩ | hm
  · have hR : RM D m := by rcases hm with ⟨-, rfl⟩ | ⟨-, rfl⟩; exact h0; exact h1
    obtain ⟨-, e0, e1, e2, e3, eT⟩ := hR
    rw [mc_c hm, bI_d, if_neg (by decide), gd_t (mc_in hm), mc_ar hm, cmv_ok]
    simp only [bI_d, lt_d]
    by_cases c0 : x2 = 0
    · subst c0
      refine ⟨_, if_pos rfl, fun D' hD => ?_⟩
      rw [mc_r hm, bI_d, if_neg (by decide), isIn_i (l := 0) (h := 4) rfl rfl, bI_d, if_neg (by decide), if_neg (by decide), if_neg (by decide)]
      unfold f_X12_of_52
      rw [its_ok (k := 0) (q := 0) hm rfl (by omega), bI_d, ← e0, ← hD]
      rfl
    by_cases c1 : x2 = 1
    · subst c1
      refine ⟨_, by rw [if_neg c0, if_pos rfl], fun D' hD => ?_⟩
      rw [mc_r hm, bI_d, if_neg (by decide), isIn_i (l := 0) (h := 4) rfl rfl, bI_d, if_neg (by decide), if_neg (by decide), if_neg (by decide)]
      unfold f_X12_of_52
      rw [its_ok (k := 1) (q := 1) hm rfl (by omega), bI_d, ← e1, ← hD]
      rfl
    by_cases c2 : x2 = 2
    · subst c2
      refine ⟨_, by rw [if_neg c0, if_neg c1, if_pos rfl], fun D' hD => ?_⟩
      rw [mc_r hm, bI_d, if_neg (by decide), isIn_i (l := 0) (h := 4) rfl rfl, bI_d, if_neg (by decide), if_neg (by decide), if_neg (by decide)]
      unfold f_X12_of_52
      rw [its_ok (k := 2) (q := 2) hm rfl (by omega), bI_d, ← e2, ← hD]
      rfl
    by_cases c3 : x2 = 3
    · subst c3
      refine ⟨_, by rw [if_neg c0, if_neg c1, if_neg c2, if_pos rfl], fun D' hD => ?_⟩
      rw [mc_r hm, bI_d, if_neg (by decide), isIn_i (l := 0) (h := 4) rfl rfl, bI_d, if_neg (by decide), if_pos rfl, mvo_ok hm, bI_d]
      rw [cnt_congr (fun k hk => (eT k hk).1.symm : ∀ k, k < 30 → D (9 + 4 * m + 1) k = rTo D m k)]
      rw [cnt_congr (fun k hk => (show rTo (ud D' 281 0 0) m k = rTo D m k from hD _) : ∀ k, k < 30 → _)]
    by_cases c4 : x2 = 4
    · subst c4
      refine ⟨_, by rw [if_neg c0, if_neg c1, if_neg c2, if_neg c3, if_pos rfl], fun D' hD => ?_⟩
      rw [mc_r hm, bI_d, if_neg (by decide), isIn_i (l := 0) (h := 4) rfl rfl, bI_d, if_neg (by decide), if_neg (by decide), if_pos rfl]
      unfold f_X12_of_52
      rw [its_ok (k := 3) (q := 3) hm rfl (by omega), bI_d, ← e3, ← hD]
      rfl
    · refine ⟨_, by rw [if_neg c0, if_neg c1, if_neg c2, if_neg c3, if_neg c4], fun D' hD => ?_⟩
      have a0 := ne_toInt c0 (k := 0) rfl
      have a1 := ne_toInt c1 (k := 1) rfl
      have a2 := ne_toInt c2 (k := 2) rfl
      have a3 := ne_toInt c3 (k := 3) rfl
      have a4 := ne_toInt c4 (k := 4) rfl
      rw [mc_r hm, bI_d, if_neg (by decide), isIn_i (l := 0) (h := 4) rfl rfl, bI_d, if_neg (by omega : ¬ (0 ≤ x2.toInt ∧ x2.toInt ≤ 4)), if_pos rfl]
  · refine ⟨-2, by rw [mc_cn hm, bI_d, if_pos rfl], fun D' hD => ?_⟩
    rw [lt_d, mc_rn hm, bI_d, if_pos rfl]
