theorem bit1 (v : Int32) : (v &&& 1) = 0 ∨ (v &&& 1) = 1 := by
  have h : (v &&& 1).toBitVec = v.toBitVec &&& 1#32 := rfl
  have h2 : (v.toBitVec &&& 1#32).toNat < 2 := by
    rw [BitVec.toNat_and]
    exact Nat.lt_of_le_of_lt Nat.and_le_right (by decide)
  have h3 : (v.toBitVec &&& 1#32).toNat = 0 ∨ (v.toBitVec &&& 1#32).toNat = 1 := by omega
  rcases h3 with h3 | h3
  · left
    apply Int32.toBitVec_inj.mp
    rw [h]
    apply BitVec.eq_of_toNat_eq
    rw [h3]
    rfl
  · right
    apply Int32.toBitVec_inj.mp
    rw [h]
    apply BitVec.eq_of_toNat_eq
    rw [h3]
    rfl
/-- whether a machine takes what it has gone along -/
def tk (acc : Int32) (c : Cf) : Bool := decide (¬ c.1 = -1) && decide (¬ ((acc >>> (c.1 &&& 31)) &&& 1) = 0)
def b01 (b : Bool) : Int32 := if b = true then 1 else 0
theorem takes_ok {D : Dm} {r g : Nat} : f_X4_takes r g D = some (b01 (tk (D r 3) (getGo D g)), D) := by
  unfold f_X4_takes b01 tk getGo
  by_cases h : D g 0 = -1
  · rw [if_pos h]; simp [h]
  · rw [if_neg h]
    by_cases h2 : ((D r 3 >>> (D g 0 &&& 31)) &&& 1) = 0
    · rw [if_pos h2]; simp [h2]
    · rw [if_neg h2]; simp [h, h2]
theorem accepts_ok {D : Dm} {x acc : Int32} {m : Nat} (hx : isMc x m) (ha : D 282 (94 * m + 3) = acc) : f_X12_accepts x D = some (b01 (tk acc (getR D)), D) := by
  unfold f_X12_accepts b01 tk getR
  by_cases h : D 281 3 = -1
  · rw [if_pos h]; simp [h]
  · rw [if_neg h, its_ok (k := 3) (q := 3) hx rfl (by omega), bI_d, ha]
    rcases bit1 (acc >>> (D 281 3 &&& 31)) with h2 | h2
    · rw [h2, if_neg (by decide)]; simp
    · rw [h2, if_pos rfl]; simp [h]
theorem b01_if {α : Type} {b : Bool} {u v : α} : (if b01 b = 0 then u else v) = if b = true then v else u := by
  cases b <;> rfl
/-- the reference goes along the word -/
theorem along_loop {D0 : Dm} {x : Int32} {q n : Nat} (hn : n ≤ 12) (hx : isMc x q) (hk : ∀ k, k < 30 → isRg (rKe D0 q k) ∧ isRg (rDr D0 q k)) (hT : ∀ k, k < 30 → rTo D0 q k = -1 ∨ isSt (rTo D0 q k)) (hy : ∀ k, k < n → isSy (D0 285 k)) :
    ∀ (j i m : Nat) (c : Cf), i + j = n → okSt c.1 → f_X12_goesAlong_6 (j + 1 + m) x (nI n) (nI i) (setR D0 c) = some (setR D0 (run (rTo D0 q, rKe D0 q, rDr D0 q) c (lts (D0 285) (D0 286) i j))) := by
  have s1 : ∀ c, setR D0 c 285 = D0 285 := fun c => setR_ne (by decide)
  have s2 : ∀ c, setR D0 c 286 = D0 286 := fun c => setR_ne (by decide)
  have t1 : ∀ c, rTo (setR D0 c) q = rTo D0 q := fun c => by unfold rTo; rw [setR_ne (by decide)]
  have t2 : ∀ c, rKe (setR D0 c) q = rKe D0 q := fun c => by unfold rKe; rw [setR_ne (by decide)]
  have t3 : ∀ c, rDr (setR D0 c) q = rDr D0 q := fun c => by unfold rDr; rw [setR_ne (by decide)]
  intro j
  induction j with
  | zero =>
    intro i m c hi hc
    have hi : i = n := by omega
    subst hi
    rw [show 0 + 1 + m = m + 1 by omega]
    show f_X12_goesAlong_6_b _ _ _ _ _ = _
    unfold f_X12_goesAlong_6_b
    rw [if_pos (nI_le (Nat.le_refl _) (by omega)), lts_zero, run_nil]
  | succ j ih =>
    intro i m c hi hc
    have hin : i < n := by omega
    rw [show j + 1 + 1 + m = (j + 1 + m) + 1 by omega]
    show f_X12_goesAlong_6_b _ _ _ _ _ = _
    unfold f_X12_goesAlong_6_b
    rw [if_neg (nI_ge (by omega) (by omega)), gd_t (inB_nI (by omega) (by omega)), gd_t (inB_nI (by omega) (by omega)), s1, s2, nI_clamp (by omega)]
    rw [goes_ok hx (by rw [t2, t3]; exact hk) (by rw [show setR D0 c 281 3 = c.1 by simp [setR_at]]; exact hc) (hy i hin), bV_d, lt_d, t1, t2, t3, getR_set, setR_set, nI_1]
    rw [ih (i + 1) m _ (by omega) (mst_ok hT hc (hy i hin)), lts_succ, run_cons]
    rfl
theorem along_ok {D : Dm} {x : Int32} {q n : Nat} (hn : n ≤ 12) (hx : isMc x q) (hk : ∀ k, k < 30 → isRg (rKe D q k) ∧ isRg (rDr D q k)) (hT : ∀ k, k < 30 → rTo D q k = -1 ∨ isSt (rTo D q k)) (hy : ∀ k, k < n → isSy (D 285 k)) :
    f_X12_goesAlong x (nI n) D = some (setR D (run (rTo D q, rKe D q, rDr D q) (0, -1, -1) (lts (D 285) (D 286) 0 n))) := by
  unfold f_X12_goesAlong
  rw [r_starts, bV_d]
  obtain ⟨m, hm⟩ := FUs n (by omega)
  rw [hm]
  have e := along_loop (D0 := D) hn hx hk hT hy n 0 m (0, -1, -1) (by omega) (Or.inr (Or.inl rfl))
  rw [nI_0] at e
  exact e
/-- the word: class and reference hold one -/
def RW (D : Dm) (n : Nat) : Prop := n ≤ 12 ∧ D 17 3 = nI n ∧ D 281 18 = nI n ∧ ∀ k, k < n → D 285 k = D 18 k ∧ D 286 k = D 19 k ∧ isSy (D 18 k) ∧ 0 ≤ (D 19 k).toInt ∧ (D 19 k).toInt ≤ 99
/-- the tables of machine m, and where it is behind i letters of the word -/
def tbl (D : Dm) (m : Nat) : Tb := (D (9 + 4 * m + 1), D (9 + 4 * m + 2), D (9 + 4 * m + 3))
def cfw (D : Dm) (m i : Nat) : Cf := run (tbl D m) (0, -1, -1) (lts (D 18) (D 19) 0 i)
theorem lts_mem {f g : Nat → Int32} {i n : Nat} {a : Lt} (h : a ∈ lts f g i n) : ∃ k, i ≤ k ∧ k < i + n ∧ a = (f k, g k) := by
  unfold lts at h
  obtain ⟨k, hk, rfl⟩ := List.mem_map.mp h
  rw [List.mem_range'_1] at hk
  exact ⟨k, hk.1, hk.2, rfl⟩
theorem walk_word {D : Dm} {n i m : Nat} (hm : m < 2) (hR : RM D m) (hW : RW D n) (hi : i ≤ n) : f_X9_walk_m (9 + 4 * m) 266 17 (nI i) D = some (setGo D 266 (cfw D m i)) := by
  obtain ⟨h1, h2, h3, h4⟩ := hW
  rw [walk_ok (b := n) (by omega) (by omega) h2 hR.1 (by intro j hj; omega) (fun k hk => (h4 k (by omega)).2.2.1), Nat.min_eq_left hi]
  rfl
theorem RM.eqT {D : Dm} {m : Nat} (h : RM D m) : ∀ k, k < 30 → (tbl D m).1 k = rTo D m k ∧ (tbl D m).2.1 k = rKe D m k ∧ (tbl D m).2.2 k = rDr D m k := fun k hk => ⟨(h.2.2.2.2.2 k hk).1.symm, (h.2.2.2.2.2 k hk).2.1.symm, (h.2.2.2.2.2 k hk).2.2.symm⟩
theorem along_word {D D' : Dm} {x : Int32} {n i m : Nat} (hx : isMc x m) (hR : RM D m) (hW : RW D n) (hi : i ≤ n) (h1 : ∀ k, D' 282 k = D 282 k) (h2 : ∀ k, D' 285 k = D 285 k) (h3 : ∀ k, D' 286 k = D 286 k) : f_X12_goesAlong x (nI i) D' = some (setR D' (cfw D m i)) := by
  have e1 : rTo D' m = rTo D m := funext fun k => h1 _
  have e2 : rKe D' m = rKe D m := funext fun k => h1 _
  have e3 : rDr D' m = rDr D m := funext fun k => h1 _
  have hT := hR.1.tb
  have hE := hR.eqT
  obtain ⟨w1, w2, w3, w4⟩ := hW
  rw [along_ok (q := m) (by omega) hx (by rw [e2, e3]; intro k hk; rw [← (hE k hk).2.1, ← (hE k hk).2.2]; exact (hT k hk).2) (by rw [e1]; intro k hk; rw [← (hE k hk).1]; exact (hT k hk).1) (fun k hk => by rw [h2, (w4 k (by omega)).1]; exact (w4 k (by omega)).2.2.1)]
  rw [e1, e2, e3]
  have el : lts (D' 285) (D' 286) 0 i = lts (D 18) (D 19) 0 i := lts_congr (fun k _ hk => by rw [h2, h3]; exact ⟨(w4 k (by omega)).1, (w4 k (by omega)).2.1⟩)
  rw [el]
  unfold cfw
  rw [run_congr (T := tbl D m) (T' := (rTo D m, rKe D m, rDr D m)) hT hE (Or.inr (Or.inl rfl)) (fun a ha => by obtain ⟨k, -, hk, rfl⟩ := lts_mem ha; exact (w4 k (by omega)).2.2.1)]
theorem ask_eq {D : Dm} {n : Nat} (h0 : RM D 0) (h1 : RM D 1) (hW : RW D n) (x1 : Int32) : ∃ r D1, f_X11_ask x1 D = some (r, D1) ∧ (∃ c, D1 = D ∨ D1 = setGo D 266 c) ∧ ∃ D2, f_X12_ask x1 D1 = some (r, D2) ∧ ∃ c, D2 = ud D1 281 0 0 ∨ D2 = setR (ud D1 281 0 0) c := by
  unfold f_X11_ask f_X12_ask
  rcases mc_cases x1 with ⟨m, hm⟩ | hm
  · have hR : RM D m := by rcases hm with ⟨-, rfl⟩ | ⟨-, rfl⟩; exact h0; exact h1
    have hm2 : m < 2 := by rcases hm with ⟨-, rfl⟩ | ⟨-, rfl⟩ <;> omega
    rw [mc_c hm, bI_d, if_neg (by decide), gd_t (mc_in hm), mc_ar hm, hW.2.1, walk_word hm2 hR hW (Nat.le_refl _), bV_d, gd_t (mc_in hm), takes_ok, bI_d, getGo_set, b01_if]
    have e3 : setGo D 266 (cfw D m n) (9 + 4 * m) = D (9 + 4 * m) := setGo_ne (by omega) (by omega)
    rw [e3]
    refine ⟨b01 (tk (D (9 + 4 * m) 3) (cfw D m n)), setGo D 266 (cfw D m n), by cases tk (D (9 + 4 * m) 3) (cfw D m n) <;> rfl, ⟨_, Or.inr rfl⟩, setR (ud (setGo D 266 (cfw D m n)) 281 0 0) (cfw D m n), ?_, ⟨_, Or.inr rfl⟩⟩
    have s282 : ∀ k, ud (setGo D 266 (cfw D m n)) 281 0 0 282 k = D 282 k := fun k => by rw [ud_at, if_neg (by omega), setGo_ne (by omega) (by omega)]
    have s285 : ∀ k, ud (setGo D 266 (cfw D m n)) 281 0 0 285 k = D 285 k := fun k => by rw [ud_at, if_neg (by omega), setGo_ne (by omega) (by omega)]
    have s286 : ∀ k, ud (setGo D 266 (cfw D m n)) 281 0 0 286 k = D 286 k := fun k => by rw [ud_at, if_neg (by omega), setGo_ne (by omega) (by omega)]
    have sn : ud (setGo D 266 (cfw D m n)) 281 0 0 281 18 = nI n := by rw [ud_at, if_neg (by omega), setGo_ne (by omega) (by omega)]; exact hW.2.2.1
    rw [lt_d, mc_r hm, bI_d, if_neg (by decide), sn, along_word hm hR hW (Nat.le_refl _) s282 s285 s286, bV_d]
    rw [accepts_ok (acc := D (9 + 4 * m) 3) hm (by rw [setR_ne (by omega), s282]; exact hR.2.2.2.2.1), bI_d, getR_set, b01_if]
    cases tk (D (9 + 4 * m) 3) (cfw D m n) <;> rfl
  · refine ⟨-2, D, by rw [mc_cn hm, bI_d, if_pos rfl], ⟨(0, 0, 0), Or.inl rfl⟩, ud D 281 0 0, ?_, ⟨(0, 0, 0), Or.inl rfl⟩⟩
    rw [lt_d, mc_rn hm, bI_d, if_pos rfl]
theorem behind_eq {D : Dm} {n : Nat} (h0 : RM D 0) (h1 : RM D 1) (hW : RW D n) (x1 x2 x3 : Int32) : ∃ r D1, f_X11_behind x1 x2 x3 D = some (r, D1) ∧ (∃ c, D1 = D ∨ D1 = setGo D 266 c) ∧ ∃ D2, f_X12_behind x1 x2 x3 D1 = some (r, D2) ∧ ∃ c, D2 = ud D1 281 0 0 ∨ D2 = setR (ud D1 281 0 0) c := by
  have hn : n ≤ 12 := hW.1
  unfold f_X11_behind f_X12_behind
  rcases mc_cases x1 with ⟨m, hm⟩ | hm
  · have hR : RM D m := by rcases hm with ⟨-, rfl⟩ | ⟨-, rfl⟩; exact h0; exact h1
    have hm2 : m < 2 := by rcases hm with ⟨-, rfl⟩ | ⟨-, rfl⟩ <;> omega
    rw [mc_c hm, bI_d, if_neg (by decide)]
    simp only [Int32.lt_iff_toInt_lt, Int32.le_iff_toInt_le, show (0 : Int32).toInt = 0 from rfl, show (2 : Int32).toInt = 2 from rfl, hW.2.1, nI_toInt (show n < 2 ^ 31 by omega)]
    have noW : ¬ (0 ≤ x3.toInt ∧ x3.toInt ≤ 2) → f_X12_behind x1 x2 x3 D = some (-2, ud D 281 0 0) := by
      intro h
      unfold f_X12_behind
      rw [lt_d, mc_r hm, bI_d, if_neg (by decide), isIn_i (l := 0) (h := 2) rfl rfl, bI_d, if_neg h, if_pos rfl]
    have sn0 : ud D 281 0 0 281 18 = nI n := by rw [ud_at, if_neg (by omega)]; exact hW.2.2.1
    have noI : (0 ≤ x3.toInt ∧ x3.toInt ≤ 2) → ¬ (0 ≤ x2.toInt ∧ x2.toInt ≤ n) → f_X12_behind x1 x2 x3 D = some (-3, ud D 281 0 0) := by
      intro h h2
      unfold f_X12_behind
      rw [lt_d, mc_r hm, bI_d, if_neg (by decide), isIn_i (l := 0) (h := 2) rfl rfl, bI_d, if_pos h, if_neg (by decide), sn0, isIn_i (l := 0) (h := n) rfl (t64 (nI_toInt (by omega))), bI_d, if_neg h2, if_pos rfl]
    by_cases c1 : x3.toInt < 0
    · rw [if_pos c1]
      exact ⟨-2, D, rfl, ⟨(0, 0, 0), Or.inl rfl⟩, _, noW (by omega), ⟨(0, 0, 0), Or.inl rfl⟩⟩
    rw [if_neg c1]
    by_cases c2 : x3.toInt ≤ 2
    · rw [if_pos c2]
      by_cases c3 : x2.toInt < 0
      · rw [if_pos c3]
        exact ⟨-3, D, rfl, ⟨(0, 0, 0), Or.inl rfl⟩, _, noI (by omega) (by omega), ⟨(0, 0, 0), Or.inl rfl⟩⟩
      rw [if_neg c3]
      by_cases c4 : x2.toInt ≤ n
      · obtain ⟨i, hi, rfl⟩ : ∃ i, i ≤ n ∧ x2 = nI i := ⟨x2.toInt.toNat, by omega, nIt (by omega)⟩
        rw [if_pos c4, gd_t (mc_in hm), mc_ar hm, walk_word hm2 hR hW hi, bV_d]
        unfold f_X1_told
        refine ⟨if x3 = 0 then (cfw D m i).1 else if x3 = 1 then (cfw D m i).2.1 else (cfw D m i).2.2, setGo D 266 (cfw D m i), ?_, ⟨_, Or.inr rfl⟩, setR (ud (setGo D 266 (cfw D m i)) 281 0 0) (cfw D m i), ?_, ⟨_, Or.inr rfl⟩⟩
        · rw [show setGo D 266 (cfw D m i) 266 0 = (cfw D m i).1 by simp [setGo_at], show setGo D 266 (cfw D m i) (266 + 1) 0 = (cfw D m i).2.1 by simp [setGo_at], show setGo D 266 (cfw D m i) (266 + 1) 1 = (cfw D m i).2.2 by simp [setGo_at]]
          split
          · rfl
          · split <;> rfl
        · have s282 : ∀ k, ud (setGo D 266 (cfw D m i)) 281 0 0 282 k = D 282 k := fun k => by rw [ud_at, if_neg (by omega), setGo_ne (by omega) (by omega)]
          have s285 : ∀ k, ud (setGo D 266 (cfw D m i)) 281 0 0 285 k = D 285 k := fun k => by rw [ud_at, if_neg (by omega), setGo_ne (by omega) (by omega)]
          have s286 : ∀ k, ud (setGo D 266 (cfw D m i)) 281 0 0 286 k = D 286 k := fun k => by rw [ud_at, if_neg (by omega), setGo_ne (by omega) (by omega)]
          have sn : ud (setGo D 266 (cfw D m i)) 281 0 0 281 18 = nI n := by rw [ud_at, if_neg (by omega), setGo_ne (by omega) (by omega)]; exact hW.2.2.1
          rw [lt_d, mc_r hm, bI_d, if_neg (by decide), isIn_i (l := 0) (h := 2) rfl rfl, bI_d, if_pos (by omega : 0 ≤ x3.toInt ∧ x3.toInt ≤ 2), if_neg (by decide), sn, isIn_i (l := 0) (h := n) rfl (t64 (nI_toInt (by omega))), bI_d, if_pos (by rw [nI_toInt (by omega)]; omega : 0 ≤ (nI i).toInt ∧ (nI i).toInt ≤ n), if_neg (by decide), along_word hm hR hW hi s282 s285 s286, bV_d]
          rw [show setR (ud (setGo D 266 (cfw D m i)) 281 0 0) (cfw D m i) 281 3 = (cfw D m i).1 by simp [setR_at], show setR (ud (setGo D 266 (cfw D m i)) 281 0 0) (cfw D m i) 281 4 = (cfw D m i).2.1 by simp [setR_at], show setR (ud (setGo D 266 (cfw D m i)) 281 0 0) (cfw D m i) 281 5 = (cfw D m i).2.2 by simp [setR_at]]
          split
          · rfl
          · split <;> rfl
      · rw [if_neg c4]
        exact ⟨-3, D, rfl, ⟨(0, 0, 0), Or.inl rfl⟩, _, noI (by omega) (by omega), ⟨(0, 0, 0), Or.inl rfl⟩⟩
    · rw [if_neg c2]
      exact ⟨-2, D, rfl, ⟨(0, 0, 0), Or.inl rfl⟩, _, noW (by omega), ⟨(0, 0, 0), Or.inl rfl⟩⟩
  · refine ⟨-2, D, by rw [mc_cn hm, bI_d, if_pos rfl], ⟨(0, 0, 0), Or.inl rfl⟩, ud D 281 0 0, ?_, ⟨(0, 0, 0), Or.inl rfl⟩⟩
    rw [lt_d, mc_rn hm, bI_d, if_pos rfl]
