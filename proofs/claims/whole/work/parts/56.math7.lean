theorem acc_x : ∀ n : Nat, n < 32 → ∀ s : Nat, s < 5 → (0 ≤ ((nI n) ^^^ ((1 : Int32) <<< ((nI s) &&& 31))).toInt ∧ ((nI n) ^^^ ((1 : Int32) <<< ((nI s) &&& 31))).toInt < 32) := by decide +kernel
theorem nIt {x : Int32} (h : 0 ≤ x.toInt) : x = nI x.toInt.toNat := by
  have h2 := Int32.toInt_lt x
  apply Int32.toInt_inj.mp
  rw [nI_toInt (by omega)]
  omega
theorem acc_ok {a s : Int32} (h : 0 ≤ a.toInt ∧ a.toInt < 32) (hs : isSt s) : 0 ≤ (a ^^^ (1 <<< (s &&& 31))).toInt ∧ (a ^^^ (1 <<< (s &&& 31))).toInt < 32 := by
  rw [nIt h.1]
  have hn : a.toInt.toNat < 32 := by omega
  rcases hs with rfl | rfl | rfl | rfl | rfl
  · exact acc_x _ hn 0 (by omega)
  · exact acc_x _ hn 1 (by omega)
  · exact acc_x _ hn 2 (by omega)
  · exact acc_x _ hn 3 (by omega)
  · exact acc_x _ hn 4 (by omega)
/-- what the class does behind a change of machine x, and the reference -/
def chC (x : Int32) (D : Dm) : Dm := if x = 0 then anD (ud D 0 10 0) else ud D 0 10 0
def chR (x : Int32) (D : Dm) : Dm := if x = 0 then rsD D else D
theorem accept_eq {D : Dm} (h0 : RM D 0) (h1 : RM D 1) (x1 x2 x3 : Int32) :
    (∃ r, f_X11_accept x1 x2 x3 D = some (r, D) ∧ ∀ D' : Dm, (∀ k, D' 282 k = D 282 k) → f_X12_accept x1 x2 x3 D' = some (r, ud D' 281 0 0)) ∨
    (∃ r m v, isMc x1 m ∧ (0 ≤ v.toInt ∧ v.toInt < 32) ∧ f_X11_accept x1 x2 x3 D = some (r, chC x1 (ud D (9 + 4 * m) 3 v)) ∧ ∀ D' : Dm, (∀ k, D' 282 k = D 282 k) → f_X12_accept x1 x2 x3 D' = some (r, chR x1 (ud (ud D' 281 0 0) 282 (94 * m + 3) v))) := by
  unfold f_X11_accept f_X12_accept
  rcases mc_cases x1 with ⟨m, hm⟩ | hm
  · have hR : RM D m := by rcases hm with ⟨-, rfl⟩ | ⟨-, rfl⟩; exact h0; exact h1
    obtain ⟨⟨wS, wR, wY, wA, -⟩, e0, e1, e2, e3, eT⟩ := hR
    have hm2 : m < 2 := by rcases hm with ⟨-, rfl⟩ | ⟨-, rfl⟩ <;> omega
    have ix3 : 94 * x1 + 3 = nI (94 * m + 3) := by rcases hm with ⟨rfl, rfl⟩ | ⟨rfl, rfl⟩ <;> rfl
    have in3 : inB (nI (94 * m + 3)) 188 = true := inB_nI (by omega) (by omega)
    have cl3 : (nI (94 * m + 3)).toNatClampNeg = 94 * m + 3 := nI_clamp (by omega)
    have tail : ∀ D' : Dm, (∀ k, D' 282 k = D 282 k) → ∀ (hx2 : 0 ≤ x2.toInt ∧ x2.toInt ≤ (D (9 + 4 * m) 0).toInt - 1) (hx3 : 0 ≤ x3.toInt ∧ x3.toInt ≤ 1), (lt (ud D' 281 0 0) fun D1 => bI (f_X12_isMachine x1 D1) fun y5 D3 => if y5 = 0 then (some ((-2), D3)) else (bI (f_X12_its x1 0 D3) fun y9 D7 => bI (f_X12_isIn (Int32.toInt64 x2) 0 (Int32.toInt64 (y9 - 1)) D7) fun y12 D10 => if y12 = 0 then (some ((-2), D10)) else (bI (f_X12_isIn (Int32.toInt64 x3) 0 1 D10) fun y16 D14 => if y16 = 0 then (some ((-3), D14)) else (bI (f_X12_its x1 3 D14) fun y20 D18 => lt ((y20 >>> (x2 &&& 31)) &&& 1) fun y21 => if y21 = x3 then (some (y21, D18)) else (gd (inB ((94 * x1) + 3) 188) (gd (inB ((94 * x1) + 3) 188) (lt (ud D18 282 (Int32.toNatClampNeg ((94 * x1) + 3)) ((D18 282 (Int32.toNatClampNeg ((94 * x1) + 3))) ^^^ (1 <<< (x2 &&& 31)))) fun D26 => if x1 = 0 then (bV (f_X12_resets D26) fun D29 => some (y21, D29)) else (some (y21, D26))))))))) = (if (((D (9 + 4 * m) 3) >>> (x2 &&& 31)) &&& 1) = x3 then some (((D (9 + 4 * m) 3) >>> (x2 &&& 31)) &&& 1, ud D' 281 0 0) else some (((D (9 + 4 * m) 3) >>> (x2 &&& 31)) &&& 1, chR x1 (ud (ud D' 281 0 0) 282 (94 * m + 3) ((D (9 + 4 * m) 3) ^^^ (1 <<< (x2 &&& 31)))))) := by
      intro D' hD hx2 hx3
      have q0 : ud D' 281 0 0 282 (94 * m + 0) = D (9 + 4 * m) 0 := by rw [← e0, ← hD]; rfl
      have q3 : ud D' 281 0 0 282 (94 * m + 3) = D (9 + 4 * m) 3 := by rw [← e3, ← hD]; rfl
      rw [lt_d, mc_r hm, bI_d, if_neg (by decide), its_ok (k := 0) (q := 0) hm rfl (by omega), bI_d, q0, isIn_i (l := 0) (h := (D (9 + 4 * m) 0).toInt - 1) rfl (t64 (sub1 (by omega))), bI_d, if_pos hx2, if_neg (by decide), isIn_i (l := 0) (h := 1) rfl rfl, bI_d, if_pos hx3, if_neg (by decide), its_ok (k := 3) (q := 3) hm rfl (by omega), bI_d, q3, lt_d, ix3, gd_t in3, gd_t in3, cl3, lt_d, q3]
      unfold chR
      by_cases hx0 : x1 = 0
      · rw [if_pos hx0, if_pos hx0, resets_ok, bV_d]
      · rw [if_neg hx0, if_neg hx0]
    rw [mc_c hm, bI_d, if_neg (by decide)]
    simp only [Int32.lt_iff_toInt_lt, show (0 : Int32).toInt = 0 from rfl]
    by_cases c1 : x2.toInt < 0
    · refine Or.inl ⟨-2, if_pos c1, fun D' hD => ?_⟩
      have q0 : ud D' 281 0 0 282 (94 * m + 0) = D (9 + 4 * m) 0 := by rw [← e0, ← hD]; rfl
      rw [lt_d, mc_r hm, bI_d, if_neg (by decide), its_ok (k := 0) (q := 0) hm rfl (by omega), bI_d, q0, isIn_i (l := 0) (h := (D (9 + 4 * m) 0).toInt - 1) rfl (t64 (sub1 (by omega))), bI_d, if_neg (by omega : ¬ (0 ≤ x2.toInt ∧ x2.toInt ≤ (D (9 + 4 * m) 0).toInt - 1)), if_pos rfl]
    rw [if_neg c1, gd_t (mc_in hm), mc_ar hm]
    by_cases c2 : x2.toInt < (D (9 + 4 * m) 0).toInt
    · rw [if_pos c2]
      have hx2 : 0 ≤ x2.toInt ∧ x2.toInt ≤ (D (9 + 4 * m) 0).toInt - 1 := by omega
      have hs : isSt x2 := isSt_of hx2.1 (by omega)
      have body : isSy x3 → f_X11_accept_39 x1 x2 x3 D = (if (((D (9 + 4 * m) 3) >>> (x2 &&& 31)) &&& 1) = x3 then some (((D (9 + 4 * m) 3) >>> (x2 &&& 31)) &&& 1, D) else some (((D (9 + 4 * m) 3) >>> (x2 &&& 31)) &&& 1, chC x1 (ud D (9 + 4 * m) 3 ((D (9 + 4 * m) 3) ^^^ (1 <<< (x2 &&& 31)))))) := by
        intro hy
        unfold f_X11_accept_39
        rw [gd_t (mc_in hm), mc_ar hm, lt_d, lt_d, note_ok, bV_d]
        rfl
      have fin : isSy x3 → (0 ≤ x3.toInt ∧ x3.toInt ≤ 1) → (∃ r, f_X11_accept_39 x1 x2 x3 D = some (r, D) ∧ ∀ D' : Dm, (∀ k, D' 282 k = D 282 k) → f_X12_accept x1 x2 x3 D' = some (r, ud D' 281 0 0)) ∨
        (∃ r m v, isMc x1 m ∧ (0 ≤ v.toInt ∧ v.toInt < 32) ∧ f_X11_accept_39 x1 x2 x3 D = some (r, chC x1 (ud D (9 + 4 * m) 3 v)) ∧ ∀ D' : Dm, (∀ k, D' 282 k = D 282 k) → f_X12_accept x1 x2 x3 D' = some (r, chR x1 (ud (ud D' 281 0 0) 282 (94 * m + 3) v))) := by
        intro hy hx3
        by_cases c : (((D (9 + 4 * m) 3) >>> (x2 &&& 31)) &&& 1) = x3
        · refine Or.inl ⟨_, by rw [body hy, if_pos c], fun D' hD => ?_⟩
          unfold f_X12_accept
          rw [tail D' hD hx2 hx3, if_pos c]
        · refine Or.inr ⟨_, m, _, hm, acc_ok wA hs, by rw [body hy, if_neg c], fun D' hD => ?_⟩
          unfold f_X12_accept
          rw [tail D' hD hx2 hx3, if_neg c]
      by_cases d0 : x3 = 0
      · rw [if_pos d0]
        exact fin (Or.inl d0) (by rw [d0]; decide)
      · rw [if_neg d0]
        by_cases d1 : x3 = 1
        · rw [if_pos d1]
          exact fin (Or.inr d1) (by rw [d1]; decide)
        · rw [if_neg d1]
          refine Or.inl ⟨-3, rfl, fun D' hD => ?_⟩
          have q0 : ud D' 281 0 0 282 (94 * m + 0) = D (9 + 4 * m) 0 := by rw [← e0, ← hD]; rfl
          have a0 := ne_toInt d0 (k := 0) rfl
          have a1 := ne_toInt d1 (k := 1) rfl
          rw [lt_d, mc_r hm, bI_d, if_neg (by decide), its_ok (k := 0) (q := 0) hm rfl (by omega), bI_d, q0, isIn_i (l := 0) (h := (D (9 + 4 * m) 0).toInt - 1) rfl (t64 (sub1 (by omega))), bI_d, if_pos hx2, if_neg (by decide), isIn_i (l := 0) (h := 1) rfl rfl, bI_d, if_neg (by omega : ¬ (0 ≤ x3.toInt ∧ x3.toInt ≤ 1)), if_pos rfl]
    · rw [if_neg c2]
      refine Or.inl ⟨-2, rfl, fun D' hD => ?_⟩
      have q0 : ud D' 281 0 0 282 (94 * m + 0) = D (9 + 4 * m) 0 := by rw [← e0, ← hD]; rfl
      rw [lt_d, mc_r hm, bI_d, if_neg (by decide), its_ok (k := 0) (q := 0) hm rfl (by omega), bI_d, q0, isIn_i (l := 0) (h := (D (9 + 4 * m) 0).toInt - 1) rfl (t64 (sub1 (by omega))), bI_d, if_neg (by omega : ¬ (0 ≤ x2.toInt ∧ x2.toInt ≤ (D (9 + 4 * m) 0).toInt - 1)), if_pos rfl]
  · refine Or.inl ⟨-2, by rw [mc_cn hm, bI_d, if_pos rfl], fun D' hD => ?_⟩
    rw [lt_d, mc_rn hm, bI_d, if_pos rfl]
