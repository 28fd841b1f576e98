theorem rgn_ok {D : Dm} {r : Nat} {v : Int32} (hr : 0 ≤ (D r 1).toInt) : f_X4_isRegisterOrNone r v D = some (if v = -1 ∨ (0 ≤ v.toInt ∧ v.toInt < (D r 1).toInt) then 1 else 0, D) := by
  unfold f_X4_isRegisterOrNone
  simp only [Int32.lt_iff_toInt_lt, Int32.le_iff_toInt_le, show (-1 : Int32).toInt = -1 from rfl]
  by_cases c : v = -1
  · subst c
    rw [if_neg (by decide), if_neg (by rw [show (-1 : Int32).toInt = -1 from rfl]; omega), if_pos (Or.inl rfl)]
  · have a := ne_toInt c (k := -1) rfl
    by_cases c1 : v.toInt < -1
    · rw [if_pos c1, if_neg]
      intro q
      have := q.resolve_left c
      omega
    · rw [if_neg c1]
      by_cases c2 : (D r 1).toInt ≤ v.toInt
      · rw [if_pos c2, if_neg]
        intro q
        have := q.resolve_left c
        omega
      · rw [if_neg c2, if_pos (Or.inr ⟨by omega, by omega⟩)]
/-- a new move that keeps a machine well formed -/
def okMv (nS nR nY : Int32) (j : Nat) (t ke dr : Int32) : Prop :=
  (t = -1 ∨ (0 ≤ t.toInt ∧ t.toInt < nS.toInt)) ∧ (ke = -1 ∨ (0 ≤ ke.toInt ∧ ke.toInt < nR.toInt)) ∧ (dr = -1 ∨ (0 ≤ dr.toInt ∧ dr.toInt < nR.toInt)) ∧ (t = -1 → ke = -1 ∧ dr = -1) ∧
  (j % 3 < 2 → ¬ nR.toInt ≤ (j % 3 : Nat)) ∧ ¬ nY.toInt ≤ (j / 3 % 2 : Nat) ∧ ¬ nS.toInt ≤ (j / 6 : Nat)
def mvC (D : Dm) (m j : Nat) (t ke dr : Int32) : Dm := ud (ud (ud D (9 + 4 * m + 1) j t) (9 + 4 * m + 2) j ke) (9 + 4 * m + 3) j dr
def mvR (D : Dm) (m j : Nat) (t ke dr : Int32) : Dm := ud (ud (ud D 282 (94 * m + (4 + 3 * j)) t) 282 (94 * m + (4 + 3 * j) + 1) ke) 282 (94 * m + (4 + 3 * j) + 2) dr
theorem mvR_id {D : Dm} {m j : Nat} {t ke dr : Int32} (h1 : rTo D m j = t) (h2 : rKe D m j = ke) (h3 : rDr D m j = dr) : mvR D m j t ke dr = D := by
  unfold mvR
  subst h1 h2 h3
  unfold rTo rKe rDr
  rw [ud_id, ud_id, ud_id]
theorem mv168 {D : Dm} {x1 t ke dr : Int32} {m j : Nat} {y r : Int32} (hin : inB y 30 = true) (hcl : y.toNatClampNeg = j) :
    f_X11_move_168 x1 t (9 + 4 * m) y r ke dr D = some (r, chC x1 (mvC D m j t ke dr)) := by
  unfold f_X11_move_168 f_X4_put
  rw [gd_t hin, lt_d, gd_t hin, lt_d, gd_t hin, lt_d, bV_d, note_ok, bV_d, hcl]
  rfl
theorem mv127 {D : Dm} {x1 t ke dr : Int32} {m j : Nat} {y r : Int32} (hin : inB y 30 = true) (hcl : y.toNatClampNeg = j) :
    f_X11_move_127 x1 t (9 + 4 * m) y r ke dr D = if D (9 + 4 * m + 1) j = t ∧ D (9 + 4 * m + 2) j = ke ∧ D (9 + 4 * m + 3) j = dr then some (r, D) else some (r, chC x1 (mvC D m j t ke dr)) := by
  unfold f_X11_move_127
  rw [gd_t hin, gd_t hin, gd_t hin, hcl, mv168 hin hcl]
  by_cases c1 : D (9 + 4 * m + 1) j = t
  · rw [if_pos c1]
    by_cases c2 : D (9 + 4 * m + 2) j = ke
    · rw [if_pos c2]
      by_cases c3 : D (9 + 4 * m + 3) j = dr
      · rw [if_pos c3, if_pos ⟨c1, c2, c3⟩]
      · rw [if_neg c3, if_neg (fun q => c3 q.2.2)]
    · rw [if_neg c2, if_neg (fun q => c2 q.2.1)]
  · rw [if_neg c1, if_neg (fun q => c1 q.1)]
theorem mv181 {D : Dm} {x1 t ke dr : Int32} {m j : Nat} {y r : Int32} (hm : m < 2) (hj : j < 30) (hy : y = nI (94 * m + (4 + 3 * j))) (z : Int32) :
    f_X12_move_181 x1 t y r ke dr z D = some (r, if z = 0 then chR x1 (mvR D m j t ke dr) else mvR D m j t ke dr) := by
  unfold f_X12_move_181
  rw [hy, nI_1, show nI (94 * m + (4 + 3 * j)) + 2 = nI (94 * m + (4 + 3 * j) + 2) from nI_add _ 2, gd_t (inB_nI (by omega) (by omega)), lt_d, gd_t (inB_nI (by omega) (by omega)), lt_d, gd_t (inB_nI (by omega) (by omega)), lt_d, nI_clamp (by omega), nI_clamp (by omega), nI_clamp (by omega), resets_ok, bV_d]
  unfold chR
  by_cases h0 : x1 = 0
  · rw [if_pos h0, if_pos h0]
    by_cases h1 : z = 0
    · rw [if_pos h1, if_pos h1]
      rfl
    · rw [if_neg h1, if_neg h1]
      rfl
  · rw [if_neg h0, if_neg h0]
    rw [show (if z = 0 then mvR D m j t ke dr else mvR D m j t ke dr) = mvR D m j t ke dr by split <;> rfl]
    rfl
theorem mv134 {D : Dm} {x1 t ke dr : Int32} {m j : Nat} {y r : Int32} (hm : m < 2) (hj : j < 30) (hy : y = nI (94 * m + (4 + 3 * j))) :
    f_X12_move_134 x1 t y r ke dr D = if rTo D m j = t ∧ rKe D m j = ke ∧ rDr D m j = dr then some (r, D) else some (r, chR x1 (mvR D m j t ke dr)) := by
  unfold f_X12_move_134 f_X12_move_180
  rw [mv181 hm hj hy 1, mv181 hm hj hy 0, if_pos (rfl : (0 : Int32) = 0), if_neg (by decide : ¬ (1 : Int32) = 0), hy, nI_1, show nI (94 * m + (4 + 3 * j)) + 2 = nI (94 * m + (4 + 3 * j) + 2) from nI_add _ 2, gd_t (inB_nI (by omega) (by omega)), gd_t (inB_nI (by omega) (by omega)), gd_t (inB_nI (by omega) (by omega)), nI_clamp (by omega), nI_clamp (by omega), nI_clamp (by omega)]
  by_cases c1 : rTo D m j = t
  · rw [if_pos (show D 282 (94 * m + (4 + 3 * j)) = t from c1)]
    by_cases c2 : rKe D m j = ke
    · rw [if_pos (show D 282 (94 * m + (4 + 3 * j) + 1) = ke from c2)]
      by_cases c3 : rDr D m j = dr
      · rw [if_pos (show D 282 (94 * m + (4 + 3 * j) + 2) = dr from c3), if_pos ⟨c1, c2, c3⟩, mvR_id c1 c2 c3]
      · rw [if_neg (show ¬ D 282 (94 * m + (4 + 3 * j) + 2) = dr from c3), if_neg (fun q => c3 q.2.2)]
    · rw [if_neg (show ¬ D 282 (94 * m + (4 + 3 * j) + 1) = ke from c2), if_neg (fun q => c2 q.2.1)]
  · rw [if_neg (show ¬ D 282 (94 * m + (4 + 3 * j)) = t from c1), if_neg (fun q => c1 q.1)]
def mvx (t x : Int32) : Int32 := if t = -1 then -1 else x
theorem mv99 {D : Dm} {x1 t ke dr : Int32} {m j : Nat} {y r : Int32} (hin : inB y 30 = true) (hcl : y.toNatClampNeg = j) :
    f_X11_move_99 x1 t ke dr (9 + 4 * m) y r D = if D (9 + 4 * m + 1) j = t ∧ D (9 + 4 * m + 2) j = mvx t ke ∧ D (9 + 4 * m + 3) j = mvx t dr then some (r, D) else some (r, chC x1 (mvC D m j t (mvx t ke) (mvx t dr))) := by
  unfold f_X11_move_99 f_X11_move_113 mvx
  by_cases c : t = -1
  · simp only [if_pos c]
    exact mv127 hin hcl
  · simp only [if_neg c]
    exact mv127 hin hcl
theorem mv106 {D : Dm} {x1 t ke dr : Int32} {m j : Nat} {y r : Int32} (hm : m < 2) (hj : j < 30) (hy : y = nI (94 * m + (4 + 3 * j))) :
    f_X12_move_106 x1 t ke dr y r D = if rTo D m j = t ∧ rKe D m j = mvx t ke ∧ rDr D m j = mvx t dr then some (r, D) else some (r, chR x1 (mvR D m j t (mvx t ke) (mvx t dr))) := by
  unfold f_X12_move_106 f_X12_move_120 mvx
  by_cases c : t = -1
  · simp only [if_pos c]
    exact mv134 hm hj hy
  · simp only [if_neg c]
    exact mv134 hm hj hy
theorem mvx_ok {t x : Int32} {n : Int} (h : x = -1 ∨ (0 ≤ x.toInt ∧ x.toInt < n)) : mvx t x = -1 ∨ (0 ≤ (mvx t x).toInt ∧ (mvx t x).toInt < n) := by
  unfold mvx
  split
  · exact Or.inl rfl
  · exact h
theorem ite_rg {α : Type} {v : Int32} {P : Prop} [Decidable P] {A B : α} (h : v = -1 ∨ P) : (if v = -1 then A else (if P then A else B)) = A := by
  by_cases c : v = -1
  · rw [if_pos c]
  · rw [if_neg c, if_pos (h.resolve_left c)]
theorem mvsl {x2 x3 x4 : Int32} {nS nR nY : Int32} (hp : plc nS nR nY x2 x3 x4) (hs : isSt x2) (hy : isSy x3) {k : Nat} (hk : (x4 = 0 ∧ k = 0) ∨ (x4 = 1 ∧ k = 1) ∨ (x4 = 2 ∧ k = 2)) :
    ((mbase x2 x3 + k) % 3 < 2 → ¬ nR.toInt ≤ ((mbase x2 x3 + k) % 3 : Nat)) ∧ ¬ nY.toInt ≤ ((mbase x2 x3 + k) / 3 % 2 : Nat) ∧ ¬ nS.toInt ≤ ((mbase x2 x3 + k) / 6 : Nat) := by
  have key : (mbase x2 x3 + k) % 3 = k ∧ (((mbase x2 x3 + k) / 3 % 2 : Nat) : Int) = x3.toInt ∧ (((mbase x2 x3 + k) / 6 : Nat) : Int) = x2.toInt ∧ (k : Int) = x4.toInt := by
    clear hp
    rcases hs with rfl | rfl | rfl | rfl | rfl <;> rcases hy with rfl | rfl <;> rcases hk with ⟨rfl, rfl⟩ | ⟨rfl, rfl⟩ | ⟨rfl, rfl⟩ <;> decide
  obtain ⟨a, b, c, d⟩ := key
  obtain ⟨⟨p1, p2⟩, ⟨p3, p4⟩, p5⟩ := hp
  rw [a, b, c]
  refine ⟨fun h => ?_, by omega, by omega⟩
  rcases p5 with p5 | ⟨p5, p6⟩
  · rw [p5, show (2 : Int32).toInt = 2 from rfl] at d
    omega
  · omega
theorem move_eq {D : Dm} (h0 : RM D 0) (h1 : RM D 1) (x1 x2 x3 x4 x5 x6 x7 : Int32) :
    (∃ r, f_X11_move x1 x2 x3 x4 x5 x6 x7 D = some (r, D) ∧ ∀ D' : Dm, (∀ k, D' 282 k = D 282 k) → f_X12_move x1 x2 x3 x4 x5 x6 x7 D' = some (r, ud D' 281 0 0)) ∨
    (∃ r m j t ke dr, isMc x1 m ∧ j < 30 ∧ okMv (D (9 + 4 * m) 0) (D (9 + 4 * m) 1) (D (9 + 4 * m) 2) j t ke dr ∧ f_X11_move x1 x2 x3 x4 x5 x6 x7 D = some (r, chC x1 (mvC D m j t ke dr)) ∧ ∀ D' : Dm, (∀ k, D' 282 k = D 282 k) → f_X12_move x1 x2 x3 x4 x5 x6 x7 D' = some (r, chR x1 (mvR (ud D' 281 0 0) m j t ke dr))) := by
  classical
  unfold f_X11_move f_X12_move
  rcases mc_cases x1 with ⟨m, hm⟩ | hm
  · have hR : RM D m := by rcases hm with ⟨-, rfl⟩ | ⟨-, rfl⟩; exact h0; exact h1
    have hm2 : m < 2 := by rcases hm with ⟨-, rfl⟩ | ⟨-, rfl⟩ <;> omega
    obtain ⟨⟨wS, wR, wY, -⟩, e0, e1, e2, e3, eT⟩ := hR
    rw [mc_c hm, bI_d, if_neg (by decide), gd_t (mc_in hm), mc_ar hm, hasPlace_ok, bI_d]
    have q0 : ∀ D' : Dm, (∀ k, D' 282 k = D 282 k) → ud D' 281 0 0 282 (94 * m + 0) = D (9 + 4 * m) 0 := fun D' hD => by rw [← e0, ← hD]; rfl
    have q1 : ∀ D' : Dm, (∀ k, D' 282 k = D 282 k) → ud D' 281 0 0 282 (94 * m + 1) = D (9 + 4 * m) 1 := fun D' hD => by rw [← e1, ← hD]; rfl
    have hM : ∀ D' : Dm, (∀ k, D' 282 k = D 282 k) → f_X12_isMove x1 x2 x3 x4 (ud D' 281 0 0) = some (if plc (D (9 + 4 * m) 0) (D (9 + 4 * m) 1) (D (9 + 4 * m) 2) x2 x3 x4 then 1 else 0, ud D' 281 0 0) := fun D' hD => isMove_ok hm (by rw [← e0, ← hD]; rfl) (by rw [← e1, ← hD]; rfl) (by rw [← e2, ← hD]; rfl) (by omega) (by omega) (by omega)
    by_cases hp : plc (D (9 + 4 * m) 0) (D (9 + 4 * m) 1) (D (9 + 4 * m) 2) x2 x3 x4
    · obtain ⟨hs, hy, k, hk⟩ := plc_g (by omega) (by omega) (by omega) hp
      have hb := mb_lt hs hy
      have hk2 : k ≤ 2 := by rcases hk with ⟨-, rfl⟩ | ⟨-, rfl⟩ | ⟨-, rfl⟩ <;> omega
      obtain ⟨i1, i2⟩ := mb_in hs hy hk
      have hyI : 94 * x1 + (4 + (3 * (((6 * x2) + (3 * x3)) + x4))) = nI (94 * m + (4 + 3 * (mbase x2 x3 + k))) := by
        clear i1 i2 hM hp q0 q1
        rw [show 4 + (3 * (((6 * x2) + (3 * x3)) + x4)) = nI (4 + 3 * (mbase x2 x3 + k)) by
          rcases hs with rfl | rfl | rfl | rfl | rfl <;> rcases hy with rfl | rfl <;> rcases hk with ⟨rfl, rfl⟩ | ⟨rfl, rfl⟩ | ⟨rfl, rfl⟩ <;> decide, ← nI_add (94 * m)]
        rcases hm with ⟨rfl, rfl⟩ | ⟨rfl, rfl⟩ <;> rfl
      have hsl := mvsl hp hs hy hk
      obtain ⟨j, hj⟩ : ∃ j, j = mbase x2 x3 + k := ⟨_, rfl⟩
      have hj30 : j < 30 := by omega
      rw [← hj] at hyI hsl i2
      have hT := eT j hj30
      rw [if_pos hp, if_neg (by decide), gd_t (mc_in hm)]
      have hI : ∀ D' : Dm, (∀ k, D' 282 k = D 282 k) → f_X12_isIn (Int32.toInt64 x5) (-1) (Int32.toInt64 (D (9 + 4 * m) 0 - 1)) (ud D' 281 0 0) = some (if -1 ≤ x5.toInt ∧ x5.toInt ≤ (D (9 + 4 * m) 0).toInt - 1 then 1 else 0, ud D' 281 0 0) := fun D' _ => isIn_i (l := -1) (h := (D (9 + 4 * m) 0).toInt - 1) rfl (t64 (sub1 (by omega)))
      by_cases c5 : -1 ≤ x5.toInt ∧ x5.toInt ≤ (D (9 + 4 * m) 0).toInt - 1
      · rw [if_neg (by rw [Int32.lt_iff_toInt_lt, show (-1 : Int32).toInt = -1 from rfl]; omega), if_neg (by rw [Int32.le_iff_toInt_le]; omega), rgn_ok (by omega), bI_d]
        by_cases c6 : x6 = -1 ∨ (0 ≤ x6.toInt ∧ x6.toInt < (D (9 + 4 * m) 1).toInt)
        · rw [if_pos c6, if_neg (by decide), rgn_ok (by omega), bI_d]
          by_cases c7 : x7 = -1 ∨ (0 ≤ x7.toInt ∧ x7.toInt < (D (9 + 4 * m) 1).toInt)
          · rw [if_pos c7, if_neg (by decide)]
            unfold f_X4_slot
            rw [bI_d, gd_t i1, i2]
            have hc : (if D (9 + 4 * m + 1) j = -1 then f_X11_move_99 x1 x5 x6 x7 (9 + 4 * m) ((x2 * 2 + x3) * 3 + x4) 0 D else f_X11_move_99 x1 x5 x6 x7 (9 + 4 * m) ((x2 * 2 + x3) * 3 + x4) 1 D) = f_X11_move_99 x1 x5 x6 x7 (9 + 4 * m) ((x2 * 2 + x3) * 3 + x4) (if D (9 + 4 * m + 1) j = -1 then 0 else 1) D := by
              split <;> rfl
            rw [hc, mv99 i1 i2]
            have fin : ∀ D' : Dm, (∀ k, D' 282 k = D 282 k) → f_X12_move_57 x1 x2 x3 x4 x5 x6 x7 (ud D' 281 0 0) = if D (9 + 4 * m + 1) j = x5 ∧ D (9 + 4 * m + 2) j = mvx x5 x6 ∧ D (9 + 4 * m + 3) j = mvx x5 x7 then some (if D (9 + 4 * m + 1) j = -1 then 0 else 1, ud D' 281 0 0) else some (if D (9 + 4 * m + 1) j = -1 then 0 else 1, chR x1 (mvR (ud D' 281 0 0) m j x5 (mvx x5 x6) (mvx x5 x7))) := by
              intro D' hD
              have r1 : rTo (ud D' 281 0 0) m j = D (9 + 4 * m + 1) j := by rw [← hT.1]; exact hD _
              have r2 : rKe (ud D' 281 0 0) m j = D (9 + 4 * m + 2) j := by rw [← hT.2.1]; exact hD _
              have r3 : rDr (ud D' 281 0 0) m j = D (9 + 4 * m + 3) j := by rw [← hT.2.2]; exact hD _
              have h76 : f_X12_move_76 x1 x2 x3 x4 x5 x6 x7 (ud D' 281 0 0) = f_X12_move_106 x1 x5 x6 x7 (nI (94 * m + (4 + 3 * j))) (if D (9 + 4 * m + 1) j = -1 then 0 else 1) (ud D' 281 0 0) := by
                unfold f_X12_move_76 f_X12_moveAt
                rw [bI_d, lt_d, hyI, gd_t (inB_nI (by omega) (by omega)), nI_clamp (by omega), show ud D' 281 0 0 282 (94 * m + (4 + 3 * j)) = D (9 + 4 * m + 1) j from r1]
                split <;> rfl
              unfold f_X12_move_57
              rw [h76, mv106 hm2 hj30 rfl, r1, r2, r3, isReg_ok hm (q1 D' hD) (by omega), bI_d]
              by_cases c : x7 = -1
              · rw [if_pos c]
              · rw [if_neg c, if_pos (c7.resolve_left c), if_neg (by decide), h76, mv106 hm2 hj30 rfl, r1, r2, r3]
            have fin2 : ∀ D' : Dm, (∀ k, D' 282 k = D 282 k) → (lt (ud D' 281 0 0) fun D1 => bI (f_X12_isMove x1 x2 x3 x4 D1) fun y5 D3 => if y5 = 0 then (some ((-2), D3)) else (bI (f_X12_its x1 0 D3) fun y9 D7 => bI (f_X12_isIn (Int32.toInt64 x5) (-1) (Int32.toInt64 (y9 - 1)) D7) fun y12 D10 => if y12 = 0 then (some ((-3), D10)) else (if x6 = (-1) then (f_X12_move_57 x1 x2 x3 x4 x5 x6 x7 D10) else (bI (f_X12_isRegister x1 x6 D10) fun y17 D15 => if y17 = 0 then (some ((-3), D15)) else (f_X12_move_57 x1 x2 x3 x4 x5 x6 x7 D15))))) = f_X12_move_57 x1 x2 x3 x4 x5 x6 x7 (ud D' 281 0 0) := by
              intro D' hD
              rw [lt_d, hM D' hD, bI_d, if_pos hp, if_neg (by decide), its_ok (k := 0) (q := 0) hm rfl (by omega), bI_d, q0 D' hD, hI D' hD, bI_d, if_pos c5, if_neg (by decide), isReg_ok hm (q1 D' hD) (by omega), bI_d]
              by_cases c : x6 = -1
              · rw [if_pos c]
              · rw [if_neg c, if_pos (c6.resolve_left c), if_neg (by decide)]
            by_cases hsame : D (9 + 4 * m + 1) j = x5 ∧ D (9 + 4 * m + 2) j = mvx x5 x6 ∧ D (9 + 4 * m + 3) j = mvx x5 x7
            · refine Or.inl ⟨_, if_pos hsame, fun D' hD => ?_⟩
              rw [fin2 D' hD, fin D' hD, if_pos hsame]
            · refine Or.inr ⟨_, m, j, x5, mvx x5 x6, mvx x5 x7, hm, hj30, ⟨?_, mvx_ok c6, mvx_ok c7, fun h => by unfold mvx; rw [if_pos h, if_pos h]; exact ⟨rfl, rfl⟩, hsl⟩, if_neg hsame, fun D' hD => ?_⟩
              · by_cases c : x5 = -1
                · exact Or.inl c
                · have := ne_toInt c (k := -1) rfl
                  exact Or.inr ⟨by omega, by omega⟩
              · rw [fin2 D' hD, fin D' hD, if_neg hsame]
          · refine Or.inl ⟨-3, by rw [if_neg c7, if_pos rfl], fun D' hD => ?_⟩
            have h57 : f_X12_move_57 x1 x2 x3 x4 x5 x6 x7 (ud D' 281 0 0) = some (-3, ud D' 281 0 0) := by
              unfold f_X12_move_57
              rw [if_neg (fun q => c7 (Or.inl q)), isReg_ok hm (q1 D' hD) (by omega), bI_d, if_neg (fun q => c7 (Or.inr q)), if_pos rfl]
            rw [lt_d, hM D' hD, bI_d, if_pos hp, if_neg (by decide), its_ok (k := 0) (q := 0) hm rfl (by omega), bI_d, q0 D' hD, hI D' hD, bI_d, if_pos c5, if_neg (by decide), isReg_ok hm (q1 D' hD) (by omega), bI_d, h57]
            by_cases c : x6 = -1
            · rw [if_pos c]
            · rw [if_neg c, if_pos (c6.resolve_left c), if_neg (by decide)]
        · refine Or.inl ⟨-3, by rw [if_neg c6, if_pos rfl], fun D' hD => ?_⟩
          rw [lt_d, hM D' hD, bI_d, if_pos hp, if_neg (by decide), its_ok (k := 0) (q := 0) hm rfl (by omega), bI_d, q0 D' hD, hI D' hD, bI_d, if_pos c5, if_neg (by decide), isReg_ok hm (q1 D' hD) (by omega), bI_d, if_neg (fun q => c6 (Or.inl q)), if_neg (fun q => c6 (Or.inr q)), if_pos rfl]
      · refine Or.inl ⟨-3, ?_, fun D' hD => ?_⟩
        · by_cases c : x5 < -1
          · rw [if_pos c]
          · rw [if_neg c, if_pos]
            rw [Int32.lt_iff_toInt_lt, show (-1 : Int32).toInt = -1 from rfl] at c
            rw [Int32.le_iff_toInt_le]
            omega
        · rw [lt_d, hM D' hD, bI_d, if_pos hp, if_neg (by decide), its_ok (k := 0) (q := 0) hm rfl (by omega), bI_d, q0 D' hD, hI D' hD, bI_d, if_neg c5, if_pos rfl]
    · rw [if_neg hp]
      refine Or.inl ⟨-2, if_pos rfl, fun D' hD => ?_⟩
      rw [lt_d, hM D' hD, bI_d, if_neg hp, if_pos rfl]
  · refine Or.inl ⟨-2, by rw [mc_cn hm, bI_d, if_pos rfl], fun D' hD => ?_⟩
    unfold f_X12_isMove
    rw [lt_d, mc_rn hm, bI_d, if_pos rfl, bI_d, if_pos rfl]
