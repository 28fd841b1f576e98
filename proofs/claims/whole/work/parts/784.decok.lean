/-! ===== the class decides, and makes a step ===== -/
def TLf (D : Dm) (ts : Tst) (b : Nat) : Prop := (1 ≤ b ∧ (ts 0).1 = []) ∧ ∀ t, t < b → isW D (82 + 4 * t) (ts t).1.length ∧ (ts t).1.length ≤ 6 ∧ ∀ k, k < (ts t).1.length → D (82 + 4 * t + 2) k = nI (lsf (D (82 + 4 * t + 2)) k)
theorem TLf.fr {D D' : Dm} {ts : Tst} {b : Nat} (h : TLf D ts b) (hb : b ≤ 10) (hF : ∀ j k, 82 ≤ j → j ≤ 121 → D' j k = D j k) : TLf D' ts b := ⟨h.1, fun t ht => by
  obtain ⟨h1, h2, h3⟩ := h.2 t ht
  have e2 : D' (82 + 4 * t + 2) = D (82 + 4 * t + 2) := funext (fun k => hF _ k (by omega) (by omega))
  refine ⟨isW_congr h1 (hF _ _ (by omega) (by omega)) (hF _ _ (by omega) (by omega)) (fun k _ => hF _ _ (by omega) (by omega)) (fun k _ => hF _ _ (by omega) (by omega)), h2, ?_⟩
  rw [e2]; exact h3⟩
theorem SLf.fr {D D' : Dm} {ss : Tst} {a : Nat} (h : SLf D ss a) (ha : a ≤ 10) (hF : ∀ j k, 122 ≤ j → j ≤ 261 → (j - 122) % 14 < 4 → D' j k = D j k) : SLf D' ss a := fun u hu k hk => by
  have e2 : D' (122 + 14 * u + 2) = D (122 + 14 * u + 2) := funext (fun k => hF _ k (by omega) (by omega) (by omega))
  rw [e2]; exact h u hu k hk
def fitB (ts : Tst) (b a k : Nat) (w : List Lt) : Bool := decide (w.length ≤ 6) && decide (dsL w ≤ 3) && if k = 2 then decide (a < 10) else newB ts b (lfm w) && decide (b < 10)
theorem fitB_2 {ts : Tst} {b a : Nat} {w : List Lt} : fitB ts b a 2 w = okU a w := by
  unfold fitB okU
  rw [if_pos rfl]
  cases decide (w.length ≤ 6) <;> cases decide (dsL w ≤ 3) <;> cases decide (a < 10) <;> rfl
theorem fitB_1 {ts : Tst} {b a k : Nat} {w : List Lt} (hk : k ≠ 2) : fitB ts b a k w = okA ts b w := by
  unfold fitB okA
  rw [if_neg hk]
  cases decide (w.length ≤ 6) <;> cases decide (dsL w ≤ 3) <;> cases decide (b < 10) <;> cases newB ts b (lfm w) <;> rfl
theorem PWd.lf {D : Dm} {w : List Lt} (h : PWd D w) : lstW D 68 w.length = lfm w ∧ dsf (D 70) w.length = dsL w := by
  obtain ⟨-, h2⟩ := h
  constructor
  · conv => rhs; rw [h2]
    rw [lfm_lts]; rfl
  · conv => rhs; rw [h2]
    rw [dsL_lts]
theorem PWd.uniq {D : Dm} {w v : List Lt} (h : PWd D w) (h' : PWd D v) : w = v := by
  have e : w.length = v.length := by
    have h1 := h.1.2.1
    rw [h'.1.2.1] at h1
    have := h.1.1
    have := h'.1.1
    exact (nI_inj (by omega) (by omega) h1).symm
  rw [h.2, h'.2, e]
theorem PWd.f8 {D D' : Dm} {w : List Lt} (h : PWd D w) (hF : ∀ j k, 68 ≤ j → j ≤ 71 → D' j k = D j k) : PWd D' w := by
  have e1 : D' 69 = D 69 := funext (fun k => hF _ k (by omega) (by omega))
  have e2 : D' 70 = D 70 := funext (fun k => hF _ k (by omega) (by omega))
  refine ⟨isW_congr h.1 (hF _ _ (by omega) (by omega)) (hF _ _ (by omega) (by omega)) (fun k _ => hF _ _ (by omega) (by omega)) (fun k _ => hF _ _ (by omega) (by omega)), ?_⟩
  rw [e1, e2]; exact h.2
def STKd (D : Dm) (ts : Tst) (b a : Nat) : Prop := (D 43 13 = 0 ∧ D 43 15 = 0) ∨ ∃ k w, 1 ≤ k ∧ k < 4 ∧ D 43 13 = nI k ∧ PWd D w ∧ D 43 15 = b01 (!fitB ts b a k w)
def PIv (ts : Tst) (b : Nat) (ss : Tst) (Z : Nat) : Prop := (ss 0).1 = [] ∧ 1 ≤ Z ∧ Z ≤ 2
theorem all_cg {l : List Nat} {f g : Nat → Bool} (h : ∀ t ∈ l, f t = g t) : l.all f = l.all g := by
  rw [Bool.eq_iff_iff, List.all_eq_true, List.all_eq_true]
  exact ⟨fun q t ht => by rw [← h t ht]; exact q t ht, fun q t ht => by rw [h t ht]; exact q t ht⟩
section
variable {D D' E H : Dm} {T : Tb} {acc AH : Int32} {ts ss : Tst} {b a Z : Nat}
def CIv (D : Dm) (T : Tb) (acc : Int32) (ts : Tst) (b : Nat) (ss : Tst) (a Z : Nat) : Prop := LCs D T acc ts b ss a ∧ okPf D T acc ts b ss a ∧ SLf D ss a ∧ TLf D ts b ∧ D 9 2 = nI Z
def CKs (D : Dm) (T : Tb) (acc : Int32) (ts : Tst) (b : Nat) (ss : Tst) (a Z : Nat) (H : Dm) (AH : Int32) : Prop := CK1 D T acc ts b ss a Z ∨ CK2 D T acc ts b ss a Z ∨ CK3 D T acc ts b ss a Z H AH
def DEC (D : Dm) (T : Tb) (acc : Int32) (ts : Tst) (b : Nat) (ss : Tst) (a Z : Nat) (H : Dm) (AH : Int32) : Prop := D 43 17 = 1 ∧ D 43 16 = 1 ∧ PS D T acc ts b ss a ∧ CKs D T acc ts b ss a Z H AH ∧ STKd D ts b a
abbrev SDD (j k : Nat) : Prop := SDC j k ∨ (j = 43 ∧ k = 15)
theorem CKs.fr (h : CKs D T acc ts b ss a Z H AH) (hF : ∀ j k, ((56 ≤ j ∧ j ≤ 63) ∨ (68 ≤ j ∧ j ≤ 71) ∨ (j = 43 ∧ (k = 13 ∨ k = 14))) → D' j k = D j k) : CKs D' T acc ts b ss a Z H AH := by
  have hw : ∀ {w}, PWd D w → PWd D' w := fun h => h.f8 (fun j k q1 q2 => hF j k (by omega))
  rcases h with ⟨h1, h2, u, y, i, e, x, r1, r2, r3, r4, r5⟩ | ⟨h1, h2, h3, u, y, i, r1, r2, r3, r4⟩ | ⟨h1, h2, h3, h4, h5, h6⟩
  · exact Or.inl ⟨by rw [hF _ _ (by omega)]; exact h1, by rw [hF _ _ (by omega)]; exact h2, u, y, i, e, x, r1, r2, r3, r4, hw r5⟩
  · exact Or.inr (Or.inl ⟨by rw [hF _ _ (by omega)]; exact h1, by rw [hF _ _ (by omega)]; exact h2, h3, u, y, i, r1, r2, r3, hw r4⟩)
  · refine Or.inr (Or.inr ⟨h1, ?_, by rw [hF _ _ (by omega)]; exact h3, h4, h5, ?_⟩)
    · rw [← h2]
      unfold hyp
      rw [show D' 57 = D 57 from funext (fun k => hF _ k (by omega)), show D' 58 = D 58 from funext (fun k => hF _ k (by omega)), show D' 59 = D 59 from funext (fun k => hF _ k (by omega))]
    · rcases h6 with ⟨g1, g2, g3, g4⟩ | ⟨g1, g2, ⟨g3, g4, g5⟩, s, g6, g7, g8, g9⟩
      · left
        exact ⟨g1, by rw [hF _ _ (by omega)]; exact g2, by rw [hF _ _ (by omega)]; exact g3, isW_congr g4 (hF _ _ (by omega)) (hF _ _ (by omega)) (fun k _ => hF _ _ (by omega)) (fun k _ => hF _ _ (by omega))⟩
      · right
        refine ⟨g1, by rw [hF _ _ (by omega)]; exact g2, ⟨g3, by rw [hF _ _ (by omega)]; exact g4, fun p hp => ?_⟩, s, g6, g7, by rw [hF _ _ (by omega)]; exact g8, hw g9⟩
        rw [hF _ _ (by omega), hF _ _ (by omega)]; exact g5 p hp
theorem STKd.fr (h : STKd D ts b a) (hF : ∀ j k, ((68 ≤ j ∧ j ≤ 71) ∨ (j = 43 ∧ (k = 13 ∨ k = 15))) → D' j k = D j k) : STKd D' ts b a := by
  rcases h with ⟨h1, h2⟩ | ⟨k, w, h1, h2, h3, h4, h5⟩
  · exact Or.inl ⟨by rw [hF _ _ (by omega)]; exact h1, by rw [hF _ _ (by omega)]; exact h2⟩
  · exact Or.inr ⟨k, w, h1, h2, by rw [hF _ _ (by omega)]; exact h3, h4.f8 (fun j k q1 q2 => hF j k (by omega)), by rw [hF _ _ (by omega)]; exact h5⟩
theorem CIv.dd (h : CIv D T acc ts b ss a Z) (hF : Fr SDD D D') (h16 : D' 43 16 = 1) (hP : PS D' T acc ts b ss a) : CIv D' T acc ts b ss a Z := by
  obtain ⟨h1, h2, h3, h4, h5⟩ := h
  have ha := h1.2.2.1
  refine ⟨h1.fr (fun j k q => hF j k (by unfold SDD SDC SPf SLW SLk STH; omega)), Or.inr ⟨h16, hP⟩, h3.fr ha.2 (fun j k q1 q2 q3 => hF j k (by unfold SDD SDC SPf SLW SLk STH; omega)), h4.fr h1.2.1.1 (fun j k q1 q2 => hF j k (by unfold SDD SDC SPf SLW SLk STH; omega)), by rw [hF _ _ (by unfold SDD SDC SPf SLW SLk STH; omega)]; exact h5⟩
theorem fit_ok (h : CIv D T acc ts b ss a Z) {k : Nat} {w : List Lt} (hk : k < 4) (h13 : D 43 13 = nI k) (hw : PWd D w) : f_X3_fits D = some (b01 (fitB ts b a k w), D) := by
  obtain ⟨h1, h2, h3, h4, h5⟩ := h
  have hb := h1.2.1.1
  rw [fits_ok (nt := fun t => (ts t).1.length) hw.1 hb h1.2.1.2.1 h1.2.2.1.2 h1.2.2.2.1 h13 hk (fun t ht => (h4.2 t ht).1), hw.lf.2]
  congr 3
  unfold fitB
  have e : nwT D (fun t => (ts t).1.length) w.length b = newB ts b (lfm w) := by
    unfold nwT newB
    rw [hw.lf.1]
    apply all_cg
    intro t ht
    have ht := List.mem_range.mp ht
    have e2 : lstW D (82 + 4 * t) (ts t).1.length = (ts t).1 := by
      obtain ⟨n, q1, q2, q3, q4, q5, q6⟩ := h1.2.1.2.2 t ht
      obtain ⟨-, -, g3⟩ := h4.2 t ht
      have en : (ts t).1.length = n := by rw [q5, lts_len]
      unfold lstW
      rw [en] at g3 ⊢
      conv => rhs; rw [q5]
      exact lts_congr (fun k _ hk => ⟨rfl, (g3 k (by omega)).symm⟩)
    rw [e2]
    congr 1
    rw [decide_eq_decide]
    exact eq_comm
  rw [e]
theorem decide_ok (hp : PIv ts b ss Z) (h : CIv D T acc ts b ss a Z) (hS : SR E ss a) (hc : D 43 17 = 0 ∨ DEC D T acc ts b ss a Z H AH) : Y (f_X3_decide D) (fun D' => Fr SDD D D' ∧ CIv D' T acc ts b ss a Z ∧ ((D 43 17 = 0 ∧ ∃ H AH, DEC D' T acc ts b ss a Z H AH) ∨ DEC D' T acc ts b ss a Z H AH)) := by
  rcases hc with h17 | hd
  · obtain ⟨h1, h2, h3, h4, h5⟩ := id h
    refine decide_k h1 h2 hS (fun t ht => (h4.2 t ht).2.1) h3 hp.2.2 h5 hp.1 h17 (fun D1 F1 d17 d16 hP hK => ?_)
    have F2 : ∀ v, Fr SDD D (ud D1 43 15 v) := fun v => (F1.mono (fun j k q => Or.inl q)).ud (Or.inr ⟨rfl, rfl⟩)
    have hP2 : ∀ v, PS (ud D1 43 15 v) T acc ts b ss a := fun v => hP.fr h1.2.2.1.2 (fun j k q1 q2 q3 => by rw [ud_at, if_neg (by omega)])
    have d17' : ∀ v, (ud D1 43 15 v) 43 17 = 1 := fun v => by rw [ud_at, if_neg (by omega), d17]
    have d16' : ∀ v, (ud D1 43 15 v) 43 16 = 1 := fun v => by rw [ud_at, if_neg (by omega), d16]
    have hC1 : CIv D1 T acc ts b ss a Z := h.dd (F1.mono (fun j k q => Or.inl q)) d16 hP
    have fin : ∀ v H2 AH2, CKs D1 T acc ts b ss a Z H2 AH2 → STKd (ud D1 43 15 v) ts b a → (v = 0 ∨ v = 1) → Y (f_X3_decide_152 v D1) (fun D' => Fr SDD D D' ∧ CIv D' T acc ts b ss a Z ∧ ((D 43 17 = 0 ∧ ∃ H AH, DEC D' T acc ts b ss a Z H AH) ∨ DEC D' T acc ts b ss a Z H AH)) := fun v H2 AH2 hK hs hv => by
      unfold f_X3_decide_152
      refine yGd (by rcases hv with rfl | rfl <;> decide) (yLt0 (yRet ⟨F2 v, h.dd (F2 v) (d16' v) (hP2 v), Or.inl ⟨h17, H2, AH2, d17' v, d16' v, hP2 v, hK.fr (fun j k q => by rw [ud_at, if_neg (by omega)]), hs⟩⟩))
    obtain ⟨H1, AH1, hK1⟩ : ∃ H AH, CKs D1 T acc ts b ss a Z H AH := by
      rcases hK with q | q | ⟨H, AH, q⟩
      · exact ⟨D, 0, Or.inl q⟩
      · exact ⟨D, 0, Or.inr (Or.inl q)⟩
      · exact ⟨H, AH, Or.inr (Or.inr q)⟩
    have kw : D1 43 13 = 0 ∨ ∃ k w, 1 ≤ k ∧ k < 4 ∧ D1 43 13 = nI k ∧ PWd D1 w := by
      rcases hK1 with ⟨q1, -, u, y, i, e, x, -, -, -, -, q⟩ | ⟨q1, -, -, u, y, i, -, -, -, q⟩ | ⟨-, -, -, -, -, q⟩
      · exact Or.inr ⟨1, _, by omega, by omega, q1, q⟩
      · exact Or.inr ⟨2, _, by omega, by omega, q1, q⟩
      · rcases q with ⟨-, q, -, -⟩ | ⟨-, q, -, s, -, -, -, q2⟩
        · exact Or.inl q
        · exact Or.inr ⟨3, _, by omega, by omega, q, q2⟩
    unfold f_X3_decide_132 f_X3_decide_151
    rcases kw with q | ⟨k, w, k1, k4, e13, hw⟩
    · refine yPos q (fin 0 H1 AH1 hK1 (Or.inl ⟨by rw [ud_at, if_neg (by omega)]; exact q, by rw [ud_at, if_pos ⟨rfl, rfl⟩]⟩) (Or.inl rfl))
    · refine yNeg (by rw [e13]; exact fun h => absurd (nI_inj (by omega) (by omega) (show nI k = nI 0 from h)) (by omega)) ?_
      refine yBIe (fit_ok hC1 k4 e13 hw) ?_
      have hs : ∀ v, v = b01 (!fitB ts b a k w) → STKd (ud D1 43 15 v) ts b a := fun v hv => Or.inr ⟨k, w, k1, k4, by rw [ud_at, if_neg (by omega)]; exact e13, hw.f8 (fun j k q1 q2 => by rw [ud_at, if_neg (by omega)]), by rw [ud_at, if_pos ⟨rfl, rfl⟩]; exact hv⟩
      cases hf : fitB ts b a k w with
      | false => exact yPos rfl (fin 1 H1 AH1 hK1 (hs 1 (by rw [hf]; rfl)) (Or.inr rfl))
      | true => exact yNeg (by decide) (fin 0 H1 AH1 hK1 (hs 0 (by rw [hf]; rfl)) (Or.inl rfl))
  · unfold f_X3_decide
    refine yNeg (by rw [hd.1]; decide) (yRet ⟨Fr.refl, h, Or.inr hd⟩)
end
