/-! ===== the reference: what is remembered, what shows it ===== -/
/-- the word that is looked at, its names told -/
def LKm (D : Dm) (l : List Lt) (M : Nat) : Prop := ∃ n, n ≤ 40 ∧ D 281 36 = nI n ∧ l = lts (D 299) (D 300) 0 n ∧ (∀ k, k < n → isSy (D 299 k) ∧ ∃ j, j < 1000 ∧ D 300 k = nI j) ∧ M = mxf (fun k => (D 300 k).toNatClampNeg) n
theorem LKm.lk {D : Dm} {l : List Lt} {M : Nat} (h : LKm D l M) : LK D l M := by
  obtain ⟨n, h1, h2, h3, h4, h5⟩ := h
  refine ⟨n, h1, h2, h3, fun k hk => ⟨(h4 k hk).1, ?_⟩⟩
  obtain ⟨-, j, hj, e⟩ := h4 k hk
  refine ⟨j, ?_, e⟩
  rw [h5]
  have := mxf_gt (g := fun k => (D 300 k).toNatClampNeg) hk
  simp only [e, nI_clamp (show j < 2 ^ 31 by omega)] at this
  exact this
theorem LKm.fr {D D' : Dm} {l : List Lt} {M : Nat} (h : LKm D l M) (h36 : D' 281 36 = D 281 36) (hF : ∀ j k, (j = 299 ∨ j = 300) → D' j k = D j k) : LKm D' l M := by
  obtain ⟨n, h1, h2, h3, h4, h5⟩ := h
  have e2 : D' 299 = D 299 := funext (fun k => hF _ k (by omega))
  have e3 : D' 300 = D 300 := funext (fun k => hF _ k (by omega))
  refine ⟨n, h1, by rw [h36, h2], ?_, ?_, ?_⟩
  · rw [e2, e3]; exact h3
  · rw [e2, e3]; exact h4
  · rw [e3]; exact h5
theorem LKm.names {D : Dm} {l : List Lt} {M : Nat} (h : LKm D l M) : f_X12_namesOf 300 40 0 (D 281 36) D = some (nI M, D) := by
  obtain ⟨n, h1, h2, h3, h4, h5⟩ := h
  rw [h2, h5, ← nI_0, namesOf_ok (g := fun k => (D 300 k).toNatClampNeg) (by omega) (by omega) (fun k hk => ?_)]
  obtain ⟨-, j, hj, e⟩ := h4 k hk
  show (D 300 k).toNatClampNeg < 1000 ∧ D 300 (0 + k) = nI (D 300 k).toNatClampNeg
  rw [Nat.zero_add, e, nI_clamp (by omega)]
  exact ⟨hj, rfl⟩
/-- bits of the names of which S says so -/
def RB (r M : Nat) (S : Nat → Option (Nat × List Nat)) : Prop := r < 16 ∧ ∀ n, n < 4 → r.testBit n = (decide (n < M) && (S n).isSome)
theorem any_out {A : List Nat → Bool} {M d n : Nat} (hM : M < 5) (hd : d < 4) (h : M ≤ n) : (insts M [] d).any (shB A (n + 1)) = false := by
  rw [List.any_eq_false]
  intro gs hg
  obtain ⟨a1, a2, -⟩ := in_ok M hM d hd gs hg
  unfold shB
  rw [Bool.and_eq_true]
  intro q
  obtain ⟨i, hi, e⟩ := List.mem_iff_getElem.mp (contains_iff.mp q.1)
  have := (a2 i (by omega)).1
  unfold dig at this
  rw [List.getD_eq_getElem?_getD, List.getElem?_eq_getElem hi, e] at this
  simp at this
  omega
theorem any_find {α : Type} {P : α → Bool} {L : List α} : L.any P = (L.find? P).isSome := by
  cases h : L.find? P with
  | none =>
    rw [List.find?_eq_none] at h
    rw [List.any_eq_false.mpr h]; rfl
  | some x =>
    rw [List.any_eq_true.mpr ⟨x, List.mem_of_find?_eq_some h, List.find?_some h⟩]; rfl
theorem shR_succ {T : Tb} {acc : Int32} {ts : Tst} {c : Cf} {M t n : Nat} : shR T acc ts c M (t + 1) n = match shR T acc ts c M t n with
    | some x => some x
    | none => (fsh (aG T acc ts c 100 nI t) (n + 1) M (ts t).2).map (fun gs => (t, gs)) := rfl
theorem RB_more {T : Tb} {acc : Int32} {ts : Tst} {c : Cf} {M t r r' : Nat} (hM : M < 5) (hd : (ts t).2 ≤ 3) (h : RB r M (shR T acc ts c M t)) (hr' : r' < 16) (hb : ∀ n, n < 4 → r'.testBit n = (r.testBit n || (insts M [] (ts t).2).any (shB (aG T acc ts c 100 nI t) (n + 1)))) : RB r' M (shR T acc ts c M (t + 1)) := by
  refine ⟨hr', fun n hn => ?_⟩
  rw [hb n hn, h.2 n hn]
  by_cases e : n < M
  · rw [decide_eq_true e, Bool.true_and, Bool.true_and, shR_succ, any_find]
    cases shR T acc ts c M t n with
    | some x => rfl
    | none =>
      show (false || (fsh (aG T acc ts c 100 nI t) (n + 1) M (ts t).2).isSome) = _
      cases fsh (aG T acc ts c 100 nI t) (n + 1) M (ts t).2 <;> rfl
  · rw [any_out hM (by omega) (by omega), decide_eq_false e]; rfl
abbrev SRM (j k : Nat) : Prop := j = 301 ∨ j = 303 ∨ (j = 281 ∧ (k = 3 ∨ k = 4 ∨ k = 5 ∨ k = 37 ∨ k = 38 ∨ k = 39 ∨ k = 42 ∨ k = 43 ∨ k = 44 ∨ k = 45))
section
variable {D : Dm} {T : Tb} {acc : Int32} {ts : Tst} {b M : Nat} {l : List Lt}
theorem remembers_ok (hM : M < 5) (hMR : MR D 0 T acc) (hT : TR D ts b) (hL : LKm D l M) {r fm : Nat} (hfm : fm ≤ b) (hr : RB r M (shR T acc ts (run T c0 l) M fm)) :
    Y (f_X12_remembers (nI r) (nI fm) D) (fun a => Fr SRM D a.2 ∧ ∃ r', a.1 = nI r' ∧ RB r' M (shR T acc ts (run T c0 l) M b)) := by
  have hb := hT.1
  have hst : okSt (run T c0 l).1 ∧ okC (run T c0 l) M := by
    obtain ⟨n, h1, h2, h3, h4⟩ := hL.lk
    refine ⟨run_ok hMR.1 c0_ok (fun a ha => ?_), run_okC (fun a ha => ?_)⟩ <;> rw [h3] at ha <;> obtain ⟨k, -, hk, rfl⟩ := lts_mem ha
    · exact (h4 k (by omega)).1
    · exact (h4 k (by omega)).2
  unfold f_X12_remembers
  refine yLt0 (yLt0 (yLt (fun D1 hD1 => ?_)))
  have hF1 : Fr SRM D D1 := by rw [hD1]; exact ((Fr.refl.ud (by unfold SRM; omega)).ud (by unfold SRM; omega)).ud (by unfold SRM; omega)
  have fr1 : ∀ {D' : Dm}, Fr SRM D D' → MR D' 0 T acc ∧ TR D' ts b ∧ LKm D' l M := fun hF => ⟨hMR.fr (fun k => hF 282 k (by unfold SRM; omega)), hT.fr (hF _ _ (by unfold SRM; omega)) (fun j k h1 h2 => hF j k (by unfold SRM; omega)), hL.fr (hF _ _ (by unfold SRM; omega)) (fun j k h => hF j k (by unfold SRM; omega))⟩
  obtain ⟨m1, m2, m3⟩ := fr1 hF1
  have v42 : D1 281 42 = nI r := by rw [hD1]; simp [ud_at]
  have v43 : D1 281 43 = oI none := by rw [hD1]; simp [ud_at, oI]
  have v45 : D1 281 45 = 0 := by rw [hD1]; simp [ud_at]
  rw [m2.2.1]
  refine yIte (fun e => yRet ⟨hF1, r, rfl, ?_⟩) (fun e => ?_)
  · have := nI_inj (by omega) (by omega) e
    rw [← this]; exact hr
  · rw [m3.names, bI_d]
    refine yBV (keepsOne_ok m1 m3.lk) (fun D2 h2 => ?_)
    obtain ⟨hF2, hO⟩ := h2
    have hF3 : Fr SRM D D2 := hF1.tr (hF2.mono (fun j k q => by unfold SKO at q; unfold SRM; omega))
    have loop : ∀ (j i m : Nat) (D' : Dm) (ri : Nat), i + j = b → Fr SRM D D' → getO D' = run T c0 l → D' 281 43 = oI none → D' 281 45 = 0 → D' 281 42 = nI ri → RB ri M (shR T acc ts (run T c0 l) M i) → Y (f_X12_remembers_46 (j + 1 + m) (nI M) (nI i) D') (fun a => Fr SRM D a.2 ∧ ∃ r', a.1 = nI r' ∧ RB r' M (shR T acc ts (run T c0 l) M b)) := by
      intro j
      induction j with
      | zero =>
        intro i m D' ri hi hF hO h43 h45 h42 hri
        have hi : i = b := by omega
        obtain ⟨n1, n2, n3⟩ := fr1 hF
        rw [show 0 + 1 + m = m + 1 by omega]
        show Y (f_X12_remembers_46_b _ _ _ _) _
        unfold f_X12_remembers_46_b
        rw [n2.2.1, hi]
        rw [hi] at hri
        exact yPos (nI_le (Nat.le_refl _) (by omega)) (yRet ⟨hF, ri, h42, hri⟩)
      | succ j ih =>
        intro i m D' ri hi hF hO h43 h45 h42 hri
        obtain ⟨n1, n2, n3⟩ := fr1 hF
        rw [show j + 1 + 1 + m = (j + 1 + m) + 1 by omega]
        show Y (f_X12_remembers_46_b _ _ _ _) _
        unfold f_X12_remembers_46_b
        rw [n2.2.1]
        refine yNeg (nI_nle2 (by omega) (by omega)) ?_
        rw [ownOf_ok n2 (show i < b by omega), bI_d]
        have hd := (n2.okT i (by omega)).1
        obtain ⟨q, hq⟩ := rf1 (ts i).2 (by omega)
        have := asks_ok (T := T) (acc := acc) (ts := ts) (b := b) (w := none) hM hst.2 hst.1 (show i < b by omega) (ts i).2 q [] D' ri n1 n2 hO h43 hri.1 (fun x hx => by cases hx) (by simp) (fun gs hg => hg) (fun i hi => absurd hi (Nat.not_lt_zero i)) h45 h42
        rw [show ([] : List Nat).length = 0 from rfl, nI_0] at this
        rw [hq]
        refine yBV this (fun D3 h3 => ?_)
        obtain ⟨f1, -, f2⟩ := h3
        have hF4 : Fr SRM D D3 := hF.tr (f1.mono (fun j k q => by unfold SAS at q; unfold SRM; omega))
        rw [lt_d, nI_1]
        rcases f2 with ⟨a, ⟨r2, b1, b2, b3⟩, -⟩ | ⟨-, x, -, hx, -⟩
        · refine ih (i + 1) m D3 r2 (by omega) hF4 ?_ (by rw [f1 281 43 (by unfold SAS; omega)]; exact h43) a b1 (RB_more hM hd hri b2 b3)
          rw [← hO]
          unfold getO
          rw [f1 _ _ (by unfold SAS; omega), f1 _ _ (by unfold SAS; omega), f1 _ _ (by unfold SAS; omega)]
        · cases hx
    obtain ⟨q, hq⟩ := FUs (b - fm) (by omega)
    have := loop (b - fm) fm q D2 r (by omega) hF3 hO (by rw [hF2 _ _ (by unfold SKO; omega)]; exact v43) (by rw [hF2 _ _ (by unfold SKO; omega)]; exact v45) (by rw [hF2 _ _ (by unfold SKO; omega)]; exact v42) hr
    rw [hq]
    exact this
/-- what shows a name -/
theorem shows_ok (hM : M < 5) (hMR : MR D 0 T acc) (hT : TR D ts b) (hL : LKm D l M) {w : Nat} (hw : w < 4) {x : Nat × List Nat} (hx : shR T acc ts (run T c0 l) M b w = some x) :
    Y (f_X12_shows (nI w) D) (fun D' => Fr SRM D D' ∧ D' 281 44 = nI x.1 ∧ x.1 < b ∧ ∀ i, i < (ts x.1).2 → D' 303 i = asv x.2 i) := by
  have hb := hT.1
  have hst : okSt (run T c0 l).1 ∧ okC (run T c0 l) M := by
    obtain ⟨n, h1, h2, h3, h4⟩ := hL.lk
    refine ⟨run_ok hMR.1 c0_ok (fun a ha => ?_), run_okC (fun a ha => ?_)⟩ <;> rw [h3] at ha <;> obtain ⟨k, -, hk, rfl⟩ := lts_mem ha
    · exact (h4 k (by omega)).1
    · exact (h4 k (by omega)).2
  unfold f_X12_shows
  refine yLt0 (yLt0 (yLt (fun D1 hD1 => ?_)))
  have hF1 : Fr SRM D D1 := by rw [hD1]; exact ((Fr.refl.ud (by unfold SRM; omega)).ud (by unfold SRM; omega)).ud (by unfold SRM; omega)
  have fr1 : ∀ {D' : Dm}, Fr SRM D D' → MR D' 0 T acc ∧ TR D' ts b ∧ LKm D' l M := fun hF => ⟨hMR.fr (fun k => hF 282 k (by unfold SRM; omega)), hT.fr (hF _ _ (by unfold SRM; omega)) (fun j k h1 h2 => hF j k (by unfold SRM; omega)), hL.fr (hF _ _ (by unfold SRM; omega)) (fun j k h => hF j k (by unfold SRM; omega))⟩
  obtain ⟨m1, m2, m3⟩ := fr1 hF1
  have v42 : D1 281 42 = nI 0 := by rw [hD1]; simp [ud_at, nI_0]
  have v43 : D1 281 43 = oI (some w) := by rw [hD1]; simp [ud_at, oI]
  have v45 : D1 281 45 = 0 := by rw [hD1]; simp [ud_at]
  rw [m3.names, bI_d]
  refine yBV (keepsOne_ok m1 m3.lk) (fun D2 h2 => ?_)
  obtain ⟨hF2, hO⟩ := h2
  have hF3 : Fr SRM D D2 := hF1.tr (hF2.mono (fun j k q => by unfold SKO at q; unfold SRM; omega))
  have loop : ∀ (j i m : Nat) (D' : Dm), i + j = b → Fr SRM D D' → getO D' = run T c0 l → D' 281 43 = oI (some w) → (D' 281 45 = 0 ∧ shR T acc ts (run T c0 l) M i w = none ∧ ∃ ri, D' 281 42 = nI ri ∧ ri < 16 ∧ ri.testBit w = false) ∨ (D' 281 45 = 1 ∧ ∃ y, shR T acc ts (run T c0 l) M i w = some y ∧ D' 281 44 = nI y.1 ∧ y.1 < b ∧ ∀ i, i < (ts y.1).2 → D' 303 i = asv y.2 i) → Y (f_X12_shows_35 (j + 1 + m) (nI M) (nI i) D') (fun D' => Fr SRM D D' ∧ D' 281 44 = nI x.1 ∧ x.1 < b ∧ ∀ i, i < (ts x.1).2 → D' 303 i = asv x.2 i) := by
    have mono : ∀ {i k : Nat} {y : Nat × List Nat}, shR T acc ts (run T c0 l) M i w = some y → shR T acc ts (run T c0 l) M (i + k) w = some y := by
      intro i k y h
      induction k with
      | zero => exact h
      | succ k ihk => rw [← Nat.add_assoc, shR_succ, ihk]
    intro j
    induction j with
    | zero =>
      intro i m D' hi hF hO h43 hst2
      have hi : i = b := by omega
      obtain ⟨n1, n2, n3⟩ := fr1 hF
      rw [show 0 + 1 + m = m + 1 by omega]
      show Y (f_X12_shows_35_b _ _ _ _) _
      unfold f_X12_shows_35_b
      rw [n2.2.1, hi]
      rw [hi, hx] at hst2
      rcases hst2 with ⟨-, e, -⟩ | ⟨-, y, e, h1, h2, h3⟩
      · cases e
      · cases e
        exact yPos (nI_le (Nat.le_refl _) (by omega)) (yRet ⟨hF, h1, h2, h3⟩)
    | succ j ih =>
      intro i m D' hi hF hO h43 hst2
      obtain ⟨n1, n2, n3⟩ := fr1 hF
      rw [show j + 1 + 1 + m = (j + 1 + m) + 1 by omega]
      show Y (f_X12_shows_35_b _ _ _ _) _
      unfold f_X12_shows_35_b
      rw [n2.2.1]
      refine yNeg (nI_nle2 (by omega) (by omega)) ?_
      rcases hst2 with ⟨h45, hn, ri, h42, hri, hbi⟩ | ⟨h45, y, e, h1, h2, h3⟩
      · refine yPos h45 ?_
        rw [ownOf_ok n2 (show i < b by omega), bI_d]
        have hd := (n2.okT i (by omega)).1
        obtain ⟨q, hq⟩ := rf1 (ts i).2 (by omega)
        have := asks_ok (T := T) (acc := acc) (ts := ts) (b := b) (w := some w) hM hst.2 hst.1 (show i < b by omega) (ts i).2 q [] D' ri n1 n2 hO h43 hri (fun x hx => by cases hx; exact ⟨hw, hbi⟩) (by simp) (fun gs hg => hg) (fun i hi => absurd hi (Nat.not_lt_zero i)) h45 h42
        rw [show ([] : List Nat).length = 0 from rfl, nI_0] at this
        rw [hq]
        refine yBV this (fun D3 h3 => ?_)
        obtain ⟨f1, -, f2⟩ := h3
        have hF4 : Fr SRM D D3 := hF.tr (f1.mono (fun j k q => by unfold SAS at q; unfold SRM; omega))
        rw [lt_d, nI_1]
        refine ih (i + 1) m D3 (by omega) hF4 ?_ (by rw [f1 281 43 (by unfold SAS; omega)]; exact h43) ?_
        · rw [← hO]
          unfold getO
          rw [f1 _ _ (by unfold SAS; omega), f1 _ _ (by unfold SAS; omega), f1 _ _ (by unfold SAS; omega)]
        · rcases f2 with ⟨a, ⟨r2, b1, b2, b3⟩, cc⟩ | ⟨a, x', gs, hx', b2, b3, b4⟩
          · have c1 := cc w rfl
            refine Or.inl ⟨a, ?_, r2, b1, b2, ?_⟩
            · rw [shR_succ, hn]
              show Option.map _ (List.find? _ _) = none
              rw [c1]; rfl
            · rw [b3 w hw, hbi, any_find, c1]; rfl
          · cases hx'
            refine Or.inr ⟨a, (i, gs), ?_, b3, by show i < b; omega, b4⟩
            rw [shR_succ, hn]
            show Option.map _ (List.find? _ _) = _
            rw [b2]; rfl
      · refine yNeg (by rw [h45]; decide) (yRet ⟨hF, ?_⟩)
        have := mono (k := j + 1) e
        rw [show i + (j + 1) = b by omega, hx] at this
        cases this
        exact ⟨h1, h2, h3⟩
  obtain ⟨q, hq⟩ := FUs b (by omega)
  have := loop b 0 q D2 (by omega) hF3 hO (by rw [hF2 _ _ (by unfold SKO; omega)]; exact v43) (Or.inl ⟨by rw [hF2 _ _ (by unfold SKO; omega)]; exact v45, rfl, 0, by rw [hF2 _ _ (by unfold SKO; omega)]; exact v42, by omega, by simp⟩)
  rw [nI_0] at this
  rw [hq]
  exact this
end
