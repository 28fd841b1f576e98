/-! ===== one more short word, reference ===== -/
abbrev SAU0 (a j k : Nat) : Prop := (j = 290 ∨ j = 291) ∧ 6 * a ≤ k
abbrev SAU1 (a j k : Nat) : Prop := ((j = 290 ∨ j = 291) ∧ 6 * a ≤ k) ∨ (j = 281 ∧ k = 27)
abbrev SAU (a j k : Nat) : Prop := ((j = 290 ∨ j = 291) ∧ 6 * a ≤ k) ∨ j = 299 ∨ j = 300 ∨ (j = 289 ∧ k = a) ∨ (j = 281 ∧ (k = 27 ∨ k = 36))
abbrev STL (j k : Nat) : Prop := j = 299 ∨ j = 300 ∨ (j = 281 ∧ k = 36)
theorem au68 {D0 : Dm} {n a : Nat} (hn : n ≤ 6) (ha : a < 10) (h36 : D0 281 36 = nI n) (h27 : D0 281 27 = nI a) : ∀ (j i z : Nat) (D : Dm), i + j = n → Fr (SAU0 a) D0 D → (∀ k, k < i → D 290 (6 * a + k) = D0 299 k ∧ D 291 (6 * a + k) = D0 300 k) → Y (f_X12_addsShort_68 (j + 1 + z) (nI i) D) (fun r => r.1 = 1 ∧ Fr (SAU1 a) D0 r.2 ∧ r.2 281 27 = nI (a + 1) ∧ ∀ k, k < n → r.2 290 (6 * a + k) = D0 299 k ∧ r.2 291 (6 * a + k) = D0 300 k) := by
  intro j
  induction j with
  | zero =>
    intro i z D hi hF hI
    have hi : i = n := by omega
    subst hi
    rw [show 0 + 1 + z = z + 1 by omega]
    show Y (f_X12_addsShort_68_b _ _ _) _
    unfold f_X12_addsShort_68_b
    refine yPos (by rw [hF 281 36 (by unfold SAU0; omega), h36]; exact nI_le (Nat.le_refl _) (by omega)) (yLt0 (yRet ⟨rfl, ?_, ?_, fun k hk => ?_⟩))
    · exact Fr.ud (S := SAU1 a) (hF.mono (fun j k h => Or.inl h)) (Or.inr ⟨rfl, rfl⟩)
    · dsimp only
      rw [ud_at, if_pos ⟨rfl, rfl⟩, hF 281 27 (by unfold SAU0; omega), h27, nI_1]
    · dsimp only
      rw [ud_at, if_neg (by omega), ud_at, if_neg (by omega)]
      exact hI k hk
  | succ j ih =>
    intro i z D hi hF hI
    rw [show j + 1 + 1 + z = (j + 1 + z) + 1 by omega]
    show Y (f_X12_addsShort_68_b _ _ _) _
    unfold f_X12_addsShort_68_b
    have e6 : (6 : Int32) * nI a + nI i = nI (6 * a + i) := by rw [show (6 : Int32) = nI 6 from rfl, nI_mul, nI_add]
    have d27 : D 281 27 = nI a := by rw [hF 281 27 (by unfold SAU0; omega), h27]
    refine yNeg (by rw [hF 281 36 (by unfold SAU0; omega), h36]; exact nI_nle2 (by omega) (by omega)) ?_
    rw [d27, e6]
    refine yGd (inB_nI (by omega) (by omega)) (yGd (inB_nI (by omega) (by omega)) (yLt0 ?_))
    rw [nI_clamp (show i < 2 ^ 31 by omega), nI_clamp (show 6 * a + i < 2 ^ 31 by omega)]
    refine yGd (inB_nI (by omega) (by omega)) ?_
    have d27' : ∀ v, (ud D 290 (6 * a + i) v) 281 27 = nI a := fun v => by rw [ud_at, if_neg (by omega), d27]
    rw [d27', e6]
    refine yGd (inB_nI (by omega) (by omega)) (yLt0 (yLt0 ?_))
    rw [nI_1, nI_clamp (by omega)]
    refine ih (i + 1) z _ (by omega) ((hF.ud ⟨Or.inl rfl, by omega⟩).ud ⟨Or.inr rfl, by omega⟩) (fun k hk => ?_)
    by_cases e : k = i
    · rw [e, ud_at, if_neg (by omega), ud_at, if_pos ⟨rfl, rfl⟩, ud_at, if_pos ⟨rfl, rfl⟩, ud_at, if_neg (by omega), hF 299 i (by unfold SAU0; omega), hF 300 i (by unfold SAU0; omega)]
      exact ⟨rfl, rfl⟩
    · rw [ud_at, if_neg (by omega), ud_at, if_neg (by omega), ud_at, if_neg (by omega), ud_at, if_neg (by omega)]
      exact hI k (by omega)
def okU (a : Nat) (l : List Lt) : Bool := decide (a < 10) && decide (l.length ≤ 6) && decide (dsL l ≤ 3)
theorem addsShort_ok {D : Dm} {ss : Tst} {a u k : Nat} {y : Int32} (hS : SR D ss a) (hu : u < a) (hy : isSy y) (hk : k < 1000) (h56 : D 281 56 = nI u) (h57 : D 281 57 = y) (h58 : D 281 58 = nI k) (hlf : lfm ((ss u).1 ++ [(y, nI k)]) = (ss u).1 ++ [(y, nI k)]) (hds : dsL ((ss u).1 ++ [(y, nI k)]) = lgM (ss u).2 k) :
    Y (f_X12_addsShort D) (fun r => r.1 = b01 (okU a ((ss u).1 ++ [(y, nI k)])) ∧ (okU a ((ss u).1 ++ [(y, nI k)]) = false → Fr STL D r.2) ∧ (okU a ((ss u).1 ++ [(y, nI k)]) = true → Fr (SAU a) D r.2 ∧ SR r.2 (addL ss a ((ss u).1 ++ [(y, nI k)])) (a + 1))) := by
  have ha := hS.1
  unfold f_X12_addsShort
  rw [h56, h57, h58]
  refine yBV (takesLong_ok hS hu hy hk) (fun D1 h1 => ?_)
  obtain ⟨F1, hK⟩ := h1
  generalize hl0 : (ss u).1 ++ [(y, nI k)] = l at *
  obtain ⟨n, n40, h36, hl, hnm, hM⟩ := id hK
  have hln : l.length = n := by rw [hl, lts_len]
  have e27 : D1 281 27 = nI a := by rw [F1 281 27 (by omega), hS.2.1]
  have no : okU a l = false → Y (some ((0 : Int32), D1)) (fun r => r.1 = b01 (okU a l) ∧ (okU a l = false → Fr STL D r.2) ∧ (okU a l = true → Fr (SAU a) D r.2 ∧ SR r.2 (addL ss a l) (a + 1))) := fun h => by
    refine yRet ?_
    rw [h]
    exact ⟨rfl, fun _ => F1, fun h => by cases h⟩
  by_cases c1 : a < 10
  · refine yNeg (by rw [e27]; exact fun h => absurd (nI_inj (by omega) (by omega) (show nI a = nI 10 from h)) (by omega)) ?_
    by_cases c2 : n ≤ 6
    · refine yNeg (by rw [h36]; exact nI_nlt (a := 6) (b := n) c2 (by omega)) ?_
      rw [h36]
      refine yBIe (namesOf_ok (r1 := 300) (n1 := 40) (p := 0) (n := n) (g := fun k => (D1 300 k).toNatClampNeg) (by omega) (by omega) (fun k hk => ?_)) ?_
      · obtain ⟨j, hj, e⟩ := (hnm k hk).2
        rw [Nat.zero_add, e, nI_cl (by omega)]
        exact ⟨hj, rfl⟩
      rw [← hM, ← hds]
      have hMb : dsL l ≤ 6 := by
        have := dsf_le (lnms l) l.length
        unfold dsL; omega
      by_cases c3 : dsL l ≤ 3
      · refine yPos (show nI (dsL l) ≤ nI 3 from nI_le c3 (by omega)) ?_
        have hok : okU a l = true := by
          unfold okU
          rw [decide_eq_true c1, decide_eq_true (show l.length ≤ 6 by omega), decide_eq_true c3]; rfl
        rw [e27, h36]
        refine yGd (inB_nI (by omega) (by omega)) (yLt0 ?_)
        rw [nI_clamp (by omega)]
        obtain ⟨q, hq⟩ := FUs n (by omega)
        rw [hq, ← nI_0]
        refine yMono (au68 (D0 := ud D1 289 a (nI n)) (n := n) (a := a) c2 c1 (by rw [ud_at, if_neg (by omega), h36]) (by rw [ud_at, if_neg (by omega), e27]) n 0 q _ (by omega) Fr.refl (fun k hk => absurd hk (Nat.not_lt_zero k))) (fun r hr => ?_)
        obtain ⟨r1, r2, r3, r4⟩ := hr
        rw [hok]
        refine ⟨r1, (fun h => by cases h), fun _ => ?_⟩
        have G : Fr (SAU a) D r.2 := fun j k h => by
          unfold SAU at h
          rw [r2 j k (by unfold SAU1; omega), ud_at, if_neg (by omega), F1 j k (by omega)]
        have g3 : r.2 289 a = nI n := by rw [r2 289 a (by unfold SAU1; omega), ud_at, if_pos ⟨rfl, rfl⟩]
        have g4 : ∀ k, k < n → r.2 290 (6 * a + k) = D1 299 k ∧ r.2 291 (6 * a + k) = D1 300 k := fun k hk => by
          have := r4 k hk
          rw [ud_at, if_neg (by omega), ud_at, if_neg (by omega)] at this
          exact this
        refine ⟨G, ⟨by omega, by omega⟩, r3, fun v hv => ?_⟩
        by_cases e : v = a
        · subst e
          rw [addL_at]
          refine ⟨n, c2, g3, ?_, c3, fun k hk => ?_, ?_⟩
          · show lfm l = _
            rw [hlf, hl]
            exact lts_congr (fun k _ hk => ⟨(g4 k (by omega)).1.symm, (g4 k (by omega)).2.symm⟩)
          · obtain ⟨a1, a2⟩ := g4 k hk
            obtain ⟨b1, j, hj, b2⟩ := hnm k hk
            rw [a1, a2]
            refine ⟨b1, j, ?_, b2⟩
            show j < dsL l
            rw [hds, hM]
            have := mxf_gt (g := fun k => (D1 300 k).toNatClampNeg) hk
            rw [b2, nI_cl (by omega)] at this
            exact this
          · show dsL l = _
            rw [hds, hM]
            exact mxf_congr (fun k hk => by rw [(g4 k hk).2])
        · rw [addL_lt (by omega)]
          obtain ⟨m, m6, b2, b3, b4, b5, b6⟩ := hS.2.2 v (by omega)
          have q3 : ∀ k, k < m → r.2 290 (6 * v + k) = D 290 (6 * v + k) ∧ r.2 291 (6 * v + k) = D 291 (6 * v + k) := fun k hk => ⟨G _ _ (by unfold SAU; omega), G _ _ (by unfold SAU; omega)⟩
          refine ⟨m, m6, by rw [G 289 v (by unfold SAU; omega), b2], ?_, b4, fun k hk => ?_, ?_⟩
          · rw [b3]
            exact lts_congr (fun k _ hk => ⟨(q3 k (by omega)).1.symm, (q3 k (by omega)).2.symm⟩)
          · rw [(q3 k hk).1, (q3 k hk).2]; exact b5 k hk
          · rw [b6]
            exact mxf_congr (fun k hk => by rw [(q3 k hk).2])
      · refine yNeg (show ¬ nI (dsL l) ≤ nI 3 from nI_nle2 (by omega) (by omega)) (no ?_)
        unfold okU
        rw [decide_eq_false c3, Bool.and_false]
    · refine yPos (by rw [h36]; exact nI_lt (a := 6) (b := n) (by omega) (by omega)) (no ?_)
      unfold okU
      rw [decide_eq_false (show ¬ l.length ≤ 6 by omega), Bool.and_false, Bool.false_and]
  · refine yPos (by rw [e27, show a = 10 by omega]; rfl) (no ?_)
    unfold okU
    rw [decide_eq_false c1, Bool.false_and, Bool.false_and]
