/-! ===== one more test, reference ===== -/
def newB (ts : Tst) (b : Nat) (w : List Lt) : Bool := (List.range b).all (fun t => !decide ((ts t).1 = w))
theorem newB_iff {ts : Tst} {b : Nat} {w : List Lt} : newB ts b w = true ↔ ∀ t, t < b → (ts t).1 ≠ w := by
  unfold newB
  rw [List.all_eq_true]
  constructor
  · intro h t ht
    have := h t (List.mem_range.mpr ht)
    rw [Bool.not_eq_true', decide_eq_false_iff_not] at this
    exact this
  · intro h t ht
    rw [Bool.not_eq_true', decide_eq_false_iff_not]
    exact h t (List.mem_range.mp ht)
def addL (ts : Tst) (b : Nat) (l : List Lt) : Tst := fun t => if t = b then (lfm l, dsL l) else ts t
theorem addL_at {ts : Tst} {b : Nat} {l : List Lt} : addL ts b l b = (lfm l, dsL l) := if_pos rfl
theorem addL_lt {ts : Tst} {b t : Nat} {l : List Lt} (h : t < b) : addL ts b l t = ts t := if_neg (by omega)
abbrev SAT0 (b j k : Nat) : Prop := (j = 293 ∨ j = 294) ∧ 6 * b ≤ k
abbrev SAT1 (b j k : Nat) : Prop := ((j = 293 ∨ j = 294) ∧ 6 * b ≤ k) ∨ (j = 281 ∧ k = 28)
abbrev SAT (b j k : Nat) : Prop := ((j = 293 ∨ j = 294) ∧ 6 * b ≤ k) ∨ j = 300 ∨ (j = 292 ∧ k = b) ∨ (j = 281 ∧ k = 28)
theorem at82 {D0 : Dm} {n b : Nat} (hn : n ≤ 6) (hb : b < 10) (h36 : D0 281 36 = nI n) (h28 : D0 281 28 = nI b) : ∀ (j i z : Nat) (D : Dm), i + j = n → Fr (SAT0 b) D0 D → (∀ k, k < i → D 293 (6 * b + k) = D0 299 k ∧ D 294 (6 * b + k) = D0 300 k) → Y (f_X12_addsTest_82 (j + 1 + z) (nI i) D) (fun r => r.1 = 1 ∧ Fr (SAT1 b) D0 r.2 ∧ r.2 281 28 = nI (b + 1) ∧ ∀ k, k < n → r.2 293 (6 * b + k) = D0 299 k ∧ r.2 294 (6 * b + k) = D0 300 k) := by
  intro j
  induction j with
  | zero =>
    intro i z D hi hF hI
    have hi : i = n := by omega
    subst hi
    rw [show 0 + 1 + z = z + 1 by omega]
    show Y (f_X12_addsTest_82_b _ _ _) _
    unfold f_X12_addsTest_82_b
    refine yPos (by rw [hF 281 36 (by unfold SAT0; omega), h36]; exact nI_le (Nat.le_refl _) (by omega)) (yLt0 (yRet ⟨rfl, ?_, ?_, fun k hk => ?_⟩))
    · exact Fr.ud (S := SAT1 b) (hF.mono (fun j k h => Or.inl h)) (Or.inr ⟨rfl, rfl⟩)
    · dsimp only
      rw [ud_at, if_pos ⟨rfl, rfl⟩, hF 281 28 (by unfold SAT0; omega), h28, nI_1]
    · dsimp only
      rw [ud_at, if_neg (by omega), ud_at, if_neg (by omega)]
      exact hI k hk
  | succ j ih =>
    intro i z D hi hF hI
    rw [show j + 1 + 1 + z = (j + 1 + z) + 1 by omega]
    show Y (f_X12_addsTest_82_b _ _ _) _
    unfold f_X12_addsTest_82_b
    have e6 : (6 : Int32) * nI b + nI i = nI (6 * b + i) := by rw [show (6 : Int32) = nI 6 from rfl, nI_mul, nI_add]
    have d28 : D 281 28 = nI b := by rw [hF 281 28 (by unfold SAT0; omega), h28]
    refine yNeg (by rw [hF 281 36 (by unfold SAT0; omega), h36]; exact nI_nle2 (by omega) (by omega)) ?_
    rw [d28, e6]
    refine yGd (inB_nI (by omega) (by omega)) (yGd (inB_nI (by omega) (by omega)) (yLt0 ?_))
    rw [nI_clamp (show i < 2 ^ 31 by omega), nI_clamp (show 6 * b + i < 2 ^ 31 by omega)]
    refine yGd (inB_nI (by omega) (by omega)) ?_
    have d28' : ∀ v, (ud D 293 (6 * b + i) v) 281 28 = nI b := fun v => by rw [ud_at, if_neg (by omega), d28]
    rw [d28', e6]
    refine yGd (inB_nI (by omega) (by omega)) (yLt0 (yLt0 ?_))
    rw [nI_1, nI_clamp (by omega)]
    refine ih (i + 1) z _ (by omega) ((hF.ud ⟨Or.inl rfl, by omega⟩).ud ⟨Or.inr rfl, by omega⟩) (fun k hk => ?_)
    by_cases e : k = i
    · rw [e, ud_at, if_neg (by omega), ud_at, if_pos ⟨rfl, rfl⟩, ud_at, if_pos ⟨rfl, rfl⟩, ud_at, if_neg (by omega), hF 299 i (by unfold SAT0; omega), hF 300 i (by unfold SAT0; omega)]
      exact ⟨rfl, rfl⟩
    · rw [ud_at, if_neg (by omega), ud_at, if_neg (by omega), ud_at, if_neg (by omega), ud_at, if_neg (by omega)]
      exact hI k (by omega)
def ATQ (D0 : Dm) (b n : Nat) (ok : Bool) (r : Int32 × Dm) : Prop := r.1 = b01 ok ∧ (ok = false → Fr S3h D0 r.2) ∧ (ok = true → Fr (SAT b) D0 r.2 ∧ r.2 281 28 = nI (b + 1) ∧ r.2 292 b = nI n ∧ ∀ k, k < n → r.2 293 (6 * b + k) = D0 299 k ∧ r.2 294 (6 * b + k) = D0 300 k)
theorem at43 {D : Dm} {ts : Tst} {b M : Nat} {w : List Lt} (hT : TR D ts b) (hb : b < 10) (hK : LKm D w M) (h6 : w.length ≤ 6) : ∀ (j i z : Nat), i + j = b → (∀ t, t < i → (ts t).1 ≠ w) → Y (f_X12_addsTest_43 (j + 1 + z) (nI i) D) (ATQ D b w.length (newB ts b w)) := by
  obtain ⟨n, n40, h36, hw, -⟩ := id hK
  have hwn : w.length = n := by rw [hw, lts_len]
  have h28 := hT.2.1
  intro j
  induction j with
  | zero =>
    intro i z hi hI
    have hi : i = b := by omega
    subst hi
    rw [show 0 + 1 + z = z + 1 by omega]
    show Y (f_X12_addsTest_43_b _ _ _) _
    unfold f_X12_addsTest_43_b
    refine yPos (by rw [h28]; exact nI_le (Nat.le_refl _) (by omega)) ?_
    rw [h28]
    refine yGd (inB_nI (by omega) (by omega)) (yLt0 ?_)
    rw [nI_clamp (by omega), h36]
    obtain ⟨q, hq⟩ := FUs n (by omega)
    rw [hq, ← nI_0]
    refine yMono (at82 (D0 := ud D 292 i (nI n)) (n := n) (b := i) (by omega) hb (by rw [ud_at, if_neg (by omega), h36]) (by rw [ud_at, if_neg (by omega), h28]) n 0 q _ (by omega) Fr.refl (fun k hk => absurd hk (Nat.not_lt_zero k))) (fun r hr => ?_)
    obtain ⟨r1, r2, r3, r4⟩ := hr
    have nb : newB ts i w = true := newB_iff.mpr hI
    rw [nb]
    refine ⟨r1, (fun h => by cases h), fun _ => ⟨?_, r3, ?_, fun k hk => ?_⟩⟩
    · intro j k h
      rw [r2 j k (fun q => h (q.elim Or.inl (fun q => Or.inr (Or.inr (Or.inr q))))), ud_at, if_neg (fun q => h (by rw [q.1, q.2]; exact Or.inr (Or.inr (Or.inl ⟨rfl, rfl⟩))))]
    · rw [r2 292 i (by unfold SAT1; omega), ud_at, if_pos ⟨rfl, rfl⟩, hwn]
    · have := r4 k (by omega)
      rw [ud_at, if_neg (by omega), ud_at, if_neg (by omega)] at this
      exact this
  | succ j ih =>
    intro i z hi hI
    rw [show j + 1 + 1 + z = (j + 1 + z) + 1 by omega]
    show Y (f_X12_addsTest_43_b _ _ _) _
    unfold f_X12_addsTest_43_b
    refine yNeg (by rw [h28]; exact nI_nle2 (by omega) (by omega)) ?_
    rw [isTest_ok hT (by omega) hK, bI_d]
    by_cases c : (ts i).1 = w
    · rw [decide_eq_true c]
      refine yNeg (by decide) (yRet ?_)
      have nb : newB ts b w = false := by
        rw [Bool.eq_false_iff]
        intro h
        exact newB_iff.mp h i (by omega) c
      rw [nb]
      exact ⟨rfl, fun _ => Fr.refl, fun h => by cases h⟩
    · rw [decide_eq_false c]
      refine yPos (by decide) (yLt0 ?_)
      rw [nI_1]
      refine ih (i + 1) z (by omega) (fun t ht => ?_)
      by_cases e : t = i
      · rw [e]; exact c
      · exact hI t (by omega)
/-- what addsTest answers and leaves -/
def okA (ts : Tst) (b : Nat) (l : List Lt) : Bool := decide (b < 10) && decide (l.length ≤ 6) && decide (dsL l ≤ 3) && newB ts b (lfm l)
theorem addsTest_ok {D : Dm} {ts : Tst} {b M : Nat} {l : List Lt} (hT : TR D ts b) (hK : LKm D l M) : Y (f_X12_addsTest D) (fun r => r.1 = b01 (okA ts b l) ∧ (okA ts b l = false → Fr S3h D r.2) ∧ (okA ts b l = true → Fr (SAT b) D r.2 ∧ TR r.2 (addL ts b l) (b + 1))) := by
  obtain ⟨n, n40, h36, hl, hnm, hM⟩ := id hK
  have hln : l.length = n := by rw [hl, lts_len]
  have hb10 := hT.1
  have h28 := hT.2.1
  unfold f_X12_addsTest
  refine yBV (leasts_ok (D0 := D) (f := D 300) (n := n) n40 h36 (fun k hk => ?_) (fun k hk => rfl)) (fun D1 h1 => ?_)
  · obtain ⟨j, hj, e⟩ := (hnm k hk).2
    exact ⟨j, by omega, e⟩
  obtain ⟨F1, N1⟩ := h1
  have e28 : D1 281 28 = nI b := by rw [F1 281 28 (by omega), h28]
  have e36 : D1 281 36 = nI n := by rw [F1 281 36 (by omega), h36]
  have hlf : lfm l = lts (D 299) (fun k => nI (lsf (D 300) k)) 0 n := by rw [hl, lfm_lts]
  have hds : dsL l = dsf (D 300) n := by rw [hl, dsL_lts]
  have hT1 : TR D1 ts b := hT.fr (F1 281 28 (by omega)) (fun j k q1 q2 => F1 j k (by omega))
  have no : okA ts b l = false → Y (some ((0 : Int32), D1)) (fun r => r.1 = b01 (okA ts b l) ∧ (okA ts b l = false → Fr S3h D r.2) ∧ (okA ts b l = true → Fr (SAT b) D r.2 ∧ TR r.2 (addL ts b l) (b + 1))) := fun h => by
    refine yRet ?_
    rw [h]
    exact ⟨rfl, fun _ => F1, fun h => by cases h⟩
  by_cases c1 : b < 10
  · refine yNeg (by rw [e28]; exact fun h => absurd (nI_inj (by omega) (by omega) (show nI b = nI 10 from h)) (by omega)) ?_
    by_cases c2 : n ≤ 6
    · refine yNeg (by rw [e36]; exact nI_nlt (a := 6) (b := n) c2 (by omega)) ?_
      have lb : ∀ k, k < n → lsf (D 300) k < 1000 := fun k hk => by have := lsf_le (D 300) k; omega
      rw [e36]
      refine yBIe (namesOf_ok (r1 := 300) (n1 := 40) (p := 0) (n := n) (g := lsf (D 300)) (by omega) (by omega) (fun k hk => ⟨lb k hk, by rw [Nat.zero_add]; exact N1 k hk⟩)) ?_
      rw [mxf_ls]
      by_cases c3 : dsf (D 300) n ≤ 3
      · refine yPos (show nI (dsf (D 300) n) ≤ nI 3 from nI_le c3 (by omega)) ?_
        have hK1 : LKm D1 (lfm l) (dsL l) := by
          refine ⟨n, n40, e36, ?_, fun k hk => ⟨?_, lsf (D 300) k, lb k hk, N1 k hk⟩, ?_⟩
          · rw [hlf]
            exact lts_congr (fun k _ hk => ⟨(F1 299 k (by omega)).symm, (N1 k (by omega)).symm⟩)
          · rw [F1 299 k (by omega)]; exact (hnm k hk).1
          · rw [hds, ← mxf_ls]
            exact mxf_congr (fun k hk => by rw [N1 k hk, nI_cl (by have := lb k hk; omega)])
        have hok : okA ts b l = newB ts b (lfm l) := by
          unfold okA
          rw [decide_eq_true c1, decide_eq_true (show l.length ≤ 6 by omega), decide_eq_true (show dsL l ≤ 3 by rw [hds]; exact c3)]
          rfl
        obtain ⟨q, hq⟩ := FUs b (by omega)
        rw [hq, ← nI_0]
        refine yMono (at43 hT1 c1 hK1 (by rw [lfm_len]; omega) b 0 q (by omega) (fun t ht => absurd ht (Nat.not_lt_zero t))) (fun r hr => ?_)
        obtain ⟨r1, r2, r3⟩ := hr
        rw [hok]
        refine ⟨r1, fun h => F1.tr (r2 h), fun h => ?_⟩
        obtain ⟨g1, g2, g3, g4⟩ := r3 h
        have G : Fr (SAT b) D r.2 := Fr.tr (F1.mono (fun j k h => Or.inr (Or.inl h))) g1
        rw [lfm_len, hln] at g3 g4
        refine ⟨G, by omega, g2, fun t ht => ?_⟩
        by_cases e : t = b
        · subst e
          rw [addL_at]
          refine ⟨n, c2, g3, ?_, by rw [hds]; exact c3, fun k hk => ?_, ?_⟩
          · show lfm l = _
            rw [hlf]
            exact lts_congr (fun k _ hk => ⟨by rw [(g4 k (by omega)).1, F1 299 k (by omega)], by rw [(g4 k (by omega)).2, N1 k (by omega)]⟩)
          · obtain ⟨a1, a2⟩ := g4 k hk
            rw [a1, a2, F1 299 k (by omega), N1 k hk]
            exact ⟨(hnm k hk).1, lsf (D 300) k, by show _ < dsL l; rw [hds]; exact lsf_lt hk, rfl⟩
          · show dsL l = _
            rw [hds, ← mxf_ls]
            exact mxf_congr (fun k hk => by rw [(g4 k hk).2, N1 k hk, nI_cl (by have := lb k hk; omega)])
        · rw [addL_lt (by omega)]
          obtain ⟨m, m6, b2, b3, b4, b5, b6⟩ := hT.2.2 t (by omega)
          have q3 : ∀ k, k < m → r.2 293 (6 * t + k) = D 293 (6 * t + k) ∧ r.2 294 (6 * t + k) = D 294 (6 * t + k) := fun k hk => ⟨G _ _ (by unfold SAT; omega), G _ _ (by unfold SAT; omega)⟩
          refine ⟨m, m6, by rw [G 292 t (by unfold SAT; omega), b2], ?_, b4, fun k hk => ?_, ?_⟩
          · rw [b3]
            exact lts_congr (fun k _ hk => ⟨(q3 k (by omega)).1.symm, (q3 k (by omega)).2.symm⟩)
          · rw [(q3 k hk).1, (q3 k hk).2]; exact b5 k hk
          · rw [b6]
            exact mxf_congr (fun k hk => by rw [(q3 k hk).2])
      · refine yNeg (show ¬ nI (dsf (D 300) n) ≤ nI 3 from nI_nle2 (by omega) (by have := dsf_le (D 300) n; omega)) (no ?_)
        unfold okA
        rw [decide_eq_false (show ¬ dsL l ≤ 3 by rw [hds]; exact c3), Bool.and_false, Bool.false_and]
    · refine yPos (by rw [e36]; exact nI_lt (a := 6) (b := n) (by omega) (by omega)) (no ?_)
      unfold okA
      rw [decide_eq_false (show ¬ l.length ≤ 6 by omega), Bool.and_false, Bool.false_and, Bool.false_and]
  · refine yPos (by rw [e28, show b = 10 by omega]; rfl) (no ?_)
    unfold okA
    rw [decide_eq_false c1, Bool.false_and, Bool.false_and, Bool.false_and]
