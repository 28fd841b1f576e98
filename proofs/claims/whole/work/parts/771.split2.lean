/-! ===== both find the split ===== -/
section
variable {E H : Dm} {T : Tb} {acc : Int32} {ts ss : Tst} {b a Z : Nat} {w : List Lt}
theorem fst1_is {P : Nat → Bool} {n s : Nat} (hs : s < n) (h1 : P s = true) (h2 : ∀ q, q < s → P q = false) : fst1 P n = some s := by
  unfold fst1
  rw [List.find?_range_eq_some]
  exact ⟨h1, List.mem_range.mpr hs, fun q hq => by rw [h2 q hq]; rfl⟩
theorem fst1_pre {P : Nat → Bool} {n s : Nat} (h : fst1 P n = some s) : ∀ q, q < s → P q = false := by
  unfold fst1 at h
  rw [List.find?_range_eq_some] at h
  intro q hq
  have := h.2.2 q hq
  simpa using this
theorem hyp_fr {D D' : Dm} (h : ∀ j k, 57 ≤ j → j ≤ 59 → D' j k = D j k) : hyp D' = hyp D := by
  unfold hyp
  have e : ∀ j, 57 ≤ j → j ≤ 59 → D' j = D j := fun j q1 q2 => funext (fun k => h j k q1 q2)
  rw [e 57 (by omega) (by omega), e 58 (by omega) (by omega), e 59 (by omega) (by omega)]
theorem LTR.sy (hZ : Z ≤ 2) (h : LTR Z w) : ∀ x ∈ w, isSy x.1 := fun x hx => by
  obtain ⟨y, k, hy, hk, e⟩ := h x hx
  rw [e]; exact isSy_n (by omega)
theorem tmx (h : LCs E T acc ts b ss a) (hP : PS E T acc ts b ss a) (hW : WD E w) (hZ : Z ≤ 2) (hL : LTR Z w) (hH : hyp E = hyp H) (hX : PFX H T acc ts b ss a w) {i : Nat} (hi : i ≤ w.length) : Y (f_X3_takesMixed (nI i) E) (fun r => r.1 = b01 (mxA H T acc ts b ss w i) ∧ Fr (fun j k => 72 ≤ j ∧ j ≤ 75) E r.2) := by
  have ha := h.2.2.1
  obtain ⟨hu, hc, hr, ho⟩ := pf_ok hX ha.2 hi
  have := takesMixed_ok h hP hW (hL.sy hZ) (fun p hp => by
    rw [hH]
    obtain ⟨u, hu, q1, -⟩ := hX p hp
    exact Or.inr ⟨u, by omega, q1⟩) hu hi (c := pfc H w i) (by rw [hH]; rfl) hc
  have mb := mix_base (T := T) (acc := acc) (ku := kpN T acc ts b (cu T ss (pfu H w i))) (l := (ss (pfu H w i)).1) (rest := w.drop i) (c := pfc H w i) ho (fun x hx => by
    have hd := (h.2.2.sy hu).1
    obtain ⟨-, k, hk, e⟩ := (h.2.2.sy hu).2.2 x hx
    exact ⟨k, by omega, e⟩) (fun x hx => by
    obtain ⟨y, k, hy, hk, e⟩ := hL x (List.mem_of_mem_drop hx)
    exact ⟨k, hk, by rw [e]⟩)
  rw [mb] at this
  exact this
abbrev S85 (j k : Nat) : Prop := (72 ≤ j ∧ j ≤ 75) ∨ (j = 43 ∧ k = 14)
theorem WD.fr {D : Dm} (h : WD E w) (hF : ∀ j k, (j = 60 ∨ j = 61 ∨ j = 62) → D j k = E j k) : WD D w := ⟨h.1, by rw [hF _ _ (by omega)]; exact h.2.1, fun p hp => by rw [hF _ _ (by omega), hF _ _ (by omega)]; exact h.2.2 p hp⟩
theorem th85 (h : LCs E T acc ts b ss a) (hP : PS E T acc ts b ss a) (hW : WD E w) (hZ : Z ≤ 2) (hL : LTR Z w) (hH : hyp E = hyp H) (hX : PFX H T acc ts b ss a w) {s0 : Nat} (hs0 : spS H T acc ts b ss w = some s0) {Q : Dm → Prop} (hk : ∀ D, Fr S85 E D → D 43 14 = nI s0 → Y (f_X3_tryHypothesis_126 D) Q) : ∀ (j s m : Nat) (D : Dm), s + j = w.length → Fr S85 E D → ((D 43 14 = -1 ∧ s ≤ s0) ∨ (D 43 14 = nI s0 ∧ s = s0 + 1)) → Y (f_X3_tryHypothesis_85 (j + 1 + m) (b01 (mxA H T acc ts b ss w 0)) (nI s) D) Q := by
  have ha := h.2.2.1
  have w20 := hW.1
  have hl0 : s0 < w.length := fst1_lt hs0
  have p0 := fst1_pre hs0
  have t0 := fst1_some hs0
  intro j
  induction j with
  | zero =>
    intro s m D hs hF hc
    have hs : s = w.length := by omega
    have hWD := hW.fr (D := D) (fun j k q => hF j k (by unfold S85; omega))
    rw [show 0 + 1 + m = m + 1 by omega]
    show Y (f_X3_tryHypothesis_85_b _ _ _ _) _
    unfold f_X3_tryHypothesis_85_b
    rw [hWD.2.1]
    refine yPos (by rw [hs]; exact nI_le (Nat.le_refl _) (by omega)) (hk D hF ?_)
    rcases hc with ⟨-, q⟩ | ⟨q, -⟩
    · omega
    · exact q
  | succ j ih =>
    intro s m D hs hF hc
    have hsl : s < w.length := by omega
    have hWD := hW.fr (D := D) (fun j k q => hF j k (by unfold S85; omega))
    have hD : LCs D T acc ts b ss a := h.fr (fun j k q => hF j k (by unfold S85; omega))
    have hPD : PS D T acc ts b ss a := hP.fr ha.2 (fun j k q1 q2 q3 => hF j k (by unfold S85; omega))
    have hHD : hyp D = hyp H := (hyp_fr (fun j k q1 q2 => hF j k (by unfold S85; omega))).trans hH
    rw [show j + 1 + 1 + m = (j + 1 + m) + 1 by omega]
    show Y (f_X3_tryHypothesis_85_b _ _ _ _) _
    unfold f_X3_tryHypothesis_85_b f_X3_tryHypothesis_120
    rw [hWD.2.1]
    refine yNeg (nI_nle2 (by omega) (by omega)) ?_
    rcases hc with ⟨e14, q⟩ | ⟨e14, q⟩
    · refine yPos e14 ?_
      rw [nI_1]
      refine yBI (tmx hD hPD hWD hZ hL hHD hX (show s + 1 ≤ w.length by omega)) (fun r D1 h1 => ?_)
      dsimp only at h1
      obtain ⟨er, hF1⟩ := h1
      have hF2 : Fr S85 E D1 := hF.tr (hF1.mono (fun j k q => by unfold S85; omega))
      rw [er]
      simp only [lt_d, nI_1]
      by_cases c : s = s0
      · have ne : mxA H T acc ts b ss w (s + 1) ≠ mxA H T acc ts b ss w 0 := by rw [c]; simpa using t0
        refine yNeg (fun e => ne ?_) (ih (s + 1) m _ (by omega) (hF2.ud (by unfold S85; omega)) (Or.inr ⟨?_, by omega⟩))
        · cases h1 : mxA H T acc ts b ss w (s + 1) <;> cases h2 : mxA H T acc ts b ss w 0 <;> rw [h1, h2] at e <;> first | rfl | exact absurd e (by decide)
        · rw [ud_at, if_pos ⟨rfl, rfl⟩, c]
      · have eq : mxA H T acc ts b ss w (s + 1) = mxA H T acc ts b ss w 0 := by simpa using p0 s (by omega)
        refine yPos (by rw [eq]) (ih (s + 1) m D1 (by omega) hF2 (Or.inl ⟨?_, by omega⟩))
        rw [hF1 _ _ (by omega)]; exact e14
    · refine yNeg (by rw [e14]; exact nI_n1 (by omega)) (hk D hF e14)
/-- what is proposed: the rest of the word -/
theorem th126 (hW : WD E w) {s0 : Nat} (h14 : E 43 14 = nI s0) (hs : s0 < w.length) : Y (f_X3_tryHypothesis_126 E) (fun D' => Fr (fun j k => 68 ≤ j ∧ j ≤ 71) E D' ∧ PWd D' (w.drop (s0 + 1))) := by
  have w20 := hW.1
  obtain ⟨c1, c2, c3⟩ := PWd_clear (D := E)
  unfold f_X3_tryHypothesis_126
  rw [c1, bV_d, lt_d, c3 43 14 (by omega), h14, nI_1]
  have loop : ∀ (j p m : Nat) (D : Dm) (l : List Lt), p + j = w.length → Fr (fun j k => 68 ≤ j ∧ j ≤ 71) E D → PWd D l → l ++ w.drop p = w.drop (s0 + 1) → Y (f_X3_tryHypothesis_140 (j + 1 + m) (nI p) D) (fun D' => Fr (fun j k => 68 ≤ j ∧ j ≤ 71) E D' ∧ PWd D' (w.drop (s0 + 1))) := by
    intro j
    induction j with
    | zero =>
      intro p m D l hp hF hK hl
      have hp : p = w.length := by omega
      have hWD := hW.fr (D := D) (fun j k q => hF j k (by omega))
      rw [show 0 + 1 + m = m + 1 by omega]
      show Y (f_X3_tryHypothesis_140_b _ _ _) _
      unfold f_X3_tryHypothesis_140_b
      rw [hWD.2.1]
      rw [hp, List.drop_length, List.append_nil] at hl
      exact yPos (by rw [hp]; exact nI_le (Nat.le_refl _) (by omega)) (yRet ⟨hF, by rw [← hl]; exact hK⟩)
    | succ j ih =>
      intro p m D l hp hF hK hl
      have hpl : p < w.length := by omega
      have hWD := hW.fr (D := D) (fun j k q => hF j k (by omega))
      rw [show j + 1 + 1 + m = (j + 1 + m) + 1 by omega]
      show Y (f_X3_tryHypothesis_140_b _ _ _) _
      unfold f_X3_tryHypothesis_140_b
      rw [hWD.2.1]
      refine yNeg (nI_nle2 (by omega) (by omega)) (yGd (inB_nI (by omega) (by omega)) (yGd (inB_nI (by omega) (by omega)) ?_))
      rw [nI_clamp (by omega), (hWD.2.2 p hpl).1, (hWD.2.2 p hpl).2]
      have l20 : l.length < 20 := by
        have : (l ++ w.drop p).length = l.length + (w.length - p) := by rw [List.length_append, List.length_drop]
        rw [hl, List.length_drop] at this; omega
      obtain ⟨a1, a2, a3⟩ := PWd_add (s := (w.getD p (0, 0)).1) (nm := (w.getD p (0, 0)).2) hK l20
      rw [a1, bV_d, lt_d, nI_1]
      refine ih (p + 1) m _ _ (by omega) (hF.tr a3) a2 ?_
      rw [← hl, drop_s hpl, List.append_assoc]; rfl
  obtain ⟨z, hz⟩ := FUs (w.length - (s0 + 1)) (by omega)
  rw [hz]
  exact loop (w.length - (s0 + 1)) (s0 + 1) z _ [] (by omega) c3 c2 rfl
abbrev SSP (j k : Nat) : Prop := SMG j k ∨ (j = 281 ∧ k = 65)
/-- the reference finds it too -/
theorem splits0_ok (h : STN E T acc ts b ss a Z) (hZ : Z ≤ 2) (hZ1 : 1 ≤ Z) (hB : TBL H T acc ts b ss a Z (fun _ _ _ => True)) (hW : WR E w) (hL : LTR Z w) (hX : PFX H T acc ts b ss a w) {s0 : Nat} (hs0 : spS H T acc ts b ss w = some s0) : Y (f_X12_splits0 E) (fun D' => Fr SSP E D' ∧ D' 281 65 = nI s0) := by
  have ha := h.1.2.2.1.1
  have w20 := hW.1
  have hl0 : s0 < w.length := fst1_lt hs0
  have p0 := fst1_pre hs0
  have t0 := fst1_some hs0
  have m0 : ∀ s, s ≤ s0 → mxA H T acc ts b ss w s = mxA H T acc ts b ss w 0 := fun s hs => by
    cases s with
    | zero => rfl
    | succ s => simpa using p0 s (by omega)
  have loop : ∀ (j s m : Nat) (D : Dm), s + j = s0 → Fr SSP E D → D 281 65 = nI s → Y (f_X12_splits0_5 (j + 1 + m) D) (fun D' => Fr SSP E D' ∧ D' 281 65 = nI s0) := by
    intro j
    have step1 : ∀ (s : Nat) (D : Dm), s ≤ w.length → Fr SSP E D → Y (f_X12_isMixedGood (nI s) D) (fun r => r.1 = b01 (mxA H T acc ts b ss w s) ∧ Fr SMG D r.2) := fun s D hs hF => by
      have hD : STN D T acc ts b ss a Z := h.fr (fun j k q => hF j k (by unfold SSP SMG; omega))
      have hWD : WR D w := ⟨hW.1, by rw [hF _ _ (by unfold SSP SMG; omega)]; exact hW.2.1, fun p hp => by rw [hF _ _ (by unfold SSP SMG; omega), hF _ _ (by unfold SSP SMG; omega)]; exact hW.2.2 p hp⟩
      obtain ⟨hu, hc, -, -⟩ := pf_ok hX ha.2 hs
      exact isMixedGood_ok hD hZ hZ1 hB hWD hL hX hs hu rfl hc
    have bne : ∀ x y : Bool, b01 x = b01 y → x = y := by decide
    induction j with
    | zero =>
      intro s m D hs hF h65
      have hs : s = s0 := by omega
      rw [show 0 + 1 + m = m + 1 by omega]
      show Y (f_X12_splits0_5_b _ _) _
      unfold f_X12_splits0_5_b
      rw [h65]
      refine yBI (step1 s D (by omega) hF) (fun r D1 h1 => ?_)
      dsimp only at h1
      have hF1 : Fr SSP E D1 := hF.tr (h1.2.mono (fun j k q => Or.inl q))
      have e65 : D1 281 65 = nI s := by rw [h1.2 _ _ (by unfold SMG; omega)]; exact h65
      rw [h1.1, e65, nI_1]
      refine yBI (step1 (s + 1) D1 (by omega) hF1) (fun r2 D2 h2 => ?_)
      dsimp only at h2
      rw [h2.1]
      refine yNeg (fun e => ?_) (yRet ⟨hF1.tr (h2.2.mono (fun j k q => Or.inl q)), ?_⟩)
      · have e := bne _ _ e
        rw [m0 s (by omega), hs] at e
        rw [← e] at t0
        simp at t0
      · rw [h2.2 _ _ (by unfold SMG; omega), e65, hs]
    | succ j ih =>
      intro s m D hs hF h65
      rw [show j + 1 + 1 + m = (j + 1 + m) + 1 by omega]
      show Y (f_X12_splits0_5_b _ _) _
      unfold f_X12_splits0_5_b
      rw [h65]
      refine yBI (step1 s D (by omega) hF) (fun r D1 h1 => ?_)
      dsimp only at h1
      have hF1 : Fr SSP E D1 := hF.tr (h1.2.mono (fun j k q => Or.inl q))
      have e65 : D1 281 65 = nI s := by rw [h1.2 _ _ (by unfold SMG; omega)]; exact h65
      rw [h1.1, e65, nI_1]
      refine yBI (step1 (s + 1) D1 (by omega) hF1) (fun r2 D2 h2 => ?_)
      dsimp only at h2
      have e65' : D2 281 65 = nI s := by rw [h2.2 _ _ (by unfold SMG; omega)]; exact e65
      rw [h2.1, m0 s (by omega), m0 (s + 1) (by omega), lt_d, e65', nI_1]
      exact yPos rfl (ih (s + 1) m _ (by omega) ((hF1.tr (h2.2.mono (fun j k q => Or.inl q))).ud (Or.inr ⟨rfl, rfl⟩)) (by rw [ud_at, if_pos ⟨rfl, rfl⟩]))
  unfold f_X12_splits0
  rw [lt_d]
  obtain ⟨z, hz⟩ := FUs s0 (by omega)
  rw [hz]
  exact loop s0 0 z _ (by omega) (Fr.refl.ud (Or.inr ⟨rfl, rfl⟩)) (by rw [ud_at, if_pos ⟨rfl, rfl⟩]; rfl)
end
