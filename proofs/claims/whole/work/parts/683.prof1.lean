/-! ===== the class's profiles ===== -/
abbrev SP (r0 j k : Nat) : Prop := (r0 ≤ j ∧ j ≤ r0 + 9) ∨ (78 ≤ j ∧ j ≤ 81)
theorem fst1_lt {P : Nat → Bool} {n q : Nat} (h : fst1 P n = some q) : q < n := by
  have := List.mem_of_find?_eq_some h
  exact List.mem_range.mp this
theorem fs_fsh {A : List Nat → Bool} {g m d : Nat} (hd : d ≤ 3) (hm : m ≤ 2) : oI (fst1 (fun q => okD m (dgs d q) && shB A g (dgs d q)) (3 ^ d)) = oI ((fsh A g m d).map val) := by
  rw [fsh_num (by omega) (by omega)]
  cases h : fst1 (fun q => okD m (dgs d q) && shB A g (dgs d q)) (3 ^ d) with
  | none => rfl
  | some q =>
    show oI (some q) = oI (some (val (dgs d q)))
    rw [val_dgs d (by omega) q (fst1_lt h)]
theorem mnI_n {a b : Nat} (ha : a < 20) (hb : b < 20) : mnI (nI a) (nI b) = nI (min a b) ∧ mxI (nI a) (nI b) = nI (max a b) := by
  have : ∀ a, a < 20 → ∀ b, b < 20 → mnI (nI a) (nI b) = nI (min a b) ∧ mxI (nI a) (nI b) = nI (max a b) := by decide +kernel
  exact this a ha b hb
theorem mnI_m1 {a : Nat} (ha : a < 100) : mnI (nI a) (-1) = -1 ∧ mxI (nI a) (-1) = nI a ∧ mnI (-1) (nI a) = -1 ∧ mxI (-1) (nI a) = nI a := by
  have : ∀ a, a < 100 → mnI (nI a) (-1) = -1 ∧ mxI (nI a) (-1) = nI a ∧ mnI (-1) (nI a) = -1 ∧ mxI (-1) (nI a) = nI a := by decide +kernel
  exact this a ha
theorem mnI_mm : mnI (-1) (-1) = -1 ∧ mxI (-1) (-1) = -1 := by decide +kernel
/-- the held names stand -/
def PRh (D : Dm) (r0 : Nat) (c : Cf) : Prop := getGo D (r0 + 1) = c ∧ D r0 2 = nI (hsN c).length ∧ ∀ i, i < (hsN c).length → D (r0 + 3) i = lnm (hsN c) i
theorem gh74 {D : Dm} {r0 n : Nat} {x1 x2 : Int32} (h : D r0 2 = nI n) (hn : n < 2) : f_X6_gatherHeld_74 r0 x1 x2 D = some (if x2 = x1 then D else ud (ud D (r0 + 3) n x2) r0 2 (nI (n + 1))) := by
  unfold f_X6_gatherHeld_74
  by_cases e : x2 = x1
  · rw [if_pos e, if_pos e]
  · rw [if_neg e, if_neg e, h, gd_t (inB_nI hn (by omega)), lt_d, lt_d, nI_clamp (by omega), ud_at, if_neg (by omega), h, nI_1]
/-- what gathering leaves -/
def hl2 (D : Dm) (r0 : Nat) (l : List Nat) : Dm := match l with
  | [] => ud D r0 2 0
  | [a] => ud (ud (ud D r0 2 0) (r0 + 3) 0 (nI a)) r0 2 1
  | a :: b :: _ => ud (ud (ud (ud (ud D r0 2 0) (r0 + 3) 0 (nI a)) r0 2 1) (r0 + 3) 1 (nI b)) r0 2 2
theorem gh_ok {D : Dm} {r0 M : Nat} {c : Cf} (h0 : D (r0 + 2) 0 = c.2.1) (h1 : D (r0 + 2) 1 = c.2.2) (hM : M ≤ 20) (hc : okC c M) : f_X6_gatherHeld r0 D = some (hl2 D r0 (hsN c)) := by
  have z : ud D r0 2 0 r0 2 = nI 0 := by rw [ud_at, if_pos ⟨rfl, rfl⟩, nI_0]
  have z1 : ∀ v, ud (ud (ud D r0 2 0) (r0 + 3) 0 v) r0 2 1 r0 2 = nI 1 := fun v => by rw [ud_at, if_pos ⟨rfl, rfl⟩]; rfl
  unfold f_X6_gatherHeld hsN
  simp only [lt_d, h0, h1]
  rcases hc with ⟨a | ⟨a, ha, ea⟩, b | ⟨b, hb, eb⟩⟩
  · rw [a, b, mnI_mm.1, mnI_mm.2, if_pos rfl, gh74 z (by omega), if_pos rfl, if_pos rfl, if_pos rfl]; rfl
  · rw [a, eb, (mnI_m1 (a := b) (by omega)).2.2.1, (mnI_m1 (a := b) (by omega)).2.2.2, if_pos rfl, gh74 z (by omega), if_pos rfl, if_neg (nI_n1 (by omega)), if_neg (nI_n1 (by omega)), nI_clamp (by omega)]; rfl
  · rw [ea, b, (mnI_m1 (a := a) (by omega)).1, (mnI_m1 (a := a) (by omega)).2.1, if_pos rfl, gh74 z (by omega), if_neg (nI_n1 (by omega)), if_neg (nI_n1 (by omega)), if_pos rfl, nI_clamp (by omega)]; rfl
  · rw [ea, eb, (mnI_n (a := a) (b := b) (by omega) (by omega)).1, (mnI_n (a := a) (b := b) (by omega) (by omega)).2]
    rw [if_neg (nI_n1 (by omega)), if_neg (nI_n1 (by omega)), if_neg (nI_n1 (by omega)), nI_clamp (by omega), nI_clamp (by omega)]
    rw [z, gd_t (by decide), ud_at, if_neg (by omega), z, show nI 0 + 1 = 1 from by decide, show (nI 0).toNatClampNeg = 0 from by decide, gh74 (z1 _) (by omega)]
    by_cases hab : a < b
    · rw [show max a b = b by omega, show min a b = a by omega, if_neg (fun e => by have := nI_inj (by omega) (by omega) e; omega), if_pos hab]; rfl
    · by_cases hba : b < a
      · rw [show max a b = a by omega, show min a b = b by omega, if_neg (fun e => by have := nI_inj (by omega) (by omega) e; omega), if_neg hab, if_pos hba]; rfl
      · have e : a = b := by omega
        subst e
        rw [show max a a = a by omega, show min a a = a by omega, if_pos rfl, if_neg hab, if_neg hab]; rfl
theorem hl2_ok {D : Dm} {r0 M : Nat} {c : Cf} (h : getGo D (r0 + 1) = c) (hl : (hsN c).length ≤ 2) : PRh (hl2 D r0 (hsN c)) r0 c ∧ Fr (fun j k => (j = r0 ∧ k = 2) ∨ j = r0 + 3) D (hl2 D r0 (hsN c)) := by
  unfold PRh
  have hg : ∀ D' : Dm, Fr (fun j k => (j = r0 ∧ k = 2) ∨ j = r0 + 3) D D' → getGo D' (r0 + 1) = c := by
    intro D' hF
    rw [← h]
    unfold getGo
    rw [hF _ _ (by omega), hF _ _ (by omega), hF _ _ (by omega)]
  match hs : hsN c, hl with
  | [], _ =>
    have hF : Fr (fun j k => (j = r0 ∧ k = 2) ∨ j = r0 + 3) D (hl2 D r0 []) := Fr.refl.ud (by omega)
    refine ⟨⟨hg _ hF, ?_, fun i hi => absurd hi (Nat.not_lt_zero i)⟩, hF⟩
    show ud D r0 2 0 r0 2 = _
    rw [ud_at, if_pos ⟨rfl, rfl⟩]; rfl
  | [a], _ =>
    have hF : Fr (fun j k => (j = r0 ∧ k = 2) ∨ j = r0 + 3) D (hl2 D r0 [a]) := ((Fr.refl.ud (by omega)).ud (by omega)).ud (by omega)
    refine ⟨⟨hg _ hF, ?_, fun i hi => ?_⟩, hF⟩
    · show ud _ r0 2 1 r0 2 = _
      rw [ud_at, if_pos ⟨rfl, rfl⟩]; rfl
    · have : i = 0 := by simp at hi; omega
      subst this
      show ud (ud _ (r0 + 3) 0 (nI a)) r0 2 1 (r0 + 3) 0 = _
      rw [ud_at, if_neg (by omega), ud_at, if_pos ⟨rfl, rfl⟩]; rfl
  | [a, b], _ =>
    have hF : Fr (fun j k => (j = r0 ∧ k = 2) ∨ j = r0 + 3) D (hl2 D r0 [a, b]) := ((((Fr.refl.ud (by omega)).ud (by omega)).ud (by omega)).ud (by omega)).ud (by omega)
    refine ⟨⟨hg _ hF, ?_, fun i hi => ?_⟩, hF⟩
    · show ud _ r0 2 2 r0 2 = _
      rw [ud_at, if_pos ⟨rfl, rfl⟩]; rfl
    · have : i = 0 ∨ i = 1 := by simp at hi; omega
      rcases this with rfl | rfl
      · show ud (ud (ud (ud _ (r0 + 3) 0 (nI a)) r0 2 1) (r0 + 3) 1 (nI b)) r0 2 2 (r0 + 3) 0 = _
        rw [ud_at, if_neg (by omega), ud_at, if_neg (by omega), ud_at, if_neg (by omega), ud_at, if_pos ⟨rfl, rfl⟩]; rfl
      · show ud (ud _ (r0 + 3) 1 (nI b)) r0 2 2 (r0 + 3) 1 = _
        rw [ud_at, if_neg (by omega), ud_at, if_pos ⟨rfl, rfl⟩]; rfl
  | _ :: _ :: _ :: _, h => simp at h
/-- how what shows is held -/
def shOK (D : Dm) (r0 e : Nat) (o : Option (Nat × List Nat)) : Prop := match o with
  | none => D (r0 + 4) e = -1
  | some x => x.1 < 10 ∧ D (r0 + 4) e = nI x.1 ∧ D (r0 + 5) e = nI (val x.2)
theorem shOK_fr {D D' : Dm} {r0 e : Nat} {o : Option (Nat × List Nat)} (h : shOK D r0 e o) (h4 : D' (r0 + 4) e = D (r0 + 4) e) (h5 : D' (r0 + 5) e = D (r0 + 5) e) : shOK D' r0 e o := by
  unfold shOK at h ⊢
  cases o with
  | none => rw [h4]; exact h
  | some x => rw [h4, h5]; exact h
/-- the tests of the class -/
def TS (D : Dm) (ts : Tst) (b : Nat) : Prop := b ≤ 10 ∧ D 76 2 = nI b ∧ ∀ t, t < b → TW D (82 + 4 * t) (ts t).1 (ts t).2
theorem TS.fr {D D' : Dm} {ts : Tst} {b : Nat} (h : TS D ts b) (hF : ∀ j k, (j = 76 ∨ (82 ≤ j ∧ j ≤ 121)) → D' j k = D j k) : TS D' ts b := by
  obtain ⟨h1, h2, h3⟩ := h
  exact ⟨h1, by rw [hF 76 2 (by omega), h2], fun t ht => (h3 t ht).fr (fun j k q1 q2 => hF j k (by omega))⟩
theorem TS.okT {D : Dm} {ts : Tst} {b : Nat} (h : TS D ts b) : okT ts b := by
  intro t ht
  obtain ⟨n, -, -, -, hd, e, hs⟩ := h.2.2 t ht
  refine ⟨hd, fun a ha => ?_⟩
  rw [e] at ha
  obtain ⟨k, -, hk, rfl⟩ := lts_mem ha
  exact hs k (by omega)
theorem PRh.fr {D D' : Dm} {r0 : Nat} {c : Cf} (h : PRh D r0 c) (h1 : D' (r0 + 1) = D (r0 + 1)) (h2 : D' (r0 + 2) = D (r0 + 2)) (h3 : D' (r0 + 3) = D (r0 + 3)) (h0 : D' r0 2 = D r0 2) : PRh D' r0 c := by
  unfold PRh getGo at h ⊢
  rw [h1, h2, h3, h0]
  exact h
/-- notes what test t shows -/
theorem ns_ok {D0 : Dm} {ts : Tst} {b t r0 : Nat} {T : Tb} {acc : Int32} {c : Cf} (hS : TS D0 ts b) (ht : t < b) (hr : r0 + 9 < 76 ∨ 121 < r0) (hh : PRh D0 r0 c) (hl : (hsN c).length ≤ 2) {row : Int32} (hrow : row = rowI (fun q => okD (hsN c).length (dgs (ts t).2 q) && aG T acc ts c 1000 (lnm (hsN c)) t (dgs (ts t).2 q)) (3 ^ (ts t).2)) (h0 : ∀ e, e < (hsN c).length → shOK D0 r0 e (shE1 T acc ts c t e)) :
    Y (f_X6_noteShown r0 (nI t) row D0) (fun D => Fr (fun j k => j = r0 + 4 ∨ j = r0 + 5 ∨ j = 78 ∨ j = 79) D0 D ∧ ∀ e, e < (hsN c).length → shOK D r0 e (shE1 T acc ts c (t + 1) e)) := by
  obtain ⟨hb, -, hW⟩ := hS
  obtain ⟨n, -, -, h4, hd, -⟩ := hW t ht
  have loop : ∀ (j i m : Nat) (D : Dm), i + j = (hsN c).length → Fr (fun j k => j = r0 + 4 ∨ j = r0 + 5 ∨ j = 78 ∨ j = 79) D0 D → (∀ e, e < i → shOK D r0 e (shE1 T acc ts c (t + 1) e)) → (∀ e, i ≤ e → e < (hsN c).length → shOK D r0 e (shE1 T acc ts c t e)) →
      Y (f_X6_noteShown_3 (j + 1 + m) r0 (nI t) row (nI i) D) (fun D => Fr (fun j k => j = r0 + 4 ∨ j = r0 + 5 ∨ j = 78 ∨ j = 79) D0 D ∧ ∀ e, e < (hsN c).length → shOK D r0 e (shE1 T acc ts c (t + 1) e)) := by
    intro j
    induction j with
    | zero =>
      intro i m D hi hF ha hb
      have hi : i = (hsN c).length := by omega
      rw [show 0 + 1 + m = m + 1 by omega]
      show Y (f_X6_noteShown_3_b _ _ _ _ _ _) _
      unfold f_X6_noteShown_3_b
      refine yPos ?_ (yRet ⟨hF, fun e he => ha e (by omega)⟩)
      rw [hF r0 2 (by omega), hh.2.1, hi]
      exact nI_le (Nat.le_refl _) (by omega)
    | succ j ih =>
      intro i m D hi hF ha hb
      rw [show j + 1 + 1 + m = (j + 1 + m) + 1 by omega]
      show Y (f_X6_noteShown_3_b _ _ _ _ _ _) _
      unfold f_X6_noteShown_3_b
      have h2 : D r0 2 = nI (hsN c).length := by rw [hF r0 2 (by omega), hh.2.1]
      rw [h2]
      refine yNeg (nI_nle2 (by omega) (by omega)) (yGd (inB_nI (by omega) (by omega)) ?_)
      rw [nI_clamp (show i < 2 ^ 31 by omega)]
      have nxt : ∀ D' : Dm, Fr (fun j k => j = r0 + 4 ∨ j = r0 + 5 ∨ j = 78 ∨ j = 79) D0 D' → (∀ e, e ≠ i → D' (r0 + 4) e = D (r0 + 4) e ∧ D' (r0 + 5) e = D (r0 + 5) e) → shOK D' r0 i (shE1 T acc ts c (t + 1) i) → Y (f_X6_noteShown_75 (f_X6_noteShown_3 (j + 1 + m)) r0 (nI t) row (nI i) D') (fun D => Fr (fun j k => j = r0 + 4 ∨ j = r0 + 5 ∨ j = 78 ∨ j = 79) D0 D ∧ ∀ e, e < (hsN c).length → shOK D r0 e (shE1 T acc ts c (t + 1) e)) := by
        intro D' hF' hne hi'
        unfold f_X6_noteShown_75
        rw [lt_d, nI_1]
        refine ih (i + 1) m D' (by omega) hF' (fun e he => ?_) (fun e he1 he2 => ?_)
        · by_cases q : e = i
          · rw [q]; exact hi'
          · exact shOK_fr (ha e (by omega)) (hne e q).1 (hne e q).2
        · exact shOK_fr (hb e (by omega) he2) (hne e (by omega)).1 (hne e (by omega)).2
      have hnow := hb i (Nat.le_refl _) (by omega)
      have es : shE1 T acc ts c (t + 1) i = match shE1 T acc ts c t i with
          | some x => some x
          | none => (fsh (aG T acc ts c 1000 (lnm (hsN c)) t) (i + 1) (hsN c).length (ts t).2).map (fun gs => (t, gs)) := rfl
      cases ho : shE1 T acc ts c t i with
      | some x =>
        rw [ho] at es hnow
        obtain ⟨x1, x2, x3⟩ := hnow
        refine yNeg (by rw [x2]; exact nI_n1 (by omega)) (nxt D hF (fun _ _ => ⟨rfl, rfl⟩) ?_)
        rw [es]
        exact ⟨x1, x2, x3⟩
      | none =>
        rw [ho] at es hnow
        have hnow : D (r0 + 4) i = -1 := hnow
        refine yPos hnow (yGd (inB_nI (by omega) (by omega)) ?_)
        rw [nI_clamp (show t < 2 ^ 31 by omega), ar77 t (by omega), nI_1]
        refine yBI (fs_ok (D0 := D) (g := i + 1) (by rw [hF (82 + 4 * t) 4 (by omega)]; exact h4) hd (by omega) (by omega) hl (by omega) hrow) (fun r D1 h => ?_)
        dsimp only at h
        obtain ⟨e1, hF1⟩ := h
        rw [fs_fsh hd hl] at e1
        have hF2 : Fr (fun j k => j = r0 + 4 ∨ j = r0 + 5 ∨ j = 78 ∨ j = 79) D0 D1 := hF.tr (hF1.mono (fun j k q => by unfold SN at q; omega))
        refine yGd (inB_nI (by omega) (by omega)) (yLt0 (yGd (inB_nI (by omega) (by omega)) ?_))
        rw [show ud D1 (r0 + 5) i r (r0 + 5) i = r by rw [ud_at, if_pos ⟨rfl, rfl⟩]]
        have c4 : ∀ k, D1 (r0 + 4) k = D (r0 + 4) k := fun k => hF1 _ _ (by unfold SN; omega)
        have c5 : ∀ k, D1 (r0 + 5) k = D (r0 + 5) k := fun k => hF1 _ _ (by unfold SN; omega)
        cases hf : fsh (aG T acc ts c 1000 (lnm (hsN c)) t) (i + 1) (hsN c).length (ts t).2 with
        | none =>
          rw [hf] at e1 es
          refine yPos e1 (nxt _ (hF2.ud (by omega)) (fun e he => ?_) ?_)
          · rw [ud_at, if_neg (by omega), ud_at, if_neg (by omega)]; exact ⟨c4 e, c5 e⟩
          · rw [es]
            show ud D1 (r0 + 5) i r (r0 + 4) i = -1
            rw [ud_at, if_neg (by omega), c4, hnow]
        | some gs =>
          rw [hf] at e1 es
          have e1 : r = nI (val gs) := e1
          have hv : val gs < 2 ^ 31 := by
            rw [fsh_num (by omega) (by omega)] at hf
            obtain ⟨q, hq, e⟩ := Option.map_eq_some_iff.mp hf
            have h1 := fst1_lt hq
            have h2 := pow3 hd
            rw [← e, val_dgs _ (by omega) q h1]
            omega
          refine yNeg (by rw [e1]; exact nI_n1 hv) (yGd (inB_nI (by omega) (by omega)) (yLt0 ?_))
          refine nxt _ ((hF2.ud (by omega)).ud (by omega)) (fun e he => ?_) ?_
          · rw [ud_at, if_neg (by omega), ud_at, if_neg (by omega), ud_at, if_neg (by omega), ud_at, if_neg (by omega)]; exact ⟨c4 e, c5 e⟩
          · rw [es]
            refine ⟨by show t < 10; omega, ?_, ?_⟩
            · rw [ud_at, if_pos ⟨rfl, rfl⟩]
            · rw [ud_at, if_neg (by omega), ud_at, if_pos ⟨rfl, rfl⟩, e1]
  unfold f_X6_noteShown
  obtain ⟨q, hq⟩ := FUs (hsN c).length (by omega)
  have := loop (hsN c).length 0 q D0 (by omega) Fr.refl (fun e he => absurd he (Nat.not_lt_zero e)) (fun e _ he => h0 e he)
  rw [nI_0] at this
  rw [hq]
  exact this
