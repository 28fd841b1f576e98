def kpI (T : Tb) (acc : Int32) (ts : Tst) (b : Nat) (c : Cf) (i : Nat) : List Nat := ((List.range i).filter (fun e => (shE1 T acc ts c b e).isSome)).map (fun e => (hsN c).getD e 0)
theorem kpI_succ {T : Tb} {acc : Int32} {ts : Tst} {b : Nat} {c : Cf} {i : Nat} : kpI T acc ts b c (i + 1) = if (shE1 T acc ts c b i).isSome = true then kpI T acc ts b c i ++ [(hsN c).getD i 0] else kpI T acc ts b c i := by
  unfold kpI
  rw [List.range_succ, List.filter_append, List.map_append, List.filter_cons]
  split <;> simp
theorem kpI_len {T : Tb} {acc : Int32} {ts : Tst} {b : Nat} {c : Cf} (i : Nat) : (kpI T acc ts b c i).length ≤ i := by
  unfold kpI
  rw [List.length_map]
  have := List.length_filter_le (fun e => (shE1 T acc ts c b e).isSome) (List.range i)
  rw [List.length_range] at this
  exact this
theorem kpN_len {T : Tb} {acc : Int32} {ts : Tst} {b : Nat} {c : Cf} : (kpN T acc ts b c).length ≤ (hsN c).length := kpI_len _
theorem lnm_app {l : List Nat} {x i : Nat} : lnm (l ++ [x]) i = if i < l.length then lnm l i else if i = l.length then nI x else nI 0 := by
  unfold lnm
  rw [List.getD_eq_getElem?_getD, List.getD_eq_getElem?_getD]
  by_cases h : i < l.length
  · rw [if_pos h, List.getElem?_append_left h]
  · rw [if_neg h, List.getElem?_append_right (by omega)]
    by_cases h2 : i = l.length
    · rw [if_pos h2, h2, Nat.sub_self]; rfl
    · rw [if_neg h2, List.getElem?_eq_none (by simp; omega)]; rfl
/-- the kept names stand -/
def PRk (D : Dm) (r0 : Nat) (l : List Nat) : Prop := D r0 6 = nI l.length ∧ ∀ i, i < l.length → D (r0 + 6) i = lnm l i
theorem gk_ok {D0 : Dm} {ts : Tst} {b r0 : Nat} {T : Tb} {acc : Int32} {c : Cf} (hh : PRh D0 r0 c) (hl : (hsN c).length ≤ 2) (h0 : ∀ e, e < (hsN c).length → shOK D0 r0 e (shE1 T acc ts c b e)) :
    Y (f_X6_gatherKept r0 D0) (fun D => Fr (fun j k => (j = r0 ∧ k = 6) ∨ j = r0 + 6 ∨ j = r0 + 7) D0 D ∧ PRk D r0 (kpN T acc ts b c) ∧ D (r0 + 7) 0 = D (r0 + 6) 1 ∧ D (r0 + 7) 1 = D (r0 + 6) 0) := by
  have loop : ∀ (j i m : Nat) (D : Dm), i + j = (hsN c).length → Fr (fun j k => (j = r0 ∧ k = 6) ∨ j = r0 + 6 ∨ j = r0 + 7) D0 D → PRk D r0 (kpI T acc ts b c i) →
      Y (f_X6_gatherKept_7 (j + 1 + m) r0 (nI i) D) (fun D => Fr (fun j k => (j = r0 ∧ k = 6) ∨ j = r0 + 6 ∨ j = r0 + 7) D0 D ∧ PRk D r0 (kpN T acc ts b c) ∧ D (r0 + 7) 0 = D (r0 + 6) 1 ∧ D (r0 + 7) 1 = D (r0 + 6) 0) := by
    intro j
    induction j with
    | zero =>
      intro i m D hi hF hk
      have hi : i = (hsN c).length := by omega
      rw [show 0 + 1 + m = m + 1 by omega]
      show Y (f_X6_gatherKept_7_b _ _ _ _) _
      unfold f_X6_gatherKept_7_b
      rw [hF r0 2 (by omega), hh.2.1]
      refine yPos (by rw [hi]; exact nI_le (Nat.le_refl _) (by omega)) (yLt0 (yLt0 (yRet ⟨(hF.ud (by omega)).ud (by omega), ?_, ?_, ?_⟩)))
      · rw [hi] at hk
        refine ⟨?_, fun q hq => ?_⟩
        · rw [ud_at, if_neg (by omega), ud_at, if_neg (by omega)]; exact hk.1
        · rw [ud_at, if_neg (by omega), ud_at, if_neg (by omega)]; exact hk.2 q hq
      · simp [ud_at]
      · simp [ud_at]
    | succ j ih =>
      intro i m D hi hF hk
      rw [show j + 1 + 1 + m = (j + 1 + m) + 1 by omega]
      show Y (f_X6_gatherKept_7_b _ _ _ _) _
      unfold f_X6_gatherKept_7_b
      rw [hF r0 2 (by omega), hh.2.1]
      refine yNeg (nI_nle2 (by omega) (by omega)) (yGd (inB_nI (by omega) (by omega)) ?_)
      rw [nI_clamp (show i < 2 ^ 31 by omega), hF (r0 + 4) i (by omega)]
      have hnow := h0 i (by omega)
      have hkl := kpI_len (T := T) (acc := acc) (ts := ts) (b := b) (c := c) i
      cases ho : shE1 T acc ts c b i with
      | none =>
        rw [ho] at hnow
        refine yPos hnow ?_
        unfold f_X6_gatherKept_50
        rw [lt_d, nI_1]
        refine ih (i + 1) m D (by omega) hF ?_
        rw [kpI_succ, ho, if_neg (by simp)]
        exact hk
      | some x =>
        rw [ho] at hnow
        obtain ⟨x1, x2, -⟩ := hnow
        refine yNeg (by rw [x2]; exact nI_n1 (by omega)) (yGd (inB_nI (by omega) (by omega)) ?_)
        rw [hk.1, nI_clamp (by omega)]
        refine yGd (inB_nI (by omega) (by omega)) (yLt0 (yLt0 ?_))
        unfold f_X6_gatherKept_50
        rw [lt_d, nI_1]
        refine ih (i + 1) m _ (by omega) ((hF.ud (by omega)).ud (by omega)) ?_
        rw [kpI_succ, ho, if_pos (by simp)]
        refine ⟨?_, fun q hq => ?_⟩
        · rw [ud_at, if_pos ⟨rfl, rfl⟩, ud_at, if_neg (by omega), hk.1, nI_1]; simp
        · rw [ud_at, if_neg (by omega), ud_at, lnm_app]
          simp at hq
          by_cases e : q = (kpI T acc ts b c i).length
          · rw [if_pos ⟨rfl, e⟩, if_neg (by omega), if_pos e, hF (r0 + 3) i (by omega), hh.2.2 i (by omega)]; rfl
          · rw [if_neg (by omega), if_pos (by omega)]; exact hk.2 q (by omega)
  unfold f_X6_gatherKept
  rw [lt_d]
  obtain ⟨q, hq⟩ := FUs (hsN c).length (by omega)
  have := loop (hsN c).length 0 q (ud D0 r0 6 0) (by omega) (Fr.refl.ud (by omega)) ⟨by rw [ud_at, if_pos ⟨rfl, rfl⟩]; rfl, fun i hi => absurd hi (Nat.not_lt_zero i)⟩
  rw [nI_0] at this
  rw [hq]
  exact this
/-- the row of a test, by kept names -/
def rwF (T : Tb) (acc : Int32) (ts : Tst) (c : Cf) (l : List Nat) (t : Nat) : Int32 := rowI (fun q => okD l.length (dgs (ts t).2 q) && aG T acc ts c 1000 (lnm l) t (dgs (ts t).2 q)) (3 ^ (ts t).2)
/-- a profile stands -/
def PR (D : Dm) (r0 : Nat) (T : Tb) (acc : Int32) (ts : Tst) (b : Nat) (c : Cf) : Prop :=
  PRh D r0 c ∧ (∀ e, e < (hsN c).length → shOK D r0 e (shE1 T acc ts c b e)) ∧ PRk D r0 (kpN T acc ts b c) ∧ D r0 10 = nI b ∧
  ∀ t, t < b → D (r0 + 8) t = rwF T acc ts c (kpN T acc ts b c) t ∧ D (r0 + 9) t = rwF T acc ts c (kpN T acc ts b c).reverse t
theorem PR.h {D : Dm} {r0 : Nat} {T : Tb} {acc : Int32} {ts : Tst} {b : Nat} {c : Cf} (h : PR D r0 T acc ts b c) : PRh D r0 c := h.1
theorem PR.s {D : Dm} {r0 : Nat} {T : Tb} {acc : Int32} {ts : Tst} {b : Nat} {c : Cf} (h : PR D r0 T acc ts b c) : ∀ e, e < (hsN c).length → shOK D r0 e (shE1 T acc ts c b e) := h.2.1
theorem PR.k {D : Dm} {r0 : Nat} {T : Tb} {acc : Int32} {ts : Tst} {b : Nat} {c : Cf} (h : PR D r0 T acc ts b c) : PRk D r0 (kpN T acc ts b c) := h.2.2.1
theorem PR.rc {D : Dm} {r0 : Nat} {T : Tb} {acc : Int32} {ts : Tst} {b : Nat} {c : Cf} (h : PR D r0 T acc ts b c) : D r0 10 = nI b := h.2.2.2.1
theorem PR.rows {D : Dm} {r0 : Nat} {T : Tb} {acc : Int32} {ts : Tst} {b : Nat} {c : Cf} (h : PR D r0 T acc ts b c) : ∀ t, t < b → D (r0 + 8) t = rwF T acc ts c (kpN T acc ts b c) t ∧ D (r0 + 9) t = rwF T acc ts c (kpN T acc ts b c).reverse t := h.2.2.2.2
theorem rev_short {l : List Nat} (h : l.length < 2) : l.reverse = l := by
  match l, h with
  | [], _ => rfl
  | [a], _ => rfl
  | _ :: _ :: _, h => simp at h; omega
theorem lnm_rev {l : List Nat} (h : l.length = 2) : lnm l.reverse 0 = lnm l 1 ∧ lnm l.reverse 1 = lnm l 0 := by
  match l, h with
  | [a, b], _ => exact ⟨rfl, rfl⟩
theorem lk99 {D0 : Dm} {ts : Tst} {b r0 : Nat} {T : Tb} {acc : Int32} {c : Cf} (hM : MC D0 T acc) (hS : TS D0 ts b) (hr : (12 < r0 ∧ r0 + 9 < 76) ∨ 121 < r0) (hh : PRh D0 r0 c) (hst : okSt c.1) (hl : (hsN c).length ≤ 2) (h0 : ∀ e, e < (hsN c).length → shOK D0 r0 e (shE1 T acc ts c b e)) (hk : PRk D0 r0 (kpN T acc ts b c)) (ht0 : D0 (r0 + 7) 0 = D0 (r0 + 6) 1) (ht1 : D0 (r0 + 7) 1 = D0 (r0 + 6) 0) (hrc : D0 r0 10 = nI b) :
    ∀ (j i m : Nat) (D : Dm), i + j = b → Fr (fun j k => j = r0 + 8 ∨ j = r0 + 9 ∨ (78 ≤ j ∧ j ≤ 81)) D0 D → (∀ t, t < i → D (r0 + 8) t = rwF T acc ts c (kpN T acc ts b c) t ∧ D (r0 + 9) t = rwF T acc ts c (kpN T acc ts b c).reverse t) →
      Y (f_X6_look_99 (j + 1 + m) r0 (nI i) D) (fun D => Fr (SP r0) D0 D ∧ PR D r0 T acc ts b c) := by
  obtain ⟨hb, h76, hW⟩ := id hS
  have hkl : (kpN T acc ts b c).length ≤ 2 := Nat.le_trans kpN_len hl
  have fr1 : ∀ {D : Dm}, Fr (fun j k => j = r0 + 8 ∨ j = r0 + 9 ∨ (78 ≤ j ∧ j ≤ 81)) D0 D → MC D T acc ∧ TS D ts b ∧ (∀ j k, r0 ≤ j → j ≤ r0 + 7 → D j k = D0 j k) := fun hF => ⟨hM.fr (fun j k h1 h2 => hF j k (by omega)), hS.fr (fun j k h => hF j k (by omega)), fun j k h1 h2 => hF j k (by omega)⟩
  intro j
  induction j with
  | zero =>
    intro i m D hi hF hrow
    have hi : i = b := by omega
    rw [hi] at hrow ⊢
    rw [show 0 + 1 + m = m + 1 by omega]
    show Y (f_X6_look_99_b _ _ _ _) _
    unfold f_X6_look_99_b
    obtain ⟨-, -, f7⟩ := fr1 hF
    rw [f7 r0 10 (by omega) (by omega), hrc]
    refine yPos (nI_le (Nat.le_refl _) (by omega)) (yRet ⟨hF.mono (fun j k q => by unfold SP; omega), ?_, ?_, ?_, ?_, ?_⟩)
    · exact hh.fr (funext fun k => f7 _ k (by omega) (by omega)) (funext fun k => f7 _ k (by omega) (by omega)) (funext fun k => f7 _ k (by omega) (by omega)) (f7 _ _ (by omega) (by omega))
    · exact fun e he => shOK_fr (h0 e he) (f7 _ _ (by omega) (by omega)) (f7 _ _ (by omega) (by omega))
    · exact ⟨by rw [f7 _ _ (by omega) (by omega)]; exact hk.1, fun q hq => by rw [f7 _ _ (by omega) (by omega)]; exact hk.2 q hq⟩
    · rw [f7 _ _ (by omega) (by omega)]; exact hrc
    · exact hrow
  | succ j ih =>
    intro i m D hi hF hrow
    rw [show j + 1 + 1 + m = (j + 1 + m) + 1 by omega]
    show Y (f_X6_look_99_b _ _ _ _) _
    unfold f_X6_look_99_b
    obtain ⟨hM1, hS1, f7⟩ := fr1 hF
    rw [f7 r0 10 (by omega) (by omega), hrc, f7 r0 6 (by omega) (by omega), hk.1]
    refine yNeg (nI_nle2 (by omega) (by omega)) (yGd (inB_nI (by omega) (by omega)) ?_)
    rw [nI_clamp (show i < 2 ^ 31 by omega), ar77 i (by omega)]
    have gg : ∀ {D : Dm}, (∀ j k, r0 ≤ j → j ≤ r0 + 7 → D j k = D0 j k) → getGo D (r0 + 1) = c := fun f => by
      rw [← hh.1]
      unfold getGo
      rw [f _ _ (by omega) (by omega), f _ _ (by omega) (by omega), f _ _ (by omega) (by omega)]
    have ost : ∀ {D : Dm}, (∀ j k, r0 ≤ j → j ≤ r0 + 7 → D j k = D0 j k) → okSt (D (r0 + 1) 0) := fun f => by
      show okSt (getGo _ (r0 + 1)).1
      rw [gg f]; exact hst
    refine yBI (an_ok hM1 (hS1.2.2 i (by omega)) (by omega) (by omega) (by omega) hkl (f := lnm (kpN T acc ts b c)) (fun g hg => by rw [f7 _ _ (by omega) (by omega)]; exact hk.2 g hg) (ost f7)) (fun r D1 h => ?_)
    dsimp only at h
    obtain ⟨e1, hF1⟩ := h
    rw [gg f7] at e1
    have e1 : r = rwF T acc ts c (kpN T acc ts b c) i := e1
    have hF2 : Fr (fun j k => j = r0 + 8 ∨ j = r0 + 9 ∨ (78 ≤ j ∧ j ≤ 81)) D0 D1 := hF.tr (hF1.mono (fun j k q => by unfold SQ at q; omega))
    have k8 : ∀ q, D1 (r0 + 8) q = D (r0 + 8) q := fun q => hF1 _ _ (by unfold SQ; omega)
    have k9 : ∀ q, D1 (r0 + 9) q = D (r0 + 9) q := fun q => hF1 _ _ (by unfold SQ; omega)
    refine yGd (inB_nI (by omega) (by omega)) (yLt (fun D2 hD2 => ?_))
    have hF3 : Fr (fun j k => j = r0 + 8 ∨ j = r0 + 9 ∨ (78 ≤ j ∧ j ≤ 81)) D0 D2 := by rw [hD2]; exact hF2.ud (by omega)
    obtain ⟨hM2, hS2, f72⟩ := fr1 hF3
    have v8 : D2 (r0 + 8) i = r := by rw [hD2, ud_at, if_pos ⟨rfl, rfl⟩]
    have o8 : ∀ q, q ≠ i → D2 (r0 + 8) q = D (r0 + 8) q := fun q hq => by rw [hD2, ud_at, if_neg (by omega), k8]
    have o9 : ∀ q, D2 (r0 + 9) q = D (r0 + 9) q := fun q => by rw [hD2, ud_at, if_neg (by omega), k9]
    have fin : ∀ (v : Int32) (D3 : Dm), Fr (fun j k => j = r0 + 8 ∨ j = r0 + 9 ∨ (78 ≤ j ∧ j ≤ 81)) D0 D3 → (∀ q, D3 (r0 + 8) q = D2 (r0 + 8) q) → (∀ q, D3 (r0 + 9) q = D2 (r0 + 9) q) → v = rwF T acc ts c (kpN T acc ts b c).reverse i → Y (f_X6_look_179 (f_X6_look_99 (j + 1 + m)) r0 (nI i) v (nI i) (r0 + 9) 10 D3) (fun D => Fr (SP r0) D0 D ∧ PR D r0 T acc ts b c) := by
      intro v D3 hF3 q8 q9 hv
      unfold f_X6_look_179
      refine yGd (inB_nI (by omega) (by omega)) ?_
      rw [lt_d, lt_d, nI_1, nI_clamp (show i < 2 ^ 31 by omega)]
      refine ih (i + 1) m _ (by omega) (hF3.ud (by omega)) (fun t ht => ?_)
      rw [ud_at, if_neg (by omega), ud_at, q8, q9]
      by_cases e : t = i
      · rw [if_pos ⟨rfl, e⟩, e, v8, e1, hv]; exact ⟨rfl, rfl⟩
      · rw [if_neg (by omega), o8 t e, o9]; exact hrow t (by omega)
    rw [f72 r0 6 (by omega) (by omega), hk.1]
    refine yIte (fun h => ?_) (fun h => ?_)
    · have hl2 : (kpN T acc ts b c).length = 2 := by
        rw [show (2 : Int32) = nI 2 from rfl, nI_leI (by omega) (by omega)] at h
        omega
      refine yGd (inB_nI (by omega) (by omega)) ?_
      refine yBI (an_ok (kc := (kpN T acc ts b c).length) hM2 (hS2.2.2 i (by omega)) (by omega) (by omega) (by omega) hkl (f := lnm (kpN T acc ts b c).reverse) (fun g hg => ?_) (ost f72)) (fun r' D3 h' => ?_)
      · rw [f72 _ _ (by omega) (by omega)]
        have : g = 0 ∨ g = 1 := by omega
        rcases this with rfl | rfl
        · rw [ht0, hk.2 1 (by omega), (lnm_rev hl2).1]
        · rw [ht1, hk.2 0 (by omega), (lnm_rev hl2).2]
      · dsimp only at h'
        obtain ⟨e2, hF4⟩ := h'
        refine fin r' D3 (hF3.tr (hF4.mono (fun j k q => by unfold SQ at q; omega))) (fun q => hF4 _ _ (by unfold SQ; omega)) (fun q => hF4 _ _ (by unfold SQ; omega)) ?_
        rw [e2, gg f72]
        unfold rwF
        rw [List.length_reverse]
        rfl
    · refine yGd (inB_nI (by omega) (by omega)) ?_
      refine fin _ D2 hF3 (fun _ => rfl) (fun _ => rfl) ?_
      rw [v8, e1, rev_short]
      rw [show (2 : Int32) = nI 2 from rfl, nI_leI (by omega) (by omega)] at h
      omega
