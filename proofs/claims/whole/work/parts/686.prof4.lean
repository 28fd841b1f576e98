/-- all below n are so -/
def allB (P : Nat → Bool) : Nat → Bool
  | 0 => true
  | n + 1 => allB P n && P n
theorem allB_succ {P : Nat → Bool} {n : Nat} : allB P (n + 1) = (allB P n && P n) := rfl
theorem allB_iff {P : Nat → Bool} : ∀ {n : Nat}, allB P n = true ↔ ∀ t, t < n → P t = true
  | 0 => by simp [allB]
  | n + 1 => by
    unfold allB
    rw [Bool.and_eq_true, allB_iff]
    constructor
    · rintro ⟨h1, h2⟩ t ht
      by_cases e : t = n
      · rw [e]; exact h2
      · exact h1 t (by omega)
    · intro h
      exact ⟨fun t ht => h t (by omega), h n (by omega)⟩
theorem allB_congr {P Q : Nat → Bool} : ∀ {n : Nat}, (∀ t, t < n → P t = Q t) → allB P n = allB Q n
  | 0, _ => rfl
  | n + 1, h => by
    unfold allB
    rw [allB_congr (fun t ht => h t (by omega)), h n (by omega)]
/-- rows of one word by l are those of the other by l' -/
def alk (T : Tb) (acc : Int32) (ts : Tst) (b : Nat) (c : Cf) (l : List Nat) (c' : Cf) (l' : List Nat) : Bool := allB (fun t => decide (rwF T acc ts c l t = rwF T acc ts c' l' t)) b
/-- the way: 0, 1 or none -/
def wyL (T : Tb) (acc : Int32) (ts : Tst) (b : Nat) (c : Cf) (l : List Nat) (c' : Cf) (l' : List Nat) : Int32 :=
  if l.length = l'.length then (if alk T acc ts b c l c' l' = true then 0 else if l.length = 2 ∧ alk T acc ts b c l c' l'.reverse = true then 1 else -1) else -1
theorem wt32 {D : Dm} {r0 r1 b : Nat} (hb : b ≤ 10) (h : D r0 10 = nI b) {k0 : Bool} : ∀ (j i m : Nat), i + j = b → f_X6_wayTo_32 (j + 1 + m) r0 r1 (b01 (allB (fun t => decide (D (r0 + 8) t = D (r1 + 8) t)) i)) (b01 (k0 && allB (fun t => decide (D (r0 + 8) t = D (r1 + 9) t)) i)) (nI i) D =
    some (if allB (fun t => decide (D (r0 + 8) t = D (r1 + 8) t)) b = true then 0 else if (k0 && allB (fun t => decide (D (r0 + 8) t = D (r1 + 9) t)) b) = true then 1 else -1, D) := by
  intro j
  induction j with
  | zero =>
    intro i m hi
    have hi : i = b := by omega
    subst hi
    rw [show 0 + 1 + m = m + 1 by omega]
    show f_X6_wayTo_32_b _ _ _ _ _ _ _ = _
    unfold f_X6_wayTo_32_b
    rw [h, if_pos (nI_le (Nat.le_refl _) (by omega)), b01_if, b01_if]
    split
    · rfl
    · split <;> rfl
  | succ j ih =>
    intro i m hi
    have ih := ih (i + 1) m (by omega)
    rw [show j + 1 + 1 + m = (j + 1 + m) + 1 by omega]
    show f_X6_wayTo_32_b _ _ _ _ _ _ _ = _
    unfold f_X6_wayTo_32_b f_X6_wayTo_66 f_X6_wayTo_67 f_X6_wayTo_93 f_X6_wayTo_94
    rw [h, if_neg (nI_nle2 (by omega) (by omega)), gd_t (inB_nI (by omega) (by omega)), gd_t (inB_nI (by omega) (by omega)), gd_t (inB_nI (by omega) (by omega)), gd_t (inB_nI (by omega) (by omega)), nI_clamp (by omega), lt_d, lt_d, nI_1, b01_if, b01_if]
    rw [← ih, allB_succ, allB_succ]
    generalize allB (fun t => decide (D (r0 + 8) t = D (r1 + 8) t)) i = s
    generalize hk : allB (fun t => decide (D (r0 + 8) t = D (r1 + 9) t)) i = k
    clear ih hk
    generalize D (r0 + 8) i = x
    generalize D (r1 + 8) i = y
    generalize D (r1 + 9) i = z
    have hin : inB (nI i) 10 = true := inB_nI (by omega) (by omega)
    have gdt : ∀ x : Option (Int32 × Dm), gd true x = x := fun _ => rfl
    by_cases e1 : x = y
    · subst e1
      by_cases e2 : x = z
      · subst e2; cases s <;> cases k <;> cases k0 <;> simp [b01, lt_d, hin, gdt]
      · cases s <;> cases k <;> cases k0 <;> simp [b01, e2, lt_d, hin, gdt]
    · by_cases e2 : x = z
      · subst e2; cases s <;> cases k <;> cases k0 <;> simp [b01, e1, lt_d, hin, gdt]
      · cases s <;> cases k <;> cases k0 <;> simp [b01, e1, e2, lt_d, hin, gdt]
theorem way_ok {D : Dm} {r0 r1 b : Nat} {T : Tb} {acc : Int32} {ts : Tst} {c c' : Cf} (hb : b ≤ 10) (h : PR D r0 T acc ts b c) (h' : PR D r1 T acc ts b c') (hl : (kpN T acc ts b c).length ≤ 2) (hl' : (kpN T acc ts b c').length ≤ 2) : f_X6_wayTo r0 r1 D = some (wyL T acc ts b c (kpN T acc ts b c) c' (kpN T acc ts b c'), D) := by
  unfold f_X6_wayTo f_X6_wayTo_28 wyL
  rw [h.k.1, h'.k.1]
  by_cases e : (kpN T acc ts b c).length = (kpN T acc ts b c').length
  · rw [if_pos (by rw [e]), if_pos e]
    obtain ⟨q, hq⟩ := FUs b (by omega)
    have e1 : allB (fun t => decide (D (r0 + 8) t = D (r1 + 8) t)) b = alk T acc ts b c (kpN T acc ts b c) c' (kpN T acc ts b c') := allB_congr (fun t ht => by rw [(h.rows t ht).1, (h'.rows t ht).1])
    have e2 : allB (fun t => decide (D (r0 + 8) t = D (r1 + 9) t)) b = alk T acc ts b c (kpN T acc ts b c) c' (kpN T acc ts b c').reverse := allB_congr (fun t ht => by rw [(h.rows t ht).1, (h'.rows t ht).2])
    have w1 := wt32 (r0 := r0) (r1 := r1) hb h.rc (k0 := true) b 0 q (by omega)
    have w0 := wt32 (r0 := r0) (r1 := r1) hb h.rc (k0 := false) b 0 q (by omega)
    rw [e1, e2, nI_0] at w1 w0
    rw [hq]
    by_cases e3 : (kpN T acc ts b c).length = 2
    · rw [if_pos (by rw [e3]; rfl)]
      refine Eq.trans w1 ?_
      rw [Bool.true_and]
      simp only [e3, true_and]
    · rw [if_neg (show ¬ nI (kpN T acc ts b c).length = 2 from fun q => e3 ((nI_eq (b := 2) (by omega) (by omega)).mp q))]
      refine Eq.trans w0 ?_
      rw [Bool.false_and]
      simp only [e3, false_and]
      rfl
  · rw [if_neg (fun q => e ((nI_eq (by omega) (by omega)).mp q)), if_neg e]
/-- the bits of a list of names -/
def bts (l : List Nat) : Nat := l.foldl (fun s n => s ||| 2 ^ n) 0
theorem bts_app {l : List Nat} {n : Nat} : bts (l ++ [n]) = bts l ||| 2 ^ n := by
  unfold bts
  rw [List.foldl_append]
  rfl
def kbI (l : List Nat) : Nat → Int32
  | 0 => 0
  | i + 1 => kbI l i ||| ((1 : Int32) <<< (lnm l i &&& 31))
theorem kbI_ok : ∀ M, M < 5 → ∀ l ∈ hss M, kbI l l.length = nI (bts l) := by decide +kernel
theorem kb_loop {D : Dm} {r0 : Nat} {l : List Nat} (h : PRk D r0 l) (hl : l.length ≤ 2) : ∀ (j i m : Nat), i + j = l.length → f_X6_keptBits_4 (j + 1 + m) r0 (kbI l i) (nI i) D = some (kbI l l.length, D) := by
  intro j
  induction j with
  | zero =>
    intro i m hi
    have hi : i = l.length := by omega
    rw [show 0 + 1 + m = m + 1 by omega]
    show f_X6_keptBits_4_b _ _ _ _ _ = _
    unfold f_X6_keptBits_4_b
    rw [h.1, hi, if_pos (nI_le (Nat.le_refl _) (by omega))]
  | succ j ih =>
    intro i m hi
    rw [show j + 1 + 1 + m = (j + 1 + m) + 1 by omega]
    show f_X6_keptBits_4_b _ _ _ _ _ = _
    unfold f_X6_keptBits_4_b
    rw [h.1, if_neg (nI_nle2 (by omega) (by omega)), gd_t (inB_nI (by omega) (by omega)), nI_clamp (by omega), lt_d, lt_d, nI_1, h.2 i (by omega)]
    exact ih (i + 1) m (by omega)
theorem keptBits_ok {D : Dm} {r0 M : Nat} {l : List Nat} (h : PRk D r0 l) (hM : M < 5) (hl : l ∈ hss M) : f_X6_keptBits r0 D = some (nI (bts l), D) := by
  have hl2 := (hss_in M hM l hl).1
  unfold f_X6_keptBits
  obtain ⟨q, hq⟩ := FUs l.length (by omega)
  rw [hq, ← kbI_ok M hM l hl]
  have := kb_loop h hl2 l.length 0 q (by omega)
  rw [nI_0] at this
  exact this
/-- the place of a name in a list -/
def plc1 (l : List Nat) (n : Nat) : Nat → Option Nat
  | 0 => none
  | i + 1 => match plc1 l n i with
    | some x => some x
    | none => if l.getD i 0 = n then some i else none
theorem po_loop {D : Dm} {r0 n : Nat} {l : List Nat} (h : PRk D r0 l) (hl : l.length ≤ 2) (hn : n < 100) (hs : ∀ i, i < l.length → l.getD i 0 < 100) : ∀ (j i m : Nat), i + j = l.length → plc1 l n i = none → f_X6_placeOf_2 (j + 1 + m) r0 (nI n) (nI i) D = some (oI (plc1 l n l.length), D) := by
  intro j
  induction j with
  | zero =>
    intro i m hi hp
    have hi : i = l.length := by omega
    rw [show 0 + 1 + m = m + 1 by omega]
    show f_X6_placeOf_2_b _ _ _ _ _ = _
    unfold f_X6_placeOf_2_b
    rw [hi] at hp ⊢
    rw [h.1, if_pos (nI_le (Nat.le_refl _) (by omega)), hp]
    rfl
  | succ j ih =>
    intro i m hi hp
    rw [show j + 1 + 1 + m = (j + 1 + m) + 1 by omega]
    show f_X6_placeOf_2_b _ _ _ _ _ = _
    unfold f_X6_placeOf_2_b
    rw [h.1, if_neg (nI_nle2 (by omega) (by omega)), gd_t (inB_nI (by omega) (by omega)), nI_clamp (by omega), lt_d, nI_1, h.2 i (by omega)]
    have q1 := hs i (by omega)
    by_cases e : l.getD i 0 = n
    · rw [if_pos (by unfold lnm; rw [e])]
      have p1 : plc1 l n (i + 1) = some i := by
        show (match plc1 l n i with | some x => some x | none => _) = _
        rw [hp]
        exact if_pos e
      have mono : ∀ k, plc1 l n (i + 1 + k) = some i := by
        intro k
        induction k with
        | zero => exact p1
        | succ k ihk =>
          show (match plc1 l n (i + 1 + k) with | some x => some x | none => _) = _
          rw [ihk]
      have := mono (l.length - (i + 1))
      rw [show i + 1 + (l.length - (i + 1)) = l.length by omega] at this
      rw [this]
      rfl
    · rw [if_neg (show ¬ lnm l i = nI n from fun q => e (nI_inj (by omega) (by omega) q))]
      refine ih (i + 1) m (by omega) ?_
      show (match plc1 l n i with | some x => some x | none => _) = _
      rw [hp]
      exact if_neg e
/-- the place, as a number, none if it isn't there -/
def plI (l : List Nat) (n : Nat) : Int32 := oI (plc1 l n l.length)
theorem placeOf_ok {D : Dm} {r0 n : Nat} {l : List Nat} (h : PRk D r0 l) (hl : l.length ≤ 2) (hn : n < 100) (hs : ∀ i, i < l.length → l.getD i 0 < 100) : f_X6_placeOf r0 (nI n) D = some (plI l n, D) := by
  unfold f_X6_placeOf
  obtain ⟨q, hq⟩ := FUs l.length (by omega)
  have := po_loop h hl hn hs l.length 0 q (by omega) rfl
  rw [nI_0] at this
  rw [hq]
  exact this
