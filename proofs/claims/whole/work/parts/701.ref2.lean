/-! ===== the reference looks at one instance of a test ===== -/
def asv (gs : List Nat) (i : Nat) : Int32 := dnm 100 nI (dig gs i) i
theorem bt1 : ∀ r, r < 16 → ∀ n, n < 4 → ((((nI r >>> (nI n &&& 31)) &&& 1) = 1) ↔ r.testBit n = true) := by decide +kernel
theorem bt2 : ∀ r, r < 16 → ∀ n, n < 4 → (nI r ||| ((1 : Int32) <<< (nI n &&& 31))) = nI (r ||| 2 ^ n) ∧ r ||| 2 ^ n < 16 := by decide +kernel
theorem bt3 : ∀ r, r < 16 → ∀ n, n < 4 → ∀ m, m < 4 → (r ||| 2 ^ n).testBit m = (r.testBit m || decide (m = n)) := by decide +kernel
theorem take_c {gs : List Nat} {j x : Nat} (h : j < gs.length) : (gs.take (j + 1)).contains x = ((gs.take j).contains x || decide (x = dig gs j)) := by
  have e : gs.take (j + 1) = gs.take j ++ [dig gs j] := by
    unfold dig
    rw [List.take_add_one, List.getD_eq_getElem?_getD, List.getElem?_eq_getElem h]
    rfl
  rw [e, Bool.eq_iff_iff, contains_iff, List.mem_append, Bool.or_eq_true, contains_iff, decide_eq_true_eq]
  simp
theorem zap_dig {gs : List Nat} {g i : Nat} : dig (zap g gs) i = if dig gs i = g then 0 else dig gs i := by
  unfold zap
  rw [dig_map (by split <;> rfl)]
/-- a name that nothing else has is like another one -/
theorem ans_spare {T : Tb} {acc : Int32} {ts : Tst} {b M t j : Nat} {c : Cf} {gs : List Nat} {ν : Int32 → Int32} (hM : M < 5) (hc : okC c M) (hT : okT ts b) (ht : t < b) (hg : gs ∈ insts M [] (ts t).2) (hj : j < (ts t).2) (h0 : dig gs j ≠ 0) (hν : ∀ i, i < (ts t).2 → ν (nI i) = if i = j then nI 200 else asv gs i) : ans T acc c (ts t).1 ν = aG T acc ts c 100 nI t (zap (dig gs j) gs) := by
  obtain ⟨hd, hl⟩ := hT t ht
  obtain ⟨-, a2, -⟩ := in_ok M hM _ (by omega) gs hg
  have hc1 := okC_100 hM hc
  have zd : ∀ i, i < (ts t).2 → dig (zap (dig gs j) gs) i = if i = j then 0 else dig gs i := fun i hi => by
    rw [zap_dig]
    by_cases e : i = j
    · rw [if_pos (by rw [e]), if_pos e]
    · rw [if_neg e, if_neg (fun q => e ((a2 j hj).2 i hi h0 q.symm).symm)]
  have hν' : ∀ i, i < (ts t).2 → nmg 100 nI (zap (dig gs j) gs) (nI i) = if i = j then nI (100 + j) else asv gs i := fun i hi => by
    rw [nmg_at (by omega), zd i hi]
    by_cases e : i = j
    · rw [if_pos e, if_pos e, e]; rfl
    · rw [if_neg e, if_neg e]; rfl
  have av : ∀ i, i < (ts t).2 → ∃ k, asv gs i = nI k ∧ k ≠ 200 ∧ (k = 100 + j → i = j) ∧ k < 1000 := fun i hi => by
    unfold asv dnm
    by_cases e : dig gs i = 0
    · rw [if_pos e]; exact ⟨_, rfl, by omega, by omega, by omega⟩
    · rw [if_neg e]; have := (a2 i hi).1; exact ⟨_, rfl, by omega, by omega, by omega⟩
  have rg : ∀ r, (r = -1 ∨ ∃ k, k < 100 ∧ r = nI k) → ∀ q, 100 ≤ q → q < 1000 → nI q ≠ r := fun r hr q h1 h2 e => by
    rcases hr with h | ⟨k, hk, h⟩
    · rw [h] at e; exact nI_n1 (by omega) e
    · rw [h] at e; have := nI_inj (by omega) (by omega) e; omega
  unfold aG
  refine ans_pat (d := (ts t).2) (fun a ha => (hl a ha).2) rfl Iff.rfl Iff.rfl Iff.rfl (fun i hi => ?_) (fun i k hi hk => ?_) (fun i hi => ?_) (fun i hi => ?_)
  · rw [hν i hi, hν' i hi]
    obtain ⟨k, e, -, -, h⟩ := av i hi
    by_cases q : i = j
    · rw [if_pos q, if_pos q]; exact ⟨nI_n1 (by omega), nI_n1 (by omega)⟩
    · rw [if_neg q, if_neg q, e]; exact ⟨nI_n1 (by omega), nI_n1 (by omega)⟩
  · rw [hν i hi, hν' i hi, hν k hk, hν' k hk]
    obtain ⟨k1, e1, n1, m1, h1⟩ := av i hi
    obtain ⟨k2, e2, n2, m2, h2⟩ := av k hk
    by_cases q : i = j
    · by_cases q2 : k = j
      · rw [if_pos q, if_pos q, if_pos q2, if_pos q2]; exact ⟨fun _ => rfl, fun _ => rfl⟩
      · rw [if_pos q, if_pos q, if_neg q2, if_neg q2, e2]
        exact ⟨fun e => absurd (nI_inj (by omega) (by omega) e).symm n2, fun e => absurd (m2 (nI_inj (by omega) (by omega) e).symm) q2⟩
    · by_cases q2 : k = j
      · rw [if_neg q, if_neg q, if_pos q2, if_pos q2, e1]
        exact ⟨fun e => absurd (nI_inj (by omega) (by omega) e) n1, fun e => absurd (m1 (nI_inj (by omega) (by omega) e)) q⟩
      · rw [if_neg q, if_neg q, if_neg q2, if_neg q2]
  · rw [hν i hi, hν' i hi]
    by_cases q : i = j
    · rw [if_pos q, if_pos q]
      exact ⟨fun e => absurd e (rg _ hc1.1 _ (by omega) (by omega)), fun e => absurd e (rg _ hc1.1 _ (by omega) (by omega))⟩
    · rw [if_neg q, if_neg q]
  · rw [hν i hi, hν' i hi]
    by_cases q : i = j
    · rw [if_pos q, if_pos q]
      exact ⟨fun e => absurd e (rg _ hc1.2 _ (by omega) (by omega)), fun e => absurd e (rg _ hc1.2 _ (by omega) (by omega))⟩
    · rw [if_neg q, if_neg q]
theorem ans_asv {T : Tb} {acc : Int32} {ts : Tst} {b t : Nat} {c : Cf} {gs : List Nat} {ν : Int32 → Int32} (hT : okT ts b) (ht : t < b) (hν : ∀ i, i < (ts t).2 → ν (nI i) = asv gs i) : ans T acc c (ts t).1 ν = aG T acc ts c 100 nI t gs := by
  obtain ⟨hd, hl⟩ := hT t ht
  unfold aG
  refine ans_congr (fun a ha => ?_)
  obtain ⟨-, k, hk, e⟩ := hl a ha
  rw [e, hν k hk, nmg_at (by omega)]
  rfl
abbrev SAS (j k : Nat) : Prop := j = 301 ∨ j = 303 ∨ (j = 281 ∧ (k = 3 ∨ k = 4 ∨ k = 5 ∨ k = 42 ∨ k = 44 ∨ k = 45))
/-- what stands behind the instances of a list, from r on, w being wanted -/
def AS (D : Dm) (A : List Nat → Bool) (w : Option Nat) (t d r : Nat) (L : List (List Nat)) : Prop :=
  (D 281 45 = 0 ∧ (∃ r', D 281 42 = nI r' ∧ r' < 16 ∧ ∀ n, n < 4 → r'.testBit n = (r.testBit n || L.any (shB A (n + 1)))) ∧ ∀ x, w = some x → L.find? (shB A (x + 1)) = none) ∨
  (D 281 45 = 1 ∧ ∃ x gs, w = some x ∧ L.find? (shB A (x + 1)) = some gs ∧ D 281 44 = nI t ∧ ∀ i, i < d → D 303 i = asv gs i)
theorem la128 {D0 : Dm} : ∀ (j i m : Nat) (D : Dm), i + j = 3 → Fr (fun j k => j = 303) D0 D → (∀ q, q < i → D 303 q = D0 301 q) → Y (f_X12_looksAt_128 (j + 1 + m) (nI i) D) (fun D' => Fr (fun j k => j = 303) D0 D' ∧ ∀ q, q < 3 → D' 303 q = D0 301 q) := by
  intro j
  induction j with
  | zero =>
    intro i m D hi hF hq
    have hi : i = 3 := by omega
    subst hi
    rw [show 0 + 1 + m = m + 1 by omega]
    show Y (f_X12_looksAt_128_b _ _ _) _
    unfold f_X12_looksAt_128_b
    exact yPos (by decide) (yRet ⟨hF, hq⟩)
  | succ j ih =>
    intro i m D hi hF hq
    rw [show j + 1 + 1 + m = (j + 1 + m) + 1 by omega]
    show Y (f_X12_looksAt_128_b _ _ _) _
    unfold f_X12_looksAt_128_b
    refine yNeg (show ¬ nI 3 ≤ nI i from nI_nle2 (by omega) (by omega)) (yGd (inB_nI (by omega) (by omega)) (yGd (inB_nI (by omega) (by omega)) ?_))
    rw [lt_d, lt_d, nI_1, nI_clamp (by omega)]
    refine ih (i + 1) m _ (by omega) (Fr.ud (S := fun j k => j = 303) hF rfl) (fun q hq2 => ?_)
    rw [ud_at]
    by_cases e : q = i
    · rw [if_pos ⟨rfl, e⟩, e, hF 301 i (by omega)]
    · rw [if_neg (by omega)]; exact hq q (by omega)
section
variable {D0 : Dm} {T : Tb} {acc : Int32} {ts : Tst} {b M t : Nat} {c : Cf} {w : Option Nat}
theorem la_ok (hM : M < 5) (hc : okC c M) (hst : okSt c.1) (hMR : MR D0 0 T acc) (hT : TR D0 ts b) (ht : t < b) (hO : getO D0 = c) (hw : D0 281 43 = oI w) {r : Nat} (hr : r < 16) (hwr : ∀ x, w = some x → x < 4 ∧ r.testBit x = false) {gs : List Nat} (hg : gs ∈ insts M [] (ts t).2) (has : ∀ i, i < (ts t).2 → D0 301 i = asv gs i) (h45 : D0 281 45 = 0) (h42 : D0 281 42 = nI r) :
    Y (f_X12_looksAt (nI t) (nI (ts t).2) D0) (fun D => Fr SAS D0 D ∧ (∀ i, D 301 i = D0 301 i) ∧ AS D (aG T acc ts c 100 nI t) w t (ts t).2 r [gs]) := by
  have hokT := hT.okT
  obtain ⟨hd, hl⟩ := hokT t ht
  obtain ⟨a1, a2, a3⟩ := in_ok M hM _ (by omega) gs hg
  have hb := hT.1
  generalize hA : aG T acc ts c 100 nI t = A
  have fr1 : ∀ {D : Dm}, Fr SAS D0 D → MR D 0 T acc ∧ TR D ts b ∧ getO D = c ∧ D 281 43 = oI w := fun hF => ⟨hMR.fr (fun k => hF 282 k (by unfold SAS; omega)), hT.fr (hF _ _ (by unfold SAS; omega)) (fun j k h1 h2 => hF j k (by unfold SAS; omega)), by
    rw [← hO]; unfold getO; rw [hF _ _ (by unfold SAS; omega), hF _ _ (by unfold SAS; omega), hF _ _ (by unfold SAS; omega)], by rw [hF _ _ (by unfold SAS; omega)]; exact hw⟩
  have loop : ∀ (j i m : Nat) (D : Dm) (rj : Nat), i + j = (ts t).2 → Fr SAS D0 D → (∀ i, D 301 i = D0 301 i) → D 281 45 = 0 → D 281 42 = nI rj → rj < 16 → (∀ n, n < 4 → rj.testBit n = (r.testBit n || ((gs.take i).contains (n + 1) && (A gs != A (zap (n + 1) gs))))) → (∀ x, w = some x → rj.testBit x = false) →
      Y (f_X12_looksAt_9 (j + 1 + m) (nI t) (nI (ts t).2) (b01 (A gs)) (nI i) D) (fun D => Fr SAS D0 D ∧ (∀ i, D 301 i = D0 301 i) ∧ AS D A w t (ts t).2 r [gs]) := by
    intro j
    induction j with
    | zero =>
      intro i m D rj hi hF h1 h45 h42 hrj hbit hx
      have hi : i = (ts t).2 := by omega
      rw [show 0 + 1 + m = m + 1 by omega]
      show Y (f_X12_looksAt_9_b _ _ _ _ _ _) _
      unfold f_X12_looksAt_9_b
      have tk : gs.take i = gs := by rw [List.take_of_length_le (by omega)]
      rw [tk] at hbit
      refine yPos (by rw [hi]; exact nI_le (Nat.le_refl _) (by omega)) (yRet ⟨hF, h1, Or.inl ⟨h45, ⟨rj, h42, hrj, fun n hn => ?_⟩, fun x hxw => ?_⟩⟩)
      · rw [hbit n hn]; simp [shB]
      · have e1 := hx x hxw
        obtain ⟨q1, q2⟩ := hwr x hxw
        rw [hbit x q1, q2, Bool.false_or] at e1
        rw [List.find?_eq_none]
        intro y hy
        have : y = gs := by simpa using hy
        rw [this]
        unfold shB
        rw [e1]
        simp
    | succ j ih =>
      intro i m D rj hi hF h1 h45 h42 hrj hbit hx
      rw [show j + 1 + 1 + m = (j + 1 + m) + 1 by omega]
      show Y (f_X12_looksAt_9_b _ _ _ _ _ _) _
      unfold f_X12_looksAt_9_b
      refine yNeg (nI_nle2 (by omega) (by omega)) (yGd (inB_nI (by omega) (by omega)) (yLt0 ?_))
      rw [nI_clamp (show i < 2 ^ 31 by omega), h1 i, has i (by omega)]
      have q1 := (a2 i (by omega)).1
      have nxt : ∀ (D' : Dm) (r' : Nat), Fr SAS D0 D' → (∀ i, D' 301 i = D0 301 i) → D' 281 45 = 0 → D' 281 42 = nI r' → r' < 16 → (∀ n, n < 4 → r'.testBit n = (r.testBit n || ((gs.take (i + 1)).contains (n + 1) && (A gs != A (zap (n + 1) gs))))) → (∀ x, w = some x → r'.testBit x = false) → Y (f_X12_looksAt_155 (f_X12_looksAt_9 (j + 1 + m)) (nI t) (nI (ts t).2) (b01 (A gs)) (nI i) D') (fun D => Fr SAS D0 D ∧ (∀ i, D 301 i = D0 301 i) ∧ AS D A w t (ts t).2 r [gs]) := by
        intro D' r' f1 f2 f3 f4 f5 f6 f7
        unfold f_X12_looksAt_155
        rw [lt_d, nI_1]
        exact ih (i + 1) m D' r' (by omega) f1 f2 f3 f4 f5 f6 f7
      by_cases hz : dig gs i = 0
      · have ev : asv gs i = nI (100 + i) := by unfold asv dnm; rw [if_pos hz]
        rw [ev]
        refine yPos (show nI 100 ≤ nI (100 + i) from nI_le (by omega) (by omega)) (nxt D rj hF h1 h45 h42 hrj (fun n hn => ?_) hx)
        rw [hbit n hn, take_c (by omega), hz]
        simp
      · obtain ⟨n, hn, en⟩ : ∃ n, n < 4 ∧ dig gs i = n + 1 := ⟨dig gs i - 1, by omega, by omega⟩
        have ev : asv gs i = nI n := by unfold asv dnm; rw [if_neg hz, en]; rfl
        rw [ev]
        refine yNeg (show ¬ nI 100 ≤ nI n from nI_nle2 (by omega) (by omega)) ?_
        rw [h42]
        have tkn : (gs.take i).contains (n + 1) = false := by
          cases hh : (gs.take i).contains (n + 1) with
          | false => rfl
          | true =>
            obtain ⟨k, hk, ek⟩ := List.mem_iff_getElem.mp (contains_iff.mp hh)
            rw [List.getElem_take] at ek
            rw [List.length_take] at hk
            have : dig gs k = n + 1 := by
              unfold dig
              rw [List.getD_eq_getElem?_getD, List.getElem?_eq_getElem (by omega), ek]
              rfl
            have := (a2 k (by omega)).2 i (by omega) (by omega) (by omega)
            omega
        have stay : (rj.testBit n = true ∨ A gs = A (zap (n + 1) gs)) → ∀ k, k < 4 → rj.testBit k = (r.testBit k || ((gs.take (i + 1)).contains (k + 1) && (A gs != A (zap (k + 1) gs)))) := by
          intro hor k hk
          rw [hbit k hk, take_c (by omega), en]
          by_cases ek : k = n
          · subst ek
            rw [tkn]
            rcases hor with ho | ho
            · rw [hbit k hk, tkn, Bool.false_and, Bool.or_false] at ho
              rw [ho]; simp
            · rw [ho]; simp
          · simp [ek]
        refine yIte (fun hbt => ?_) (fun hbt => ?_)
        · exact nxt D rj hF h1 h45 h42 hrj (stay (Or.inl ((bt1 rj hrj n hn).mp hbt))) hx
        · have hbt : rj.testBit n = false := by
            cases hh : rj.testBit n with
            | false => rfl
            | true => exact absurd ((bt1 rj hrj n hn).mpr hh) hbt
          refine yGd (inB_nI (by omega) (by omega)) (yLt (fun D1 hD1 => ?_))
          have hF1 : Fr SAS D0 D1 := by rw [hD1]; exact hF.ud (by unfold SAS; omega)
          obtain ⟨m1, m2, m3, m4⟩ := fr1 hF1
          refine yBI (ra1_ok m1 m2 ht (by rw [m3]; exact hst)) (fun v D2 h => ?_)
          dsimp only at h
          obtain ⟨ev2, c', eD2⟩ := h
          have ez : ans T acc (getO D1) (ts t).1 (fun x => D1 301 x.toNatClampNeg) = A (zap (n + 1) gs) := by
            rw [m3, ← hA, ← en]
            refine ans_spare hM hc hokT ht hg (show i < (ts t).2 by omega) hz (fun k hk => ?_)
            show D1 301 (nI k).toNatClampNeg = _
            rw [nI_clamp (by omega), hD1, ud_at]
            by_cases e : k = i
            · rw [if_pos ⟨rfl, e⟩, if_pos e]; rfl
            · rw [if_neg (by omega), if_neg e, h1, has k hk]
          rw [ez] at ev2
          rw [ev2]
          have hF2 : Fr SAS D0 D2 := by rw [eD2]; exact hF1.r (by unfold SAS; omega) (by unfold SAS; omega) (by unfold SAS; omega)
          have g301 : ∀ k, ud D2 301 i (nI n) 301 k = D0 301 k := fun k => by
            rw [ud_at, eD2, setR_ne (by decide), hD1, ud_at]
            by_cases e : k = i
            · rw [if_pos ⟨rfl, e⟩, e, has i (by omega), ev]
            · rw [if_neg (by omega), if_neg (by omega), h1]
          have g281 : ∀ k, k ≠ 3 → k ≠ 4 → k ≠ 5 → ud D2 301 i (nI n) 281 k = D 281 k := fun k k3 k4 k5 => by
            rw [ud_at, if_neg (by omega), eD2, setR_at, if_neg (by omega), if_neg (by omega), if_neg (by omega), hD1, ud_at, if_neg (by omega)]
          unfold f_X12_looksAt_71
          refine yIte (fun hv => yGd (inB_nI (by omega) (by omega)) (yLt0 (yPos rfl ?_))) (fun hv => yGd (inB_nI (by omega) (by omega)) (yLt (fun D3 hD3 => yNeg (by decide) ?_)))
          · rw [nI_clamp (show i < 2 ^ 31 by omega)]
            refine nxt _ rj (hF2.ud (by unfold SAS; omega)) g301 (by rw [g281 45 (by omega) (by omega) (by omega)]; exact h45) (by rw [g281 42 (by omega) (by omega) (by omega)]; exact h42) hrj (stay (Or.inr ?_)) hx
            cases h1 : A gs <;> cases h2 : A (zap (n + 1) gs) <;> rw [h1, h2] at hv <;> first | rfl | (exact absurd hv (by decide))
          · rw [nI_clamp (show i < 2 ^ 31 by omega)] at hD3
            have hne : (A gs != A (zap (n + 1) gs)) = true := by
              cases h1 : A gs <;> cases h2 : A (zap (n + 1) gs) <;> rw [h1, h2] at hv <;> first | rfl | (exact absurd rfl hv)
            have hshB : shB A (n + 1) gs = true := by
              unfold shB
              rw [hne, Bool.and_true, contains_iff, ← en]
              unfold dig
              rw [List.getD_eq_getElem?_getD, List.getElem?_eq_getElem (show i < gs.length by omega)]
              exact List.getElem_mem _
            have g42 : D3 281 42 = nI rj := by rw [hD3, g281 42 (by omega) (by omega) (by omega)]; exact h42
            rw [g42, (bt2 rj hrj n hn).1]
            have hF3 : Fr SAS D0 D3 := by rw [hD3]; exact hF2.ud (by unfold SAS; omega)
            refine yLt (fun D4 hD4 => ?_)
            have hF4 : Fr SAS D0 D4 := by rw [hD4]; exact hF3.ud (by unfold SAS; omega)
            have g43 : D4 281 43 = oI w := (fr1 hF4).2.2.2
            have f301 : ∀ k, D4 301 k = D0 301 k := fun k => by rw [hD4, ud_at, if_neg (by omega), hD3]; exact g301 k
            rw [g43]
            refine yIte (fun hwn => yLt0 (yLt (fun D5 hD5 => ?_))) (fun hwn => ?_)
            · have hF5 : Fr SAS D0 D5 := by rw [hD5]; exact (hF4.ud (by unfold SAS; omega)).ud (by unfold SAS; omega)
              obtain ⟨x, hxw⟩ : ∃ x, w = some x := by
                cases w with
                | some x => exact ⟨x, rfl⟩
                | none => exact absurd hwn (nI_n1 (by omega))
              have exn : x = n := by
                rw [hxw] at hwn
                have := (hwr x hxw).1
                exact (nI_inj (by omega) (by omega) hwn).symm
              subst exn
              obtain ⟨q, hq⟩ := FUs 3 (by omega)
              have := la128 (D0 := D5) 3 0 q D5 (by omega) Fr.refl (fun q hq => absurd hq (Nat.not_lt_zero q))
              rw [nI_0] at this
              rw [hq]
              have k301 : ∀ k, D5 301 k = D0 301 k := fun k => by rw [hD5, ud_at, if_neg (by omega), ud_at, if_neg (by omega)]; exact f301 k
              refine yMono this (fun D6 h6 => ⟨?_, fun k => ?_, Or.inr ⟨?_, x, gs, hxw, ?_, ?_, fun k hk => ?_⟩⟩)
              · exact hF5.tr (h6.1.mono (fun j k q => by unfold SAS; omega))
              · rw [h6.1 301 k (by omega)]; exact k301 k
              · rw [h6.1 281 45 (by omega), hD5, ud_at, if_neg (by omega), ud_at, if_pos ⟨rfl, rfl⟩]
              · rw [List.find?_cons, hshB]
              · rw [h6.1 281 44 (by omega), hD5, ud_at, if_pos ⟨rfl, rfl⟩]
              · rw [h6.2 k (by omega), k301 k, has k hk]
            · refine nxt D4 (rj ||| 2 ^ n) hF4 f301 ?_ ?_ (bt2 rj hrj n hn).2 (fun k hk => ?_) (fun x hxw => ?_)
              · rw [hD4, ud_at, if_neg (by omega), hD3, g281 45 (by omega) (by omega) (by omega)]; exact h45
              · rw [hD4, ud_at, if_pos ⟨rfl, rfl⟩]
              · rw [bt3 rj hrj n hn k hk, hbit k hk, take_c (by omega), en]
                by_cases ek : k = n
                · subst ek
                  rw [tkn, hne]; simp
                · simp [ek]
              · have := (hwr x hxw).1
                rw [bt3 rj hrj n hn x this, hx x hxw, Bool.false_or]
                rw [decide_eq_false_iff_not]
                intro e
                apply hwn
                rw [hxw, e]
                rfl
  unfold f_X12_looksAt
  obtain ⟨m1, m2, m3, m4⟩ := fr1 (Fr.refl)
  refine yBI (ra1_ok m1 m2 ht (by rw [m3]; exact hst)) (fun v D2 h => ?_)
  dsimp only at h
  obtain ⟨ev2, c', eD2⟩ := h
  have ez : ans T acc (getO D0) (ts t).1 (fun x => D0 301 x.toNatClampNeg) = A gs := by
    rw [m3, ← hA]
    refine ans_asv hokT ht (fun k hk => ?_)
    show D0 301 (nI k).toNatClampNeg = _
    rw [nI_clamp (by omega)]
    exact has k hk
  rw [ez] at ev2
  rw [ev2]
  obtain ⟨q, hq⟩ := FUs (ts t).2 (by omega)
  have g281 : ∀ k, k ≠ 3 → k ≠ 4 → k ≠ 5 → D2 281 k = D0 281 k := fun k k3 k4 k5 => by
    rw [eD2, setR_at, if_neg (by omega), if_neg (by omega), if_neg (by omega)]
  have := loop (ts t).2 0 q D2 r (by omega) (by rw [eD2]; exact Fr.refl.r (by unfold SAS; omega) (by unfold SAS; omega) (by unfold SAS; omega)) (fun k => by rw [eD2, setR_ne (by decide)]) (by rw [g281 45 (by omega) (by omega) (by omega)]; exact h45) (by rw [g281 42 (by omega) (by omega) (by omega)]; exact h42) hr (fun n hn => by simp) (fun x hx => (hwr x hx).2)
  rw [nI_0] at this
  rw [hq]
  exact this
end
