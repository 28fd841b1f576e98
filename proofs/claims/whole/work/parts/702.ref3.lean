/-! ===== the reference asks all instances of a test ===== -/
theorem AS_more {D' : Dm} {A : List Nat → Bool} {w : Option Nat} {t d r r' : Nat} {L1 L2 : List (List Nat)} (hb : ∀ n, n < 4 → r'.testBit n = (r.testBit n || L1.any (shB A (n + 1)))) (hf : ∀ x, w = some x → L1.find? (shB A (x + 1)) = none) (h2 : AS D' A w t d r' L2) : AS D' A w t d r (L1 ++ L2) := by
  rcases h2 with ⟨a, ⟨r2, b1, b2, b3⟩, c⟩ | ⟨a, x, gs, b1, b2, b3, b4⟩
  · refine Or.inl ⟨a, ⟨r2, b1, b2, fun n hn => ?_⟩, fun x hx => ?_⟩
    · rw [b3 n hn, hb n hn, List.any_append, Bool.or_assoc]
    · rw [List.find?_append, hf x hx, c x hx]; rfl
  · refine Or.inr ⟨a, x, gs, b1, ?_, b3, b4⟩
    rw [List.find?_append, hf x b1, b2]; rfl
theorem AS_same {D D' : Dm} {A : List Nat → Bool} {w : Option Nat} {t d r : Nat} {L : List (List Nat)} (h : AS D A w t d r L) (hF : Fr (fun j k => j = 301 ∨ (j = 281 ∧ (k = 3 ∨ k = 4 ∨ k = 5))) D D') : AS D' A w t d r L := by
  rcases h with ⟨a, ⟨r2, b1, b2, b3⟩, c⟩ | ⟨a, x, gs, b1, b2, b3, b4⟩
  · exact Or.inl ⟨by rw [hF _ _ (by omega)]; exact a, ⟨r2, by rw [hF _ _ (by omega)]; exact b1, b2, b3⟩, c⟩
  · exact Or.inr ⟨by rw [hF _ _ (by omega)]; exact a, x, gs, b1, b2, by rw [hF _ _ (by omega)]; exact b3, fun i hi => by rw [hF _ _ (by omega)]; exact b4 i hi⟩
theorem dig_app {p s : List Nat} {i : Nat} (h : i < p.length) : dig (p ++ s) i = dig p i := by
  unfold dig
  rw [List.getD_eq_getElem?_getD, List.getD_eq_getElem?_getD, List.getElem?_append_left h]
theorem asv_eq {p : List Nat} {i n : Nat} (hn : n < 100) (hd : dig p i ≤ 100) (hi : i < 100) : asv p i = nI n ↔ dig p i = n + 1 := by
  unfold asv dnm
  by_cases h : dig p i = 0
  · rw [if_pos h, h]
    exact ⟨fun e => by have := nI_inj (by omega) (by omega) e; omega, fun e => by omega⟩
  · rw [if_neg h]
    exact ⟨fun e => by have := nI_inj (by omega) (by omega) e; omega, fun e => by rw [e]; rfl⟩
theorem as57 {self : Int32 → Int32 → Int32 → Int32 → Dm → Option Dm} {k44 : Int32 → Int32 → Int32 → Int32 → Int32 → Dm → Option Dm} {x1 x3 x4 : Int32} {p : List Nat} {n : Nat} {D : Dm} (hp : p.length ≤ 3) (hn : n < 100) (hd : ∀ i, i < p.length → dig p i ≤ 100) (has : ∀ i, i < p.length → D 301 i = asv p i) :
    ∀ (j i m : Nat), i + j = p.length → f_X12_asks_57 self k44 (j + 1 + m) x1 (nI p.length) x3 x4 (nI n) (b01 ((p.take i).contains (n + 1))) (nI i) D = if p.contains (n + 1) = true then f_X12_asks_120 self k44 x1 (nI p.length) x3 x4 (nI n) D else gd (inB (nI p.length) 3) (lt (ud D 301 p.length (nI n)) fun D4 => bV (self x1 (nI (p.length + 1)) x3 x4 D4) fun D6 => f_X12_asks_120 self k44 x1 (nI p.length) x3 x4 (nI n) D6) := by
  intro j
  induction j with
  | zero =>
    intro i m hi
    have hi : i = p.length := by omega
    rw [show 0 + 1 + m = m + 1 by omega]
    show f_X12_asks_57_b _ _ _ _ _ _ _ _ _ _ _ = _
    unfold f_X12_asks_57_b
    rw [hi, if_pos (nI_le (Nat.le_refl _) (by omega)), List.take_length, b01_if, nI_clamp (by omega), nI_1]
  | succ j ih =>
    intro i m hi
    rw [show j + 1 + 1 + m = (j + 1 + m) + 1 by omega]
    show f_X12_asks_57_b _ _ _ _ _ _ _ _ _ _ _ = _
    unfold f_X12_asks_57_b f_X12_asks_80 f_X12_asks_85
    rw [if_neg (nI_nle2 (by omega) (by omega)), b01_if, gd_t (inB_nI (by omega) (by omega)), nI_clamp (by omega), has i (by omega), lt_d, lt_d, nI_1]
    have ih := ih (i + 1) m (by omega)
    rw [take_c (by omega)] at ih
    rw [← ih]
    by_cases c : (p.take i).contains (n + 1) = true
    · rw [if_pos c, c]; rfl
    · have c' : (p.take i).contains (n + 1) = false := by simpa using c
      rw [if_neg c, c', Bool.false_or]
      by_cases e : asv p i = nI n
      · rw [if_pos e, decide_eq_true ((asv_eq hn (hd i (by omega)) (by omega)).mp e).symm]; rfl
      · rw [if_neg e, decide_eq_false (fun q => e ((asv_eq hn (hd i (by omega)) (by omega)).mpr q.symm))]; rfl
/-- the rows of digits behind p, names below n alone at the next place -/
def pls (M : Nat) (p : List Nat) (k n : Nat) : List (List Nat) := insts M (p ++ [0]) k ++ ((List.range n).filter (fun n => !(p.contains (n + 1)))).flatMap (fun n => insts M (p ++ [n + 1]) k)
theorem pls_succ {M : Nat} {p : List Nat} {k n : Nat} : pls M p k (n + 1) = pls M p k n ++ if p.contains (n + 1) = true then [] else insts M (p ++ [n + 1]) k := by
  unfold pls
  rw [List.range_succ, List.filter_append, List.flatMap_append, List.append_assoc]
  congr 2
  rw [List.filter_cons]
  by_cases h : p.contains (n + 1) = true
  · rw [h]; simp
  · have h' : p.contains (n + 1) = false := by simpa using h
    rw [h']; simp
theorem pls_sub {M : Nat} {p : List Nat} {k n : Nat} (hn : n < M) (h : p.contains (n + 1) = false) : ∀ gs ∈ insts M (p ++ [n + 1]) k, gs ∈ insts M p (k + 1) := by
  intro gs hg
  show gs ∈ insts M (p ++ [0]) k ++ _
  rw [List.mem_append]
  right
  rw [List.mem_flatMap]
  exact ⟨n, List.mem_filter.mpr ⟨List.mem_range.mpr hn, by rw [h]; rfl⟩, hg⟩
section
variable {T : Tb} {acc : Int32} {ts : Tst} {b M t : Nat} {c : Cf} {w : Option Nat}
theorem asks_ok (hM : M < 5) (hc : okC c M) (hst : okSt c.1) (ht : t < b) : ∀ (k m : Nat) (p : List Nat) (D0 : Dm) (r : Nat), MR D0 0 T acc → TR D0 ts b → getO D0 = c → D0 281 43 = oI w → r < 16 → (∀ x, w = some x → x < 4 ∧ r.testBit x = false) → p.length + k = (ts t).2 → (∀ gs ∈ insts M p k, gs ∈ insts M [] (ts t).2) → (∀ i, i < p.length → dig p i ≤ M ∧ D0 301 i = asv p i) → D0 281 45 = 0 → D0 281 42 = nI r →
    Y (f_X12_asks (k + 1 + m) (nI t) (nI p.length) (nI (ts t).2) (nI M) D0) (fun D => Fr SAS D0 D ∧ (∀ i, i < p.length → D 301 i = D0 301 i) ∧ AS D (aG T acc ts c 100 nI t) w t (ts t).2 r (insts M p k)) := by
  generalize hA : aG T acc ts c 100 nI t = A
  intro k
  induction k with
  | zero =>
    intro m p D0 r hMR hT hO hw hr hwr hl hin has h45 h42
    have hd := (hT.okT t ht).1
    rw [show 0 + 1 + m = m + 1 by omega]
    show Y (f_X12_asks_e _ _ _ _ _ _) _
    unfold f_X12_asks_e
    have hl : p.length = (ts t).2 := by omega
    refine yPos h45 (yPos (by rw [hl]) ?_)
    refine yBV (la_ok (w := w) hM hc hst hMR hT ht hO hw hr hwr (hin p (by simp [insts])) (fun i hi => (has i (by omega)).2) h45 h42) (fun D1 h1 => yRet ⟨h1.1, fun i _ => h1.2.1 i, ?_⟩)
    rw [← hA]
    exact h1.2.2
  | succ k ih =>
    intro m p D0 r hMR hT hO hw hr hwr hl hin has h45 h42
    have hd := (hT.okT t ht).1
    rw [show k + 1 + 1 + m = (k + 1 + m) + 1 by omega]
    show Y (f_X12_asks_e _ _ _ _ _ _) _
    unfold f_X12_asks_e
    have fr1 : ∀ {D : Dm}, Fr SAS D0 D → MR D 0 T acc ∧ TR D ts b ∧ getO D = c ∧ D 281 43 = oI w := fun hF => ⟨hMR.fr (fun k => hF 282 k (by unfold SAS; omega)), hT.fr (hF _ _ (by unfold SAS; omega)) (fun j k h1 h2 => hF j k (by unfold SAS; omega)), by
      rw [← hO]; unfold getO; rw [hF _ _ (by unfold SAS; omega), hF _ _ (by unfold SAS; omega), hF _ _ (by unfold SAS; omega)], by rw [hF _ _ (by unfold SAS; omega)]; exact hw⟩
    refine yPos h45 (yNeg (fun e => by have := nI_inj (by omega) (by omega) e; omega) (yGd (inB_nI (by omega) (by omega)) (yLt (fun D1 hD1 => ?_))))
    rw [nI_clamp (by omega), show (100 : Int32) + nI p.length = nI (100 + p.length) from nI_add 100 _] at hD1
    have hF1 : Fr SAS D0 D1 := by rw [hD1]; exact Fr.refl.ud (by unfold SAS; omega)
    obtain ⟨m1, m2, m3, m4⟩ := fr1 hF1
    -- a step: the name at the next place is set, the rest is asked
    have stp : ∀ (x : Nat) (D : Dm) (rj : Nat), x ≤ M → (∀ gs ∈ insts M (p ++ [x]) k, gs ∈ insts M [] (ts t).2) → Fr SAS D0 D → (∀ i, i < p.length → D 301 i = D0 301 i) → D 301 p.length = asv (p ++ [x]) p.length → rj < 16 → (∀ y, w = some y → y < 4 ∧ rj.testBit y = false) → D 281 45 = 0 → D 281 42 = nI rj → Y (f_X12_asks (k + 1 + m) (nI t) (nI (p.length + 1)) (nI (ts t).2) (nI M) D) (fun D' => Fr SAS D0 D' ∧ (∀ i, i < p.length → D' 301 i = D0 301 i) ∧ AS D' A w t (ts t).2 rj (insts M (p ++ [x]) k)) := by
      intro x D rj hx hsub hF h301 hnx hrj hwj g45 g42
      obtain ⟨m1, m2, m3, m4⟩ := fr1 hF
      have := ih m (p ++ [x]) D rj m1 m2 m3 m4 hrj hwj (by simp; omega) hsub (fun i hi => ?_) g45 g42
      · rw [show (p ++ [x]).length = p.length + 1 by simp] at this
        refine yMono this (fun D' h => ⟨hF.tr h.1, fun i hi => ?_, h.2.2⟩)
        rw [h.2.1 i (by omega)]
        exact h301 i hi
      · simp at hi
        by_cases e : i = p.length
        · subst e
          refine ⟨?_, hnx⟩
          have := dig_mid (l := p) (g := x) (sf := [])
          rw [this]; exact hx
        · rw [dig_app (by omega)]
          refine ⟨(has i (by omega)).1, ?_⟩
          rw [h301 i (by omega), (has i (by omega)).2]
          unfold asv
          rw [dig_app (by omega)]
    -- the names, one by one
    have loop : ∀ (j n q : Nat) (D : Dm), n + j = M → Fr SAS D0 D → (∀ i, i < p.length → D 301 i = D0 301 i) → AS D A w t (ts t).2 r (pls M p k n) → Y (f_X12_asks_44 (f_X12_asks (k + 1 + m)) (j + 1 + q) (nI t) (nI p.length) (nI (ts t).2) (nI M) (nI n) D) (fun D' => Fr SAS D0 D' ∧ (∀ i, i < p.length → D' 301 i = D0 301 i) ∧ AS D' A w t (ts t).2 r (insts M p (k + 1))) := by
      intro j
      induction j with
      | zero =>
        intro n q D hn hF h301 hAS
        have hn : n = M := by omega
        rw [show 0 + 1 + q = q + 1 by omega]
        show Y (f_X12_asks_44_b _ _ _ _ _ _ _ _) _
        unfold f_X12_asks_44_b
        refine yPos (by rw [hn]; exact nI_le (Nat.le_refl _) (by omega)) (yRet ⟨hF, h301, ?_⟩)
        rw [hn] at hAS
        exact hAS
      | succ j ihj =>
        intro n q D hn hF h301 hAS
        rw [show j + 1 + 1 + q = (j + 1 + q) + 1 by omega]
        show Y (f_X12_asks_44_b _ _ _ _ _ _ _ _) _
        unfold f_X12_asks_44_b
        refine yNeg (nI_nle2 (by omega) (by omega)) ?_
        obtain ⟨z, hz⟩ := FUs p.length (by omega)
        have e57 := as57 (self := f_X12_asks (k + 1 + m)) (k44 := f_X12_asks_44 (f_X12_asks (k + 1 + m)) (j + 1 + q)) (x1 := nI t) (x3 := nI (ts t).2) (x4 := nI M) (p := p) (n := n) (D := D) (by omega) (by omega) (fun i hi => by have := (has i hi).1; omega) (fun i hi => by rw [h301 i hi]; exact (has i hi).2) p.length 0 z (by omega)
        rw [nI_0, show b01 ((p.take 0).contains (n + 1)) = 0 by simp [b01]] at e57
        rw [hz, e57]
        unfold f_X12_asks_120
        simp only [lt_d, nI_1]
        by_cases hcn : p.contains (n + 1) = true
        · rw [if_pos hcn]
          refine ihj (n + 1) q D (by omega) hF h301 ?_
          rw [pls_succ, if_pos hcn, List.append_nil]
          exact hAS
        · have hcf : p.contains (n + 1) = false := by simpa using hcn
          rw [if_neg hcn]
          refine yGd (inB_nI (by omega) (by omega)) ?_
          have u301 : ∀ i, i < p.length → ud D 301 p.length (nI n) 301 i = D0 301 i := fun i hi => by rw [ud_at, if_neg (by omega)]; exact h301 i hi
          have uF : Fr SAS D0 (ud D 301 p.length (nI n)) := hF.ud (by unfold SAS; omega)
          rcases hAS with ⟨a, ⟨r2, b1, b2, b3⟩, cc⟩ | hsh
          · have hwj : ∀ y, w = some y → y < 4 ∧ r2.testBit y = false := fun y hy => by
              obtain ⟨q1, q2⟩ := hwr y hy
              refine ⟨q1, ?_⟩
              rw [b3 y q1, q2, Bool.false_or]
              have := cc y hy
              rw [List.find?_eq_none] at this
              rw [List.any_eq_false]
              exact this
            refine yBV (stp (n + 1) _ r2 (by omega) (fun gs hg => hin gs (pls_sub (by omega) hcf gs hg)) uF u301 ?_ b2 hwj (by rw [ud_at, if_neg (by omega)]; exact a) (by rw [ud_at, if_neg (by omega)]; exact b1)) (fun D2 h2 => ?_)
            · rw [ud_at, if_pos ⟨rfl, rfl⟩]
              unfold asv dnm
              rw [dig_mid, if_neg (by omega)]
              rfl
            · refine ihj (n + 1) q D2 (by omega) h2.1 h2.2.1 ?_
              rw [pls_succ, if_neg hcn]
              exact AS_more b3 cc h2.2.2
          · have e45 : ud D 301 p.length (nI n) 281 45 = 1 := by rw [ud_at, if_neg (by omega)]; exact hsh.1
            have es : f_X12_asks (k + 1 + m) (nI t) (nI (p.length + 1)) (nI (ts t).2) (nI M) (ud D 301 p.length (nI n)) = some (ud D 301 p.length (nI n)) := by
              rw [show k + 1 + m = (k + m) + 1 by omega]
              show f_X12_asks_e _ _ _ _ _ _ = _
              unfold f_X12_asks_e
              rw [if_neg (by rw [e45]; decide)]
            rw [es, bV_d]
            refine ihj (n + 1) q _ (by omega) uF u301 ?_
            rw [pls_succ, if_neg hcn]
            obtain ⟨z1, x, gs, z2, z3, z4, z5⟩ := hsh
            refine Or.inr ⟨e45, x, gs, z2, ?_, by rw [ud_at, if_neg (by omega)]; exact z4, fun i hi => by rw [ud_at, if_neg (by omega)]; exact z5 i hi⟩
            rw [List.find?_append, z3]
            rfl
    rw [nI_1]
    refine yBV (stp 0 D1 r (by omega) (fun gs hg => hin gs (by show gs ∈ insts M (p ++ [0]) k ++ _; rw [List.mem_append]; exact Or.inl hg)) hF1 (fun i hi => by rw [hD1, ud_at, if_neg (by omega)]) ?_ hr hwr (by rw [hD1, ud_at, if_neg (by omega)]; exact h45) (by rw [hD1, ud_at, if_neg (by omega)]; exact h42)) (fun D2 h2 => ?_)
    · rw [hD1, ud_at, if_pos ⟨rfl, rfl⟩]
      unfold asv dnm
      rw [dig_mid, if_pos rfl]
    · obtain ⟨q, hq⟩ := FUs M (by omega)
      have := loop M 0 q D2 (by omega) h2.1 h2.2.1 (by unfold pls; simpa using h2.2.2)
      rw [nI_0] at this
      rw [hq]
      exact this
end
