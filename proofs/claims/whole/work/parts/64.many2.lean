/-- the class's trail: cells from q to 280 may change -/
def frT (D D' : Dm) (q : Nat) : Prop := ∀ j k, (j < q ∨ 280 < j) → D' j k = D j k
theorem frT_refl {D : Dm} {q : Nat} : frT D D q := fun _ _ _ => rfl
theorem frT_tr {D D' D'' : Dm} {p q : Nat} (h1 : frT D D' p) (h2 : frT D' D'' q) (hpq : p ≤ q) : frT D D'' p := fun j k h => by
  rw [h2 j k (by omega), h1 j k h]
theorem ar268 : ∀ i, i < 6 → ar_268 i = 269 + 2 * i := by decide +kernel
theorem frT_set {D : Dm} {i q : Nat} {c : Cf} (h : q ≤ 269 + 2 * i) (hi : i < 6) : frT D (setGo D (269 + 2 * i) c) q := fun j k hj => by
  rw [setGo_at, if_neg (by omega), if_neg (by omega), if_neg (by omega)]
theorem frT_go {D D' : Dm} {i q : Nat} (h : frT D D' q) (hq : 269 + 2 * i + 1 < q) : getGo D' (269 + 2 * i) = getGo D (269 + 2 * i) := by
  unfold getGo
  rw [h _ _ (by omega), h _ _ (by omega), h _ _ (by omega)]
/-- what the class's recursion gives -/
def CtC (self : Nat → Int32 → Int32 → Int32 → Dm → Option (Int32 × Dm)) (D : Dm) (r : Nat) (T : Tb) (acc : Int32) (Y L i N : Nat) : Prop :=
  ∀ (c : Cf) (n : Nat) (D' : Dm), frT D D' 269 → getGo D' (269 + 2 * i) = c → okSt c.1 → n ≤ N → ∃ D'', self r (nI i) (nI n) (nI L) D' = some (nI (tkn T acc Y (L - i) c n), D'') ∧ frT D' D'' (271 + 2 * i)
theorem cc67 {D : Dm} {r m : Nat} {T : Tb} {acc : Int32} {Y L i n : Nat} (hr : r = 9 + 4 * m) (hm : m < 2) (hw : wfM (D r 0) (D r 1) (D r 2) (D r 3) (D (r + 1)) (D (r + 2)) (D (r + 3))) (hTe : T = (D (r + 1), D (r + 2), D (r + 3))) {self : Nat → Int32 → Int32 → Int32 → Dm → Option (Int32 × Dm)} (hS : CtC self D r T acc Y L (i + 1) (n + 1)) (hn : n < 20) (hi : i < 5) (hiL : i < L) {c : Cf} (hc : okSt c.1) {y : Nat} (hy : y < 2)
    {k55 : Nat → Int32 → Int32 → Int32 → Nat → Int32 → Int32 → Dm → Option (Int32 × Dm)} {B : Nat} :
    ∀ (j v q : Nat) (D' : Dm), v + j = n + 1 → frT D D' 269 → getGo D' (269 + 2 * i) = c → ∃ D'', frT D' D'' (271 + 2 * i) ∧ f_X11_countTaken_67 self k55 (j + 1 + q) r (nI i) (nI n) (nI L) (269 + 2 * i) (nI (B + sN (fun nm => tkn T acc Y (L - (i + 1)) (step T c (nI y, nI nm)) (if nm = n then n + 1 else n)) v)) (nI y) (nI v) D' =
      k55 r (nI i) (nI n) (nI L) (269 + 2 * i) (nI (B + sN (fun nm => tkn T acc Y (L - (i + 1)) (step T c (nI y, nI nm)) (if nm = n then n + 1 else n)) (n + 1))) (nI (y + 1)) D'' := by
  have hyS : isSy (nI y) := by
    have : y = 0 ∨ y = 1 := by omega
    rcases this with rfl | rfl <;> decide
  have hT : wfT T := by rw [hTe]; exact hw.tb
  intro j
  induction j with
  | zero =>
    intro v q D' hv hf hg
    have hv : v = n + 1 := by omega
    subst hv
    refine ⟨D', frT_refl, ?_⟩
    rw [show 0 + 1 + q = q + 1 by omega]
    show f_X11_countTaken_67_b _ _ _ _ _ _ _ _ _ _ _ _ = _
    unfold f_X11_countTaken_67_b
    rw [if_pos (nI_lt (by omega) (by omega)), lt_d, nI_1]
  | succ j ih =>
    intro v q D' hv hf hg
    have f1 : frT D' (setGo D' (269 + 2 * (i + 1)) (step T c (nI y, nI v))) (271 + 2 * i) := frT_set (by omega) (by omega)
    obtain ⟨D2, h1, f2⟩ := hS (step T c (nI y, nI v)) (if v = n then n + 1 else n) (setGo D' (269 + 2 * (i + 1)) (step T c (nI y, nI v))) (frT_tr hf f1 (by omega)) (by rw [getGo_set]) (mst_ok (fun k hk => (hT k hk).1) hc hyS) (by split <;> omega)
    have f3 : frT D' D2 (271 + 2 * i) := frT_tr f1 f2 (by omega)
    obtain ⟨D3, f4, h2⟩ := ih (v + 1) q D2 (by omega) (frT_tr hf f3 (by omega)) (by rw [frT_go f3 (by omega), hg])
    refine ⟨D3, frT_tr f3 f4 (Nat.le_refl _), ?_⟩
    have a0 : ∀ a b, a < 269 → D' a b = D a b := fun a b h => hf a b (Or.inl h)
    have cp : f_X1_copy (269 + 2 * (i + 1)) (269 + 2 * i) D' = some (setGo D' (269 + 2 * (i + 1)) c) := by rw [go_copy (by omega) (by omega), hg]
    have s0 : ∀ a, a < 269 → setGo D' (269 + 2 * (i + 1)) c a = D a := fun a h => by
      funext b
      rw [setGo_at, if_neg (by omega), if_neg (by omega), if_neg (by omega), a0 a b h]
    have ad : f_X4_advance r (269 + 2 * (i + 1)) (nI y) (nI v) (setGo D' (269 + 2 * (i + 1)) c) = some (setGo D' (269 + 2 * (i + 1)) (step T c (nI y, nI v))) := by
      rw [adv_ok (by rw [s0 r (by omega), s0 (r + 1) (by omega), s0 (r + 2) (by omega), s0 (r + 3) (by omega)]; exact hw) (by
        have : setGo D' (269 + 2 * (i + 1)) c (269 + 2 * (i + 1)) 0 = c.1 := by rw [setGo_at, if_pos ⟨rfl, rfl⟩]
        rw [this]; exact hc) hyS (by omega) (by omega), s0 (r + 1) (by omega), s0 (r + 2) (by omega), s0 (r + 3) (by omega), getGo_set, setGo_set, hTe]
      rfl
    rw [show j + 1 + 1 + q = (j + 1 + q) + 1 by omega]
    show f_X11_countTaken_67_b _ _ _ _ _ _ _ _ _ _ _ _ = _
    unfold f_X11_countTaken_67_b f_X11_countTaken_116
    rw [if_neg (by rw [Int32.lt_iff_toInt_lt, nI_toInt (by omega), nI_toInt (by omega)]; omega), nI_1, gd_t (inB_nI (by omega) (by omega)), nI_clamp (by omega), ar268 (i + 1) (by omega), cp, bV_d, gd_t (inB_nI (by omega) (by omega)), ad, bV_d, nI_1]
    have h2' : f_X11_countTaken_67 self k55 (j + 1 + q) r (nI i) (nI n) (nI L) (269 + 2 * i) (nI (B + sN (fun nm => tkn T acc Y (L - (i + 1)) (step T c (nI y, nI nm)) (if nm = n then n + 1 else n)) v) + nI (tkn T acc Y (L - (i + 1)) (step T c (nI y, nI v)) (if v = n then n + 1 else n))) (nI y) (nI (v + 1)) D2 = k55 r (nI i) (nI n) (nI L) (269 + 2 * i) (nI (B + sN (fun nm => tkn T acc Y (L - (i + 1)) (step T c (nI y, nI nm)) (if nm = n then n + 1 else n)) (n + 1))) (nI (y + 1)) D3 := by
      rw [nI_add, Nat.add_assoc B]
      exact h2
    by_cases e : v = n
    · rw [if_pos (by rw [e])]
      rw [if_pos e] at h1 h2'
      rw [h1, bI_d, lt_d, lt_d, nI_1]
      exact h2'
    · rw [if_neg (nI_ne e (by omega) (by omega))]
      rw [if_neg e] at h1 h2'
      rw [h1, bI_d, lt_d, lt_d, nI_1]
      exact h2'
theorem cc55 {D : Dm} {r m : Nat} {T : Tb} {acc : Int32} {Y L i n : Nat} (hr : r = 9 + 4 * m) (hm : m < 2) (hw : wfM (D r 0) (D r 1) (D r 2) (D r 3) (D (r + 1)) (D (r + 2)) (D (r + 3))) (hTe : T = (D (r + 1), D (r + 2), D (r + 3))) (hY : D r 2 = nI Y) (hY2 : Y ≤ 2) {self : Nat → Int32 → Int32 → Int32 → Dm → Option (Int32 × Dm)} (hS : CtC self D r T acc Y L (i + 1) (n + 1)) (hn : n < 20) (hi : i < 5) (hiL : i < L) {c : Cf} (hc : okSt c.1) :
    ∀ (j y q : Nat) (D' : Dm), y + j = Y → frT D D' 269 → getGo D' (269 + 2 * i) = c → ∃ D'', frT D' D'' (271 + 2 * i) ∧ f_X11_countTaken_55 self (j + 1 + q) r (nI i) (nI n) (nI L) (269 + 2 * i) (nI (sN (fun y => sN (fun nm => tkn T acc Y (L - (i + 1)) (step T c (nI y, nI nm)) (if nm = n then n + 1 else n)) (n + 1)) y)) (nI y) D' =
      some (nI (sN (fun y => sN (fun nm => tkn T acc Y (L - (i + 1)) (step T c (nI y, nI nm)) (if nm = n then n + 1 else n)) (n + 1)) Y), D'') := by
  intro j
  induction j with
  | zero =>
    intro y q D' hy hf hg
    have hy : y = Y := by omega
    subst hy
    refine ⟨D', frT_refl, ?_⟩
    rw [show 0 + 1 + q = q + 1 by omega]
    show f_X11_countTaken_55_b _ _ _ _ _ _ _ _ _ _ = _
    unfold f_X11_countTaken_55_b
    rw [hf r 2 (by omega), hY, if_pos (nI_le (Nat.le_refl _) (by omega))]
  | succ j ih =>
    intro y q D' hy hf hg
    obtain ⟨z, hz⟩ := FUs (n + 1) (by omega)
    obtain ⟨D2, f2, h1⟩ := cc67 hr hm hw hTe hS hn hi hiL hc (y := y) (by omega) (k55 := f_X11_countTaken_55 self (j + 1 + q)) (B := sN (fun y => sN (fun nm => tkn T acc Y (L - (i + 1)) (step T c (nI y, nI nm)) (if nm = n then n + 1 else n)) (n + 1)) y) (n + 1) 0 z D' (by omega) hf hg
    obtain ⟨D3, f3, h2⟩ := ih (y + 1) q D2 (by omega) (frT_tr hf f2 (by omega)) (by rw [frT_go f2 (by omega), hg])
    refine ⟨D3, frT_tr f2 f3 (Nat.le_refl _), ?_⟩
    rw [show j + 1 + 1 + q = (j + 1 + q) + 1 by omega]
    show f_X11_countTaken_55_b _ _ _ _ _ _ _ _ _ _ = _
    unfold f_X11_countTaken_55_b
    rw [hf r 2 (by omega), hY, if_neg (nI_nle2 (by omega) (by omega)), hz]
    rw [show sN (fun nm => tkn T acc Y (L - (i + 1)) (step T c (nI y, nI nm)) (if nm = n then n + 1 else n)) 0 = 0 from rfl, Nat.add_zero (sN _ y), nI_0] at h1
    rw [h1]
    exact h2
theorem cc_ok {D : Dm} {r m : Nat} {T : Tb} {acc : Int32} {Y L : Nat} (hr : r = 9 + 4 * m) (hm : m < 2) (hw : wfM (D r 0) (D r 1) (D r 2) (D r 3) (D (r + 1)) (D (r + 2)) (D (r + 3))) (hTe : T = (D (r + 1), D (r + 2), D (r + 3))) (hY : D r 2 = nI Y) (hY2 : Y ≤ 2) (ha : D r 3 = acc) (hL : L ≤ 5) :
    ∀ (l i d N : Nat), i + l = L → N + l < 20 → CtC (f_X11_countTaken (l + 1 + d)) D r T acc Y L i N := by
  intro l
  induction l with
  | zero =>
    intro i d N hi hN c n D' hf hg hc hn
    have hi : i = L := by omega
    subst hi
    refine ⟨D', ?_, frT_refl⟩
    rw [show 0 + 1 + d = d + 1 by omega]
    show f_X11_countTaken_e _ _ _ _ _ _ = _
    unfold f_X11_countTaken_e f_X11_countTaken_28
    rw [gd_t (inB_nI (by omega) (by omega)), if_pos (nI_le (Nat.le_refl _) (by omega)), nI_clamp (by omega), ar268 i (by omega), if_pos rfl, takes_ok, bI_d, hg, hf r 3 (by omega), ha, b01_if, Nat.sub_self]
    unfold tkn
    by_cases t : tk acc c = true
    · rw [if_pos t, if_pos t]
      rfl
    · rw [if_neg t, if_neg t]
      rfl
  | succ l ih =>
    intro i d N hi hN c n D' hf hg hc hn
    rw [show l + 1 + 1 + d = (l + 1 + d) + 1 by omega]
    show ∃ D'', f_X11_countTaken_e _ _ _ _ _ _ = _ ∧ _
    unfold f_X11_countTaken_e f_X11_countTaken_28
    have g0 : D' (269 + 2 * i) 0 = c.1 := congrArg Prod.fst hg
    rw [gd_t (inB_nI (by omega) (by omega)), if_neg (nI_nle2 (by omega) (by omega)), nI_1, if_neg (show ¬ (6 : Int32) ≤ nI (i + 1) from nI_nle2 (b := 6) (by omega) (by omega)), nI_clamp (by omega), ar268 i (by omega), g0]
    by_cases h : c.1 = -1
    · refine ⟨D', ?_, frT_refl⟩
      rw [if_pos h, if_neg (nI_ne (by omega) (by omega) (by omega)), tkn_dead h, nI_0]
    · rw [if_neg h]
      obtain ⟨z, hz⟩ := FUs Y (by omega)
      obtain ⟨D2, f2, h1⟩ := cc55 hr hm hw hTe hY hY2 (ih (i + 1) d (n + 1) (by omega) (by omega)) (by omega) (by omega) (by omega) hc Y 0 z D' (by omega) hf hg
      refine ⟨D2, ?_, f2⟩
      rw [hz]
      rw [show sN (fun y => sN (fun nm => tkn T acc Y (L - (i + 1)) (step T c (nI y, nI nm)) (if nm = n then n + 1 else n)) (n + 1)) 0 = 0 from rfl, nI_0] at h1
      rw [h1, show L - i = L - (i + 1) + 1 by omega]
      rfl
