/-- sums -/
def sN (f : Nat → Nat) : Nat → Nat
  | 0 => 0
  | n + 1 => sN f n + f n
theorem sN_zero {f : Nat → Nat} : ∀ {n : Nat}, (∀ k, k < n → f k = 0) → sN f n = 0
  | 0, _ => rfl
  | n + 1, h => by
    show sN f n + f n = 0
    rw [sN_zero (fun k hk => h k (by omega)), h n (by omega)]
/-- how many words of l more letters a machine takes, from c, with n names used; and how many there are -/
def tkn (T : Tb) (acc : Int32) (Y : Nat) : Nat → Cf → Nat → Nat
  | 0, c, _ => if tk acc c = true then 1 else 0
  | l + 1, c, n => sN (fun y => sN (fun nm => tkn T acc Y l (step T c (nI y, nI nm)) (if nm = n then n + 1 else n)) (n + 1)) Y
def alw (Y : Nat) : Nat → Nat → Nat
  | 0, _ => 1
  | l + 1, n => sN (fun _ => sN (fun nm => alw Y l (if nm = n then n + 1 else n)) (n + 1)) Y
theorem step_dead {T : Tb} {c : Cf} {a : Lt} (h : c.1 = -1) : step T c a = c := by
  unfold step mst
  rw [if_pos h]
theorem tkn_dead {T : Tb} {acc : Int32} {Y : Nat} : ∀ {l : Nat} {c : Cf} {n : Nat}, c.1 = -1 → tkn T acc Y l c n = 0
  | 0, c, n, h => by
    unfold tkn tk
    rw [if_neg]
    simp [h]
  | l + 1, c, n, h => by
    unfold tkn
    refine sN_zero (fun y _ => sN_zero (fun nm _ => ?_))
    rw [step_dead h]
    exact tkn_dead h
/-- the reference's memory while it counts -/
def cmR (D : Dm) (A B : Int32) (c : Cf) : Dm := setR (ud (ud D 281 19 A) 281 20 B) c
theorem cmR_282 {D : Dm} {A B : Int32} {c : Cf} {k : Nat} : cmR D A B c 282 k = D 282 k := by
  unfold cmR
  rw [setR_ne (by decide)]
  rfl
theorem cmR_19 {D : Dm} {A B : Int32} {c : Cf} : cmR D A B c 281 19 = A := by
  unfold cmR
  rw [setR_at]
  simp [ud_at]
theorem cmR_20 {D : Dm} {A B : Int32} {c : Cf} : cmR D A B c 281 20 = B := by
  unfold cmR
  rw [setR_at]
  simp [ud_at]
theorem cmR_get {D : Dm} {A B : Int32} {c : Cf} : getR (cmR D A B c) = c := by
  unfold cmR getR
  simp [setR_at]
theorem cmR_set {D : Dm} {A B : Int32} {c c' : Cf} : setR (cmR D A B c) c' = cmR D A B c' := by
  unfold cmR
  funext j n
  simp only [setR_at]
  repeat' split
  all_goals rfl
theorem cmR_u {D : Dm} {A B A' B' : Int32} {c : Cf} : ud (ud (cmR D A B c) 281 19 A') 281 20 B' = cmR D A' B' c := by
  unfold cmR
  funext j n
  simp only [setR_at, ud_at]
  by_cases h1 : j = 281 ∧ n = 20
  · obtain ⟨rfl, rfl⟩ := h1
    simp
  · by_cases h2 : j = 281 ∧ n = 19
    · obtain ⟨rfl, rfl⟩ := h2
      simp
    · simp only [if_neg h1, if_neg h2]
theorem nI_sub1 (l : Nat) : nI (l + 1) - 1 = nI l := by
  rw [← nI_1]
  exact Int32.add_sub_cancel _ _
theorem cmR_go {D : Dm} {x : Int32} {m : Nat} {T : Tb} (hx : isMc x m) (hTe : T = (rTo D m, rKe D m, rDr D m)) (hT : wfT T) {A B : Int32} {c : Cf} {y nm : Int32} (hc : okSt c.1) (hy : isSy y) : f_X12_goesBy x y nm (cmR D A B c) = some (cmR D A B (step T c (y, nm))) := by
  have t1 : rTo (cmR D A B c) m = rTo D m := by funext k; unfold rTo; rw [cmR_282]
  have t2 : rKe (cmR D A B c) m = rKe D m := by funext k; unfold rKe; rw [cmR_282]
  have t3 : rDr (cmR D A B c) m = rDr D m := by funext k; unfold rDr; rw [cmR_282]
  subst hTe
  have hg : cmR D A B c 281 3 = c.1 := congrArg Prod.fst (cmR_get (D := D) (A := A) (B := B) (c := c))
  rw [goes_ok hx (fun k hk => by rw [t2, t3]; exact (hT k hk).2) (by rw [hg]; exact hc) hy, cmR_get, cmR_set, t1, t2, t3]
  rfl
/-- what the recursion gives -/
def CtR (self : Int32 → Int32 → Int32 → Dm → Option Dm) (D : Dm) (x : Int32) (T : Tb) (acc : Int32) (Y l N : Nat) : Prop :=
  ∀ (c : Cf) (n : Nat) (A B : Int32), okSt c.1 → n ≤ N → ∃ c', self x (nI l) (nI n) (cmR D A B c) = some (cmR D (A + nI (alw Y l n)) (B + nI (tkn T acc Y l c n)) c')
theorem ct72 {D : Dm} {x : Int32} {m : Nat} {T : Tb} {acc : Int32} {Y l n : Nat} (hx : isMc x m) (hTe : T = (rTo D m, rKe D m, rDr D m)) (hT : wfT T) {self : Int32 → Int32 → Int32 → Dm → Option Dm} (hS : CtR self D x T acc Y l (n + 1)) (hn : n < 20) {c : Cf} (hc : okSt c.1) {y : Nat} (hy : y < 2)
    {k58 : Int32 → Int32 → Int32 → Int32 → Int32 → Int32 → Int32 → Dm → Option Dm} {A B : Int32} :
    ∀ (j i q : Nat) (cc : Cf), i + j = n + 1 → ∃ c', f_X12_counts_72 self k58 (j + 1 + q) x (nI (l + 1)) (nI n) c.1 c.2.1 c.2.2 (nI y) (nI i) (cmR D (A + nI (sN (fun nm => alw Y l (if nm = n then n + 1 else n)) i)) (B + nI (sN (fun nm => tkn T acc Y l (step T c (nI y, nI nm)) (if nm = n then n + 1 else n)) i)) cc) =
      k58 x (nI (l + 1)) (nI n) c.1 c.2.1 c.2.2 (nI (y + 1)) (cmR D (A + nI (sN (fun nm => alw Y l (if nm = n then n + 1 else n)) (n + 1))) (B + nI (sN (fun nm => tkn T acc Y l (step T c (nI y, nI nm)) (if nm = n then n + 1 else n)) (n + 1))) c') := by
  have hyS : isSy (nI y) := by
    have : y = 0 ∨ y = 1 := by omega
    rcases this with rfl | rfl <;> decide
  intro j
  induction j with
  | zero =>
    intro i q cc hi
    have hi : i = n + 1 := by omega
    subst hi
    refine ⟨cc, ?_⟩
    rw [show 0 + 1 + q = q + 1 by omega]
    show f_X12_counts_72_b _ _ _ _ _ _ _ _ _ _ _ _ = _
    unfold f_X12_counts_72_b
    rw [if_pos (nI_lt (by omega) (by omega)), lt_d, nI_1]
  | succ j ih =>
    intro i q cc hi
    obtain ⟨c1, h1⟩ := hS (step T c (nI y, nI i)) (if i = n then n + 1 else n) (A + nI (sN (fun nm => alw Y l (if nm = n then n + 1 else n)) i)) (B + nI (sN (fun nm => tkn T acc Y l (step T c (nI y, nI nm)) (if nm = n then n + 1 else n)) i)) (mst_ok (fun k hk => (hT k hk).1) hc hyS) (by split <;> omega)
    obtain ⟨c2, h2⟩ := ih (i + 1) q c1 (by omega)
    refine ⟨c2, ?_⟩
    rw [show j + 1 + 1 + q = (j + 1 + q) + 1 by omega]
    show f_X12_counts_72_b _ _ _ _ _ _ _ _ _ _ _ _ = _
    unfold f_X12_counts_72_b f_X12_counts_115
    rw [Int32.add_assoc, Int32.add_assoc, nI_add, nI_add] at h1
    have h1' : self x (nI l) (nI (if i = n then n + 1 else n)) (cmR D (A + nI (sN (fun nm => alw Y l (if nm = n then n + 1 else n)) i)) (B + nI (sN (fun nm => tkn T acc Y l (step T c (nI y, nI nm)) (if nm = n then n + 1 else n)) i)) (step T c (nI y, nI i))) = some (cmR D (A + nI (sN (fun nm => alw Y l (if nm = n then n + 1 else n)) (i + 1))) (B + nI (sN (fun nm => tkn T acc Y l (step T c (nI y, nI nm)) (if nm = n then n + 1 else n)) (i + 1))) c1) := h1
    rw [if_neg (by rw [Int32.lt_iff_toInt_lt, nI_toInt (by omega), nI_toInt (by omega)]; omega), r_stays, bV_d, cmR_set, cmR_go hx hTe hT (c := (c.1, c.2.1, c.2.2)) hc hyS, bV_d, nI_sub1, nI_1]
    by_cases e : i = n
    · rw [if_pos (by rw [e])]
      rw [if_pos e] at h1'
      rw [show (c.1, c.2.1, c.2.2) = c from rfl, h1', bV_d, lt_d, nI_1]
      exact h2
    · rw [if_neg (nI_ne e (by omega) (by omega))]
      rw [if_neg e] at h1'
      rw [show (c.1, c.2.1, c.2.2) = c from rfl, h1', bV_d, lt_d, nI_1]
      exact h2
theorem ct58 {D : Dm} {x : Int32} {m : Nat} {T : Tb} {acc : Int32} {Y l n : Nat} (hx : isMc x m) (hTe : T = (rTo D m, rKe D m, rDr D m)) (hT : wfT T) (hY : D 282 (94 * m + 2) = nI Y) (hY2 : Y ≤ 2) {self : Int32 → Int32 → Int32 → Dm → Option Dm} (hS : CtR self D x T acc Y l (n + 1)) (hn : n < 20) {c : Cf} (hc : okSt c.1) {A B : Int32} :
    ∀ (j i q : Nat) (cc : Cf), i + j = Y → ∃ c', f_X12_counts_58 self (j + 1 + q) x (nI (l + 1)) (nI n) c.1 c.2.1 c.2.2 (nI i) (cmR D (A + nI (sN (fun _ => sN (fun nm => alw Y l (if nm = n then n + 1 else n)) (n + 1)) i)) (B + nI (sN (fun y => sN (fun nm => tkn T acc Y l (step T c (nI y, nI nm)) (if nm = n then n + 1 else n)) (n + 1)) i)) cc) =
      some (cmR D (A + nI (alw Y (l + 1) n)) (B + nI (tkn T acc Y (l + 1) c n)) c') := by
  intro j
  induction j with
  | zero =>
    intro i q cc hi
    have hi : i = Y := by omega
    subst hi
    refine ⟨cc, ?_⟩
    rw [show 0 + 1 + q = q + 1 by omega]
    show f_X12_counts_58_b _ _ _ _ _ _ _ _ _ _ = _
    unfold f_X12_counts_58_b
    rw [its_ok (k := 2) (q := 2) hx rfl (by omega), bI_d, cmR_282, hY, if_pos (nI_le (Nat.le_refl _) (by omega))]
    rfl
  | succ j ih =>
    intro i q cc hi
    obtain ⟨r, hr⟩ := FUs (n + 1) (by omega)
    obtain ⟨c1, h1⟩ := ct72 hx hTe hT hS hn hc (y := i) (by omega) (k58 := f_X12_counts_58 self (j + 1 + q)) (A := A + nI (sN (fun _ => sN (fun nm => alw Y l (if nm = n then n + 1 else n)) (n + 1)) i)) (B := B + nI (sN (fun y => sN (fun nm => tkn T acc Y l (step T c (nI y, nI nm)) (if nm = n then n + 1 else n)) (n + 1)) i)) (n + 1) 0 r cc (by omega)
    obtain ⟨c2, h2⟩ := ih (i + 1) q c1 (by omega)
    refine ⟨c2, ?_⟩
    rw [show j + 1 + 1 + q = (j + 1 + q) + 1 by omega]
    show f_X12_counts_58_b _ _ _ _ _ _ _ _ _ _ = _
    unfold f_X12_counts_58_b
    rw [its_ok (k := 2) (q := 2) hx rfl (by omega), bI_d, cmR_282, hY, if_neg (nI_nle2 (by omega) (by omega)), hr]
    rw [show sN (fun nm => alw Y l (if nm = n then n + 1 else n)) 0 = 0 from rfl, show sN (fun nm => tkn T acc Y l (step T c (nI i, nI nm)) (if nm = n then n + 1 else n)) 0 = 0 from rfl, nI_0, Int32.add_zero, Int32.add_zero, Int32.add_assoc, Int32.add_assoc, nI_add, nI_add] at h1
    rw [h1]
    exact h2
theorem ct_ok {D : Dm} {x : Int32} {m : Nat} {T : Tb} {acc : Int32} {Y : Nat} (hx : isMc x m) (hTe : T = (rTo D m, rKe D m, rDr D m)) (hT : wfT T) (hY : D 282 (94 * m + 2) = nI Y) (hY2 : Y ≤ 2) (ha : D 282 (94 * m + 3) = acc) : ∀ (l d N : Nat), N + l < 20 → CtR (f_X12_counts (l + 1 + d)) D x T acc Y l N := by
  intro l
  induction l with
  | zero =>
    intro d N hN c n A B hc hn
    refine ⟨c, ?_⟩
    rw [show 0 + 1 + d = d + 1 by omega]
    show f_X12_counts_e _ _ _ _ _ = _
    unfold f_X12_counts_e f_X12_counts_32
    have u : ∀ v, ud (cmR D A B c) 281 19 v = cmR D v B c := fun v => by
      have e := ud_id (D := ud (cmR D A B c) 281 19 v) (i := 281) (k := 20)
      rw [ud_at, if_neg (by omega), cmR_20, cmR_u] at e
      exact e.symm
    have u2 : ∀ v w, ud (cmR D v B c) 281 20 w = cmR D v w c := fun v w => by
      rw [← cmR_u (D := D) (A := v) (B := B) (A' := v) (B' := w) (c := c)]
      congr 1
      rw [show ud (cmR D v B c) 281 19 v = ud (cmR D v B c) 281 19 (cmR D v B c 281 19) by rw [cmR_19], ud_id]
    rw [if_pos nI_0, lt_d, cmR_19, u, accepts_ok hx (acc := acc) (by rw [cmR_282, ha]), bI_d, cmR_get, cmR_20, b01_if]
    unfold tkn alw
    by_cases t : tk acc c = true
    · rw [if_pos t, if_pos t, lt_d, u2]
      rfl
    · rw [if_neg t, if_neg t, lt_d, u2]
      rfl
  | succ l ih =>
    intro d N hN c n A B hc hn
    obtain ⟨r, hr⟩ := FUs Y (by omega)
    obtain ⟨c1, h1⟩ := ct58 hx hTe hT hY hY2 (ih d (n + 1) (by omega)) (by omega) hc (A := A) (B := B) Y 0 r c (by omega)
    refine ⟨c1, ?_⟩
    rw [show l + 1 + 1 + d = (l + 1 + d) + 1 by omega]
    show f_X12_counts_e _ _ _ _ _ = _
    unfold f_X12_counts_e
    have g1 : cmR D A B c 281 3 = c.1 := congrArg Prod.fst (cmR_get (D := D) (A := A) (B := B) (c := c))
    have g2 : cmR D A B c 281 4 = c.2.1 := congrArg (fun z => z.2.1) (cmR_get (D := D) (A := A) (B := B) (c := c))
    have g3 : cmR D A B c 281 5 = c.2.2 := congrArg (fun z => z.2.2) (cmR_get (D := D) (A := A) (B := B) (c := c))
    rw [if_neg (by rw [← nI_0]; exact nI_ne (by omega) (by omega) (by omega)), lt_d, lt_d, lt_d, g1, g2, g3, hr]
    rw [show sN (fun _ => sN (fun nm => alw Y l (if nm = n then n + 1 else n)) (n + 1)) 0 = 0 from rfl, show sN (fun y => sN (fun nm => tkn T acc Y l (step T c (nI y, nI nm)) (if nm = n then n + 1 else n)) (n + 1)) 0 = 0 from rfl, nI_0, Int32.add_zero, Int32.add_zero] at h1
    exact h1
