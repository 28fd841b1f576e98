/-- sums -/
def sN (f : Nat → Nat) : Nat → Nat
  | 0 => 0
  | n + 1 => sN f n + f n
theorem sN_zero {f : Nat → Nat} : ∀ {n : Nat}, (∀ k, k < n → f k = 0) → sN f n = 0
  | 0, _ => rfl
  | n + 1, h => by
    show sN f n + f n = 0
    rw [sN_zero (fun k hk => h k (by omega)), h n (by omega)]
/-- how many words of l more letters a machine takes, from c, with n names used; and how many there are -/
def tkn (T : Tb) (acc : Int32) (Y : Nat) : Nat → Cf → Nat → Nat
  | 0, c, _ => if tk acc c = true then 1 else 0
  | l + 1, c, n => sN (fun y => sN (fun nm => tkn T acc Y l (step T c (nI y, nI nm)) (if nm = n then n + 1 else n)) (n + 1)) Y
def alw (Y : Nat) : Nat → Nat → Nat
  | 0, _ => 1
  | l + 1, n => sN (fun _ => sN (fun nm => alw Y l (if nm = n then n + 1 else n)) (n + 1)) Y
theorem step_dead {T : Tb} {c : Cf} {a : Lt} (h : c.1 = -1) : step T c a = c := by
  unfold step mst
  rw [if_pos h]
theorem tkn_dead {T : Tb} {acc : Int32} {Y : Nat} : ∀ {l : Nat} {c : Cf} {n : Nat}, c.1 = -1 → tkn T acc Y l c n = 0
  | 0, c, n, h => by
    unfold tkn tk
    rw [if_neg]
    simp [h]
  | l + 1, c, n, h => by
    unfold tkn
    refine sN_zero (fun y _ => sN_zero (fun nm _ => ?_))
    rw [step_dead h]
    exact tkn_dead h
/-- the reference's memory while it counts -/
def cmR (D : Dm) (A B : Int32) (c : Cf) : Dm := setR (ud (ud D 281 19 A) 281 20 B) c
theorem cmR_282 {D : Dm} {A B : Int32} {c : Cf} {k : Nat} : cmR D A B c 282 k = D 282 k := by
  unfold cmR
  rw [setR_ne (by decide)]
  rfl
theorem cmR_19 {D : Dm} {A B : Int32} {c : Cf} : cmR D A B c 281 19 = A := by
  unfold cmR
  rw [setR_at]
  simp [ud_at]
theorem cmR_20 {D : Dm} {A B : Int32} {c : Cf} : cmR D A B c 281 20 = B := by
  unfold cmR
  rw [setR_at]
  simp [ud_at]
theorem cmR_get {D : Dm} {A B : Int32} {c : Cf} : getR (cmR D A B c) = c := by
  unfold cmR getR
  simp [setR_at]
theorem cmR_set {D : Dm} {A B : Int32} {c c' : Cf} : setR (cmR D A B c) c' = cmR D A B c' := by
  unfold cmR
  funext j n
  simp only [setR_at]
  repeat' split
  all_goals rfl
theorem cmR_u {D : Dm} {A B A' B' : Int32} {c : Cf} : ud (ud (cmR D A B c) 281 19 A') 281 20 B' = cmR D A' B' c := by
  unfold cmR
  funext j n
  simp only [setR_at, ud_at]
  by_cases h1 : j = 281 ∧ n = 20
  · obtain ⟨rfl, rfl⟩ := h1
    simp
  · by_cases h2 : j = 281 ∧ n = 19
    · obtain ⟨rfl, rfl⟩ := h2
      simp
    · simp only [if_neg h1, if_neg h2]
