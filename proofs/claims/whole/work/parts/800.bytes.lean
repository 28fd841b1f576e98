/-! ===== bytes and runs of bytes ===== -/
def sb (c : Nat) : Int32 := if c < 128 then nI c else nI c - 256
def isA (c : Nat) : Bool := decide (97 ≤ c) && decide (c ≤ 122)
def isN (c : Nat) : Bool := decide (48 ≤ c) && decide (c ≤ 57)
def isB (c : Nat) : Bool := decide (c = 32)
theorem sb_and : ∀ c, c < 256 → (sb c &&& 255) = nI c := by decide +kernel
theorem sb_toInt {c : Nat} (h : c < 256) : (sb c).toInt = if c < 128 then (c : Int) else (c : Int) - 256 := by
  unfold sb
  by_cases q : c < 128
  · rw [if_pos q, if_pos q, nI_toInt (by omega)]
  · rw [if_neg q, if_neg q, Int32.toInt_sub, nI_toInt (by omega), show (256 : Int32).toInt = 256 from by decide, Int.bmod_eq_of_le (by omega) (by omega)]
theorem sb_eq {c v : Nat} (hc : c < 256) (hv : v < 128) : sb c = nI v ↔ c = v := by
  constructor
  · intro h
    have := congrArg Int32.toInt h
    rw [sb_toInt hc, nI_toInt (by omega)] at this
    split at this <;> omega
  · intro h
    rw [h]
    unfold sb
    rw [if_pos hv]
def rn (P : Nat → Bool) (c : Nat → Nat) : Nat → Nat → Nat
  | 0, q => q
  | f + 1, q => if P (c q) = true then rn P c f (q + 1) else q
def re (P : Nat → Bool) (c : Nat → Nat) (n q : Nat) : Nat := rn P c (n - q) q
theorem re_step {P : Nat → Bool} {c : Nat → Nat} {n q : Nat} (h : q < n) (hP : P (c q) = true) : re P c n q = re P c n (q + 1) := by
  unfold re
  rw [show n - q = (n - (q + 1)) + 1 by omega]
  show (if P (c q) = true then _ else _) = _
  rw [if_pos hP]
theorem re_stop {P : Nat → Bool} {c : Nat → Nat} {n q : Nat} (h : ¬ (q < n ∧ P (c q) = true)) : re P c n q = q := by
  unfold re
  by_cases e : q < n
  · rw [show n - q = (n - (q + 1)) + 1 by omega]
    show (if P (c q) = true then _ else _) = _
    rw [if_neg (fun z => h ⟨e, z⟩)]
  · rw [show n - q = 0 by omega]; rfl
theorem re_spec {P : Nat → Bool} {c : Nat → Nat} {n : Nat} : ∀ (j q : Nat), q + j = n → q ≤ re P c n q ∧ re P c n q ≤ n ∧ (∀ k, q ≤ k → k < re P c n q → P (c k) = true) ∧ (re P c n q < n → P (c (re P c n q)) = false) := by
  intro j
  induction j with
  | zero =>
    intro q hq
    rw [re_stop (fun z => by omega)]
    exact ⟨Nat.le_refl _, by omega, fun k h1 h2 => by omega, fun h => by omega⟩
  | succ j ih =>
    intro q hq
    by_cases hP : P (c q) = true
    · rw [re_step (by omega) hP]
      obtain ⟨a1, a2, a3, a4⟩ := ih (q + 1) (by omega)
      refine ⟨by omega, a2, fun k h1 h2 => ?_, a4⟩
      by_cases e : k = q
      · rw [e]; exact hP
      · exact a3 k (by omega) h2
    · rw [re_stop (fun z => hP z.2)]
      exact ⟨Nat.le_refl _, by omega, fun k h1 h2 => by omega, fun _ => by rw [Bool.not_eq_true] at hP; exact hP⟩
theorem re_le {P : Nat → Bool} {c : Nat → Nat} {n q : Nat} (h : q ≤ n) : q ≤ re P c n q ∧ re P c n q ≤ n := by
  have := re_spec (P := P) (c := c) (n := n) (n - q) q (by omega)
  exact ⟨this.1, this.2.1⟩
theorem re_idem {P : Nat → Bool} {c : Nat → Nat} {n q : Nat} (h : q ≤ n) : re P c n (re P c n q) = re P c n q := by
  obtain ⟨-, -, -, a4⟩ := re_spec (P := P) (c := c) (n := n) (n - q) q (by omega)
  exact re_stop (fun z => by have := a4 z.1; rw [z.2] at this; cases this)
/-- the kind of the token at p, and its end -/
def kd (c : Nat → Nat) (n p : Nat) : Nat := if p < n then (if isA (c p) = true then 1 else if isN (c p) = true then 2 else 3) else 0
def te (c : Nat → Nat) (n p : Nat) : Nat := if p < n then (if isA (c p) = true then re isA c n (p + 1) else if isN (c p) = true then re isN c n (p + 1) else p + 1) else p
def blk (c : Nat → Nat) (n p : Nat) : Nat := re isB c n p
theorem te_le {c : Nat → Nat} {n p : Nat} (h : p ≤ n) : p ≤ te c n p ∧ te c n p ≤ n ∧ (p < n → p < te c n p) := by
  unfold te
  by_cases e : p < n
  · rw [if_pos e]
    have h1 := re_le (P := isA) (c := c) (n := n) (q := p + 1) (by omega)
    have h2 := re_le (P := isN) (c := c) (n := n) (q := p + 1) (by omega)
    split
    · omega
    · split <;> omega
  · rw [if_neg e]
    omega
