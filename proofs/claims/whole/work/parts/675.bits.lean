/-! ===== rows of bits ===== -/
theorem bit_shl : ∀ n, n < 32 → ((1 : Int32) <<< (nI n &&& 31)).toBitVec = BitVec.twoPow 32 n := by decide +kernel
/-- bits of those below n of which P says so -/
def rowI (P : Nat → Bool) : Nat → Int32
  | 0 => 0
  | n + 1 => if P n = true then rowI P n ||| ((1 : Int32) <<< (nI n &&& 31)) else rowI P n
theorem rowI_bit {P : Nat → Bool} : ∀ {n : Nat}, n ≤ 32 → ∀ i, (rowI P n).toBitVec.getLsbD i = (decide (i < n) && P i)
  | 0, _, i => by
    show (0#32).getLsbD i = _
    simp
  | n + 1, hn, i => by
    unfold rowI
    have ih := rowI_bit (P := P) (n := n) (by omega) i
    by_cases h : P n = true
    · rw [if_pos h, Int32.toBitVec_or, BitVec.getLsbD_or, ih, bit_shl n (by omega), BitVec.getLsbD_twoPow]
      by_cases e : i = n
      · subst e
        simp [h]
        omega
      · have e2 : ¬ n = i := fun q => e q.symm
        have : (i < n + 1) = (i < n) := by apply propext; constructor <;> omega
        simp [e2, this]
    · rw [if_neg h, ih]
      by_cases e : i = n
      · subst e
        simp [h]
      · have : (i < n + 1) = (i < n) := by apply propext; constructor <;> omega
        simp [this]
theorem rowI_congr {P Q : Nat → Bool} : ∀ {n : Nat}, (∀ q, q < n → P q = Q q) → rowI P n = rowI Q n
  | 0, _ => rfl
  | n + 1, h => by
    unfold rowI
    rw [rowI_congr (fun q hq => h q (by omega)), h n (by omega)]
theorem rowI_eq {P Q : Nat → Bool} {n : Nat} (hn : n ≤ 32) : rowI P n = rowI Q n ↔ ∀ q, q < n → P q = Q q := by
  constructor
  · intro h q hq
    have h1 := rowI_bit (P := P) hn q
    have h2 := rowI_bit (P := Q) hn q
    rw [h, h2] at h1
    simpa [hq] using h1.symm
  · exact rowI_congr
theorem shr_bit : ∀ q, q < 32 → ∀ x : Int32, ((x >>> (nI q &&& 31)) &&& 1) = if x.toBitVec.getLsbD q = true then 1 else 0 := by
  intro q hq x
  have e : (nI q &&& 31).toBitVec.smod 32 = BitVec.ofNat 32 q := by
    have : ∀ q, q < 32 → (nI q &&& 31).toBitVec.smod 32 = BitVec.ofNat 32 q := by decide +kernel
    exact this q hq
  apply Int32.toBitVec_inj.mp
  rw [Int32.toBitVec_and, Int32.toBitVec_shiftRight, e]
  apply BitVec.eq_of_getLsbD_eq
  intro i hi
  have e1 : (1 : Int32).toBitVec = 1#32 := rfl
  have e0 : (0 : Int32).toBitVec = 0#32 := rfl
  rw [BitVec.getLsbD_and, e1]
  by_cases h0 : i = 0
  · subst h0
    have : (x.toBitVec.sshiftRight' (BitVec.ofNat 32 q)).getLsbD 0 = x.toBitVec.getLsbD q := by
      rw [BitVec.sshiftRight', BitVec.getLsbD_sshiftRight]
      have : (BitVec.ofNat 32 q).toNat = q := by rw [BitVec.toNat_ofNat]; omega
      rw [this]
      simp
      omega
    rw [this]
    by_cases hb : x.toBitVec.getLsbD q = true
    · rw [if_pos hb, hb, e1]; rfl
    · rw [if_neg hb, e0]
      simp [hb]
  · have : (1#32).getLsbD i = false := by
      rw [BitVec.getLsbD_one]; simp [h0]
    rw [this]
    split
    · rw [e1, this]; simp
    · rw [e0]; simp
theorem row_bit {P : Nat → Bool} {n q : Nat} (hn : n ≤ 32) (hq : q < n) : ((rowI P n >>> (nI q &&& 31)) &&& 1) = if P q = true then 1 else 0 := by
  rw [shr_bit q (by omega), rowI_bit hn, decide_eq_true hq, Bool.true_and]
/-! the value of a row of digits -/
def val (gs : List Nat) : Nat := gs.foldl (fun v g => 3 * v + g) 0
theorem val_dgs : ∀ d, d < 4 → ∀ q, q < 3 ^ d → val (dgs d q) = q := by decide +kernel
/-- what digit g weighs in a row -/
def wtS : List Nat → Nat → Nat
  | [], _ => 0
  | x :: l, g => if x = g then 3 ^ l.length else wtS l g
theorem wt_zap1 : ∀ d, d < 4 → ∀ q, q < 3 ^ d → ∀ g, g < 3 → (g ≠ 0 ∧ okD 2 (dgs d q) = true) → (wtS (dgs d q) g = 0 ↔ (dgs d q).contains g = false) := by decide +kernel
def bWt2 (d q g : Nat) : Bool := decide ((g ≠ 0 ∧ okD 2 (dgs d q) = true ∧ (dgs d q).contains g = true) → (g * wtS (dgs d q) g ≤ q ∧ dgs d (q - g * wtS (dgs d q) g) = zap g (dgs d q) ∧ okD 2 (zap g (dgs d q)) = true))
theorem wt_zap2' : ∀ d, d < 4 → ∀ q, q < 3 ^ d → ∀ g, g < 3 → bWt2 d q g = true := by decide +kernel
theorem wt_zap2 (d : Nat) (hd : d < 4) (q : Nat) (hq : q < 3 ^ d) (g : Nat) (hg : g < 3) : (g ≠ 0 ∧ okD 2 (dgs d q) = true ∧ (dgs d q).contains g = true) → (g * wtS (dgs d q) g ≤ q ∧ dgs d (q - g * wtS (dgs d q) g) = zap g (dgs d q) ∧ okD 2 (zap g (dgs d q)) = true) := of_decide_eq_true (wt_zap2' d hd q hq g hg)
theorem wt_zap (d : Nat) (hd : d < 4) (q : Nat) (hq : q < 3 ^ d) (g : Nat) (hg : g < 3) (h0 : g ≠ 0) (ho : okD 2 (dgs d q) = true) : (wtS (dgs d q) g = 0 ↔ (dgs d q).contains g = false) ∧ ((dgs d q).contains g = true → g * wtS (dgs d q) g ≤ q ∧ dgs d (q - g * wtS (dgs d q) g) = zap g (dgs d q) ∧ okD 2 (zap g (dgs d q)) = true) :=
  ⟨wt_zap1 d hd q hq g hg ⟨h0, ho⟩, fun h => wt_zap2 d hd q hq g hg ⟨h0, ho, h⟩⟩
theorem okD_mono : ∀ m, m < 3 → ∀ d, d < 4 → ∀ q, q < 3 ^ d → okD m (dgs d q) = true → okD 2 (dgs d q) = true ∧ ∀ g, g < 3 → okD m (zap g (dgs d q)) = true := by decide +kernel
/-- the first below n of which P says so -/
def fst1 (P : Nat → Bool) (n : Nat) : Option Nat := (List.range n).find? P
theorem fst1_succ {P : Nat → Bool} {n : Nat} : fst1 P (n + 1) = match fst1 P n with
    | some x => some x
    | none => if P n = true then some n else none := by
  unfold fst1
  rw [List.range_succ, List.find?_append]
  cases h : (List.range n).find? P with
  | some x => rfl
  | none =>
    show (List.find? P [n]) = _
    rw [List.find?_cons]
    cases P n <;> rfl
theorem fsh_num {A : List Nat → Bool} {g m d : Nat} (hd : d < 4) (hm : m < 3) : fsh A g m d = (fst1 (fun q => okD m (dgs d q) && shB A g (dgs d q)) (3 ^ d)).map (dgs d) := by
  unfold fsh fst1
  rw [insts_dgs d hd m hm, List.find?_filter, List.find?_map]
  refine congrArg _ (find_congr (fun q _ => ?_))
  show decide _ = _
  rw [Bool.decide_and, Bool.decide_eq_true, Bool.decide_eq_true]
