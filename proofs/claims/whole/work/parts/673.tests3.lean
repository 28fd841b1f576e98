def zap (g : Nat) (gs : List Nat) : List Nat := gs.map (fun x => if x = g then 0 else x)
def shB (A : List Nat → Bool) (g : Nat) (gs : List Nat) : Bool := gs.contains g && (A gs != A (zap g gs))
/-- the first instance that shows digit g -/
def fsh (A : List Nat → Bool) (g m d : Nat) : Option (List Nat) := (insts m [] d).find? (shB A g)
def emb (hs gs : List Nat) : List Nat := gs.map (fun g => if g = 0 then 0 else hs.getD (g - 1) 0 + 1)
def pin (hs gs : List Nat) : List Nat := gs.map (fun g => if g ≠ 0 ∧ hs.contains (g - 1) = true then g else 0)
def hss (M : Nat) : List (List Nat) := [[]] ++ (List.range M).map (fun a => [a]) ++ (List.range M).flatMap (fun b => (List.range b).map (fun a => [a, b]))
theorem in_ok1 : ∀ M, M < 5 → ∀ d, d < 4 → ∀ gs ∈ insts M [] d, gs.length = d := by decide +kernel
theorem in_ok2 : ∀ M, M < 5 → ∀ d, d < 4 → ∀ gs ∈ insts M [] d, ∀ i, i < d → dig gs i ≤ M := by decide +kernel
def bOk3 (d : Nat) (gs : List Nat) : Bool := decide (∀ i, i < d → ∀ j, j < d → (dig gs i ≠ 0 ∧ dig gs i = dig gs j) → i = j)
theorem in_ok3' : ∀ M, M < 5 → ∀ d, d < 4 → ∀ gs ∈ insts M [] d, bOk3 d gs = true := by decide +kernel
theorem in_ok3 (M : Nat) (hM : M < 5) (d : Nat) (hd : d < 4) (gs : List Nat) (hg : gs ∈ insts M [] d) : ∀ i, i < d → ∀ j, j < d → (dig gs i ≠ 0 ∧ dig gs i = dig gs j) → i = j := of_decide_eq_true (in_ok3' M hM d hd gs hg)
theorem in_ok4 : ∀ M, M < 5 → ∀ d, d < 4 → ∀ gs ∈ insts M [] d, ∀ g, g < 5 → zap g gs ∈ insts M [] d := by decide +kernel
theorem in_ok (M : Nat) (hM : M < 5) (d : Nat) (hd : d < 4) (gs : List Nat) (hg : gs ∈ insts M [] d) : gs.length = d ∧ (∀ i, i < d → dig gs i ≤ M ∧ ∀ j, j < d → dig gs i ≠ 0 → dig gs i = dig gs j → i = j) ∧ ∀ g, g < 5 → zap g gs ∈ insts M [] d :=
  ⟨in_ok1 M hM d hd gs hg, fun i hi => ⟨in_ok2 M hM d hd gs hg i hi, fun j hj h1 h2 => in_ok3 M hM d hd gs hg i hi j hj ⟨h1, h2⟩⟩, in_ok4 M hM d hd gs hg⟩
theorem in_pin : ∀ M, M < 5 → ∀ hs ∈ hss M, ∀ d, d < 4 → (insts M [] d).filter (fun gs => pin hs gs == gs) = (insts hs.length [] d).map (emb hs) := by decide +kernel
theorem in_ord : ∀ M, M < 5 → ∀ hs ∈ hss M, ∀ d, d < 4 → ∀ gs ∈ insts M [] d, pin hs gs ∈ insts M [] d ∧ (insts M [] d).idxOf (pin hs gs) ≤ (insts M [] d).idxOf gs := by decide +kernel
theorem in_zap1 : ∀ M, M < 5 → ∀ hs ∈ hss M, ∀ d, d < 4 → ∀ gs ∈ insts M [] d, ∀ n, n < M → hs.contains n = true → (pin hs gs).contains (n + 1) = gs.contains (n + 1) := by decide +kernel
def bZap2 (M : Nat) (hs gs : List Nat) : Bool := decide (∀ n, n < M → hs.contains n = true → zap (n + 1) (pin hs gs) = pin hs (zap (n + 1) gs))
theorem in_zap2' : ∀ M, M < 5 → ∀ hs ∈ hss M, ∀ d, d < 4 → ∀ gs ∈ insts M [] d, bZap2 M hs gs = true := by decide +kernel
theorem in_zap2 (M : Nat) (hM : M < 5) (hs : List Nat) (hh : hs ∈ hss M) (d : Nat) (hd : d < 4) (gs : List Nat) (hg : gs ∈ insts M [] d) : ∀ n, n < M → hs.contains n = true → zap (n + 1) (pin hs gs) = pin hs (zap (n + 1) gs) := of_decide_eq_true (in_zap2' M hM hs hh d hd gs hg)
def bZap3 (M : Nat) (hs gs : List Nat) : Bool := decide (∀ n, n < M → hs.contains n = false → pin hs (zap (n + 1) gs) = pin hs gs)
theorem in_zap3' : ∀ M, M < 5 → ∀ hs ∈ hss M, ∀ d, d < 4 → ∀ gs ∈ insts M [] d, bZap3 M hs gs = true := by decide +kernel
theorem in_zap3 (M : Nat) (hM : M < 5) (hs : List Nat) (hh : hs ∈ hss M) (d : Nat) (hd : d < 4) (gs : List Nat) (hg : gs ∈ insts M [] d) : ∀ n, n < M → hs.contains n = false → pin hs (zap (n + 1) gs) = pin hs gs := of_decide_eq_true (in_zap3' M hM hs hh d hd gs hg)
theorem in_zap (M : Nat) (hM : M < 5) (hs : List Nat) (hh : hs ∈ hss M) (d : Nat) (hd : d < 4) (gs : List Nat) (hg : gs ∈ insts M [] d) : (∀ n, n < M → hs.contains n = true → (pin hs gs).contains (n + 1) = gs.contains (n + 1) ∧ zap (n + 1) (pin hs gs) = pin hs (zap (n + 1) gs)) ∧ (∀ n, n < M → hs.contains n = false → pin hs (zap (n + 1) gs) = pin hs gs) :=
  ⟨fun n hn h => ⟨in_zap1 M hM hs hh d hd gs hg n hn h, in_zap2 M hM hs hh d hd gs hg n hn h⟩, in_zap3 M hM hs hh d hd gs hg⟩
theorem in_emb1 : ∀ M, M < 5 → ∀ hs ∈ hss M, ∀ d, d < 4 → ∀ gs ∈ insts hs.length [] d, ∀ e, e < hs.length → (emb hs gs).contains (hs.getD e 0 + 1) = gs.contains (e + 1) := by decide +kernel
theorem in_emb2 : ∀ M, M < 5 → ∀ hs ∈ hss M, ∀ d, d < 4 → ∀ gs ∈ insts hs.length [] d, ∀ e, e < hs.length → zap (hs.getD e 0 + 1) (emb hs gs) = emb hs (zap (e + 1) gs) := by decide +kernel
theorem in_emb (M : Nat) (hM : M < 5) (hs : List Nat) (hh : hs ∈ hss M) (d : Nat) (hd : d < 4) (gs : List Nat) (hg : gs ∈ insts hs.length [] d) (e : Nat) (he : e < hs.length) : (emb hs gs).contains (hs.getD e 0 + 1) = gs.contains (e + 1) ∧ zap (hs.getD e 0 + 1) (emb hs gs) = emb hs (zap (e + 1) gs) := ⟨in_emb1 M hM hs hh d hd gs hg e he, in_emb2 M hM hs hh d hd gs hg e he⟩
theorem hss_in : ∀ M, M < 5 → ∀ hs ∈ hss M, hs.length ≤ 2 ∧ ∀ e, e < hs.length → hs.getD e 0 < M ∧ hs.contains (hs.getD e 0) = true := by decide +kernel
theorem find_pin {α : Type} [BEq α] [LawfulBEq α] {L : List α} {P : α → Bool} {π : α → α} (h1 : ∀ x ∈ L, π x ∈ L ∧ L.idxOf (π x) ≤ L.idxOf x) (hP : ∀ x ∈ L, P (π x) = P x) : L.find? P = (L.filter (fun x => π x == x)).find? P := by
  cases hf : L.find? P with
  | none =>
    symm
    rw [List.find?_eq_none] at hf ⊢
    intro x hx
    exact hf x (List.mem_filter.mp hx).1
  | some x =>
    symm
    obtain ⟨px, as, bs, e, has⟩ := List.find?_eq_some_iff_append.mp hf
    have hxL : x ∈ L := by rw [e]; simp
    obtain ⟨m1, m2⟩ := h1 x hxL
    have hpx : P (π x) = true := by rw [hP x hxL]; exact px
    have nas : ∀ y, P y = true → y ∉ as := fun y hy hm => by have := has y hm; rw [hy] at this; cases this
    have i1 : L.idxOf x = as.length := by
      rw [e, List.idxOf_append, if_neg (nas x px)]
      simp
    have i2 : L.idxOf (π x) = as.length + (x :: bs).idxOf (π x) := by
      rw [e, List.idxOf_append, if_neg (nas _ hpx)]
      omega
    have i3 : (x :: bs).idxOf (π x) = 0 := by omega
    have hx : π x = x := by
      rw [List.idxOf_cons] at i3
      by_cases c : (x == π x) = true
      · exact (eq_of_beq c).symm
      · rw [Bool.cond_eq_ite, if_neg c] at i3
        omega
    rw [e, List.filter_append, List.find?_append]
    have n1 : (as.filter (fun x => π x == x)).find? P = none := by
      rw [List.find?_eq_none]
      intro y hy
      have := has y (List.mem_filter.mp hy).1
      intro q
      rw [q] at this
      cases this
    rw [n1, List.filter_cons, if_pos (by rw [hx]; exact beq_self_eq_true x), List.find?_cons, px]
    rfl
theorem find_congr {α : Type} {P Q : α → Bool} : ∀ {L : List α}, (∀ x ∈ L, P x = Q x) → L.find? P = L.find? Q
  | [], _ => rfl
  | a :: L, h => by
    rw [List.find?_cons, List.find?_cons, h a List.mem_cons_self, find_congr (fun x hx => h x (List.mem_cons_of_mem _ hx))]
theorem first_held {A B : List Nat → Bool} {M d e : Nat} {hs : List Nat} (hM : M < 5) (hd : d < 4) (hh : hs ∈ hss M) (he : e < hs.length) (hA : ∀ gs ∈ insts M [] d, A (pin hs gs) = A gs) (hB : ∀ gs ∈ insts hs.length [] d, A (emb hs gs) = B gs) : fsh A (hs.getD e 0 + 1) M d = (fsh B (e + 1) hs.length d).map (emb hs) := by
  unfold fsh
  obtain ⟨hl, hin⟩ := hss_in M hM hs hh
  obtain ⟨a1, a2⟩ := hin e he
  rw [find_pin (π := pin hs) (in_ord M hM hs hh d hd), in_pin M hM hs hh d hd, List.find?_map]
  · congr 1
    apply find_congr
    intro gs hg
    obtain ⟨b1, b2⟩ := in_emb M hM hs hh d hd gs hg e he
    show shB A _ (emb hs gs) = _
    unfold shB
    rw [b1, b2, hB gs hg, hB _ ((in_ok hs.length (by omega) d hd gs hg).2.2 _ (by omega))]
  · intro gs hg
    obtain ⟨b1, b2⟩ := (in_zap M hM hs hh d hd gs hg).1 _ a1 a2
    unfold shB
    rw [b1, b2, hA gs hg, hA _ ((in_ok M hM d hd gs hg).2.2 _ (by omega))]
theorem first_out {A : List Nat → Bool} {M d n : Nat} {hs : List Nat} (hM : M < 5) (hd : d < 4) (hh : hs ∈ hss M) (hn : n < M) (ho : hs.contains n = false) (hA : ∀ gs ∈ insts M [] d, A (pin hs gs) = A gs) : fsh A (n + 1) M d = none := by
  unfold fsh
  rw [List.find?_eq_none]
  intro gs hg
  have b := (in_zap M hM hs hh d hd gs hg).2 n hn ho
  unfold shB
  rw [← hA gs hg, ← hA _ ((in_ok M hM d hd gs hg).2.2 (n + 1) (by omega)), b]
  simp
