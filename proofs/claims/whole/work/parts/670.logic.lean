/-! ===== a small logic of what a function answers ===== -/
def Y {α : Type} (x : Option α) (Q : α → Prop) : Prop := ∃ a, x = some a ∧ Q a
theorem yGd {α : Type} {c : Bool} {x : Option α} {Q : α → Prop} (h : c = true) (k : Y x Q) : Y (gd c x) Q := by
  rw [gd_t h]; exact k
theorem yLt {α β : Type} {v : β} {f : β → Option α} {Q : α → Prop} (k : ∀ y, y = v → Y (f y) Q) : Y (lt v f) Q := k v rfl
theorem yLt0 {α β : Type} {v : β} {f : β → Option α} {Q : α → Prop} (k : Y (f v) Q) : Y (lt v f) Q := k
theorem yIte {α : Type} {c : Prop} [Decidable c] {x y : Option α} {Q : α → Prop} (h1 : c → Y x Q) (h2 : ¬ c → Y y Q) : Y (if c then x else y) Q := by
  by_cases h : c
  · rw [if_pos h]; exact h1 h
  · rw [if_neg h]; exact h2 h
theorem yPos {α : Type} {c : Prop} [Decidable c] {x y : Option α} {Q : α → Prop} (h : c) (k : Y x Q) : Y (if c then x else y) Q := by
  rw [if_pos h]; exact k
theorem yNeg {α : Type} {c : Prop} [Decidable c] {x y : Option α} {Q : α → Prop} (h : ¬ c) (k : Y y Q) : Y (if c then x else y) Q := by
  rw [if_neg h]; exact k
theorem yBI {α : Type} {x : Option (Int32 × Dm)} {f : Int32 → Dm → Option α} {P : Int32 × Dm → Prop} {Q : α → Prop} (h : Y x P) (k : ∀ r D, P (r, D) → Y (f r D) Q) : Y (bI x f) Q := by
  obtain ⟨⟨r, D⟩, e, p⟩ := h
  rw [e]; exact k r D p
theorem yBV {α : Type} {x : Option Dm} {f : Dm → Option α} {P : Dm → Prop} {Q : α → Prop} (h : Y x P) (k : ∀ D, P D → Y (f D) Q) : Y (bV x f) Q := by
  obtain ⟨D, e, p⟩ := h
  rw [e]; exact k D p
theorem yBIe {α : Type} {x : Option (Int32 × Dm)} {f : Int32 → Dm → Option α} {r : Int32} {D : Dm} {Q : α → Prop} (h : x = some (r, D)) (k : Y (f r D) Q) : Y (bI x f) Q := by
  rw [h]; exact k
theorem yBVe {α : Type} {x : Option Dm} {f : Dm → Option α} {D : Dm} {Q : α → Prop} (h : x = some D) (k : Y (f D) Q) : Y (bV x f) Q := by
  rw [h]; exact k
theorem yRet {α : Type} {a : α} {Q : α → Prop} (h : Q a) : Y (some a) Q := ⟨a, rfl, h⟩
theorem yMono {α : Type} {x : Option α} {P Q : α → Prop} (h : Y x P) (k : ∀ a, P a → Q a) : Y x Q := by
  obtain ⟨a, e, p⟩ := h
  exact ⟨a, e, k a p⟩
/-- nothing changed but what S says -/
def Fr (S : Nat → Nat → Prop) (D D' : Dm) : Prop := ∀ j k, ¬ S j k → D' j k = D j k
theorem Fr.refl {S : Nat → Nat → Prop} {D : Dm} : Fr S D D := fun _ _ _ => rfl
theorem Fr.tr {S : Nat → Nat → Prop} {D D' D'' : Dm} (h1 : Fr S D D') (h2 : Fr S D' D'') : Fr S D D'' := fun j k h => by rw [h2 j k h, h1 j k h]
theorem Fr.mono {S S' : Nat → Nat → Prop} {D D' : Dm} (h : Fr S D D') (hS : ∀ j k, S j k → S' j k) : Fr S' D D' := fun j k hn => h j k (fun q => hn (hS j k q))
theorem Fr.ud {S : Nat → Nat → Prop} {D D' : Dm} {i n : Nat} {v : Int32} (h : Fr S D D') (hs : S i n) : Fr S D (ud D' i n v) := fun j k hn => by
  rw [ud_at, if_neg (fun q => hn (by rw [q.1, q.2]; exact hs)), h j k hn]
theorem Fr.go {S : Nat → Nat → Prop} {D D' : Dm} {g : Nat} {c : Cf} (h : Fr S D D') (h0 : S g 0) (h1 : S (g + 1) 0) (h2 : S (g + 1) 1) : Fr S D (setGo D' g c) := ((h.ud h0).ud h1).ud h2
theorem Fr.r {S : Nat → Nat → Prop} {D D' : Dm} {c : Cf} (h : Fr S D D') (h0 : S 281 3) (h1 : S 281 4) (h2 : S 281 5) : Fr S D (setR D' c) := ((h.ud h0).ud h1).ud h2
theorem fu1 (n : Nat) (h : n < 100000) : ∃ m, FU = n + 1 + m := FUs n h
theorem rf1 (n : Nat) (h : n < 16) : ∃ m, RF = n + 1 + m := ⟨RF - (n + 1), by unfold RF; omega⟩
