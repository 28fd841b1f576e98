/-- the class's trail: cells from q to 280 may change -/
def frT (D D' : Dm) (q : Nat) : Prop := ∀ j k, (j < q ∨ 280 < j) → D' j k = D j k
theorem frT_refl {D : Dm} {q : Nat} : frT D D q := fun _ _ _ => rfl
theorem frT_tr {D D' D'' : Dm} {p q : Nat} (h1 : frT D D' p) (h2 : frT D' D'' q) (hpq : p ≤ q) : frT D D'' p := fun j k h => by
  rw [h2 j k (by omega), h1 j k h]
theorem ar268 : ∀ i, i < 6 → ar_268 i = 269 + 2 * i := by decide +kernel
theorem frT_set {D : Dm} {i q : Nat} {c : Cf} (h : q ≤ 269 + 2 * i) (hi : i < 6) : frT D (setGo D (269 + 2 * i) c) q := fun j k hj => by
  rw [setGo_at, if_neg (by omega), if_neg (by omega), if_neg (by omega)]
theorem frT_go {D D' : Dm} {i q : Nat} (h : frT D D' q) (hq : 269 + 2 * i + 1 < q) : getGo D' (269 + 2 * i) = getGo D (269 + 2 * i) := by
  unfold getGo
  rw [h _ _ (by omega), h _ _ (by omega), h _ _ (by omega)]
/-- what the class's recursion gives -/
def CtC (self : Nat → Int32 → Int32 → Int32 → Dm → Option (Int32 × Dm)) (D : Dm) (r : Nat) (T : Tb) (acc : Int32) (Y L i N : Nat) : Prop :=
  ∀ (c : Cf) (n : Nat) (D' : Dm), frT D D' 269 → getGo D' (269 + 2 * i) = c → okSt c.1 → n ≤ N → ∃ D'', self r (nI i) (nI n) (nI L) D' = some (nI (tkn T acc Y (L - i) c n), D'') ∧ frT D' D'' (271 + 2 * i)
