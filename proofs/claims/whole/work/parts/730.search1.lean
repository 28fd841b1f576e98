/-! ===== couples up to other names: their numbers ===== -/
def lg0 (X : Nat → Int32) : Nat := if X 0 = -1 then 0 else 1
def lg1 (X : Nat → Int32) : Nat := if X 0 = X 1 then lg0 X else if X 1 = -1 then 0 else lg0 X + 1
def lg2 (X : Nat → Int32) : Nat := if X 0 = X 2 then lg0 X else if X 1 = X 2 then lg1 X else if X 2 = -1 then 0 else max (lg0 X) (lg1 X) + 1
def lg3 (X : Nat → Int32) : Nat := if X 0 = X 3 then lg0 X else if X 1 = X 3 then lg1 X else if X 2 = X 3 then lg2 X else if X 3 = -1 then 0 else max (max (lg0 X) (lg1 X)) (lg2 X) + 1
def dl (X : Nat → Int32) (r : Nat) : Nat := if r = 0 then lg0 X else if r = 1 then lg1 X else if r = 2 then lg2 X else lg3 X
def kk (X : Nat → Int32) : Nat → Nat
  | 0 => 0
  | r + 1 => max (kk X r) (dl X r)
theorem dl_n1 {X : Nat → Int32} : ∀ r, r < 4 → X r = -1 → dl X r = 0 := by
  intro r hr h
  have : r = 0 ∨ r = 1 ∨ r = 2 ∨ r = 3 := by omega
  have e0 : X 0 = -1 → lg0 X = 0 := fun h => if_pos h
  have e1 : X 1 = -1 → lg1 X = 0 := fun h => by
    unfold lg1
    split
    · rename_i q; rw [e0 (by rw [q, h])]
    · first | rfl | rw [if_pos h]
  have e2 : X 2 = -1 → lg2 X = 0 := fun h => by
    unfold lg2
    split
    · rename_i q; rw [e0 (by rw [q, h])]
    · split
      · rename_i q; rw [e1 (by rw [q, h])]
      · first | rfl | rw [if_pos h]
  have e3 : X 3 = -1 → lg3 X = 0 := fun h => by
    unfold lg3
    split
    · rename_i q; rw [e0 (by rw [q, h])]
    · split
      · rename_i q; rw [e1 (by rw [q, h])]
      · split
        · rename_i q; rw [e2 (by rw [q, h])]
        · first | rfl | rw [if_pos h]
  rcases this with rfl | rfl | rfl | rfl
  · exact e0 h
  · exact e1 h
  · exact e2 h
  · exact e3 h
theorem dl_eq {X : Nat → Int32} : ∀ r, r < 4 → ∀ o, o < r → X o = X r → dl X o = dl X r := by
  have a01 : X 0 = X 1 → lg0 X = lg1 X := fun h => by unfold lg1; rw [if_pos h]
  have a02 : X 0 = X 2 → lg0 X = lg2 X := fun h => by unfold lg2; rw [if_pos h]
  have a12 : X 1 = X 2 → lg1 X = lg2 X := fun h => by
    unfold lg2
    split
    · rename_i q; rw [a01 (by rw [q, h])]
    · first | rfl | rw [if_pos h]
  have a03 : X 0 = X 3 → lg0 X = lg3 X := fun h => by unfold lg3; rw [if_pos h]
  have a13 : X 1 = X 3 → lg1 X = lg3 X := fun h => by
    unfold lg3
    split
    · rename_i q; rw [a01 (by rw [q, h])]
    · first | rfl | rw [if_pos h]
  have a23 : X 2 = X 3 → lg2 X = lg3 X := fun h => by
    unfold lg3
    split
    · rename_i q; rw [a02 (by rw [q, h])]
    · split
      · rename_i q; rw [a12 (by rw [q, h])]
      · first | rfl | rw [if_pos h]
  intro r hr o ho h
  have : (o = 0 ∧ r = 1) ∨ (o = 0 ∧ r = 2) ∨ (o = 1 ∧ r = 2) ∨ (o = 0 ∧ r = 3) ∨ (o = 1 ∧ r = 3) ∨ (o = 2 ∧ r = 3) := by omega
  rcases this with ⟨rfl, rfl⟩ | ⟨rfl, rfl⟩ | ⟨rfl, rfl⟩ | ⟨rfl, rfl⟩ | ⟨rfl, rfl⟩ | ⟨rfl, rfl⟩
  · exact a01 h
  · exact a02 h
  · exact a12 h
  · exact a03 h
  · exact a13 h
  · exact a23 h
theorem dl_new {X : Nat → Int32} : ∀ r, r < 4 → X r ≠ -1 → (∀ o, o < r → X o ≠ X r) → dl X r = kk X r + 1 := by
  intro r hr h1 h2
  have : r = 0 ∨ r = 1 ∨ r = 2 ∨ r = 3 := by omega
  rcases this with rfl | rfl | rfl | rfl
  · show lg0 X = 0 + 1
    unfold lg0; rw [if_neg h1]
  · show lg1 X = max 0 (lg0 X) + 1
    unfold lg1; rw [if_neg (h2 0 (by omega)), if_neg h1]; omega
  · show lg2 X = max (max 0 (lg0 X)) (lg1 X) + 1
    unfold lg2; rw [if_neg (h2 0 (by omega)), if_neg (h2 1 (by omega)), if_neg h1]; omega
  · show lg3 X = max (max (max 0 (lg0 X)) (lg1 X)) (lg2 X) + 1
    unfold lg3; rw [if_neg (h2 0 (by omega)), if_neg (h2 1 (by omega)), if_neg (h2 2 (by omega)), if_neg h1]; omega
theorem kk_ge {X : Nat → Int32} : ∀ {r o : Nat}, o < r → dl X o ≤ kk X r
  | 0, o, h => absurd h (Nat.not_lt_zero o)
  | r + 1, o, h => by
    unfold kk
    by_cases e : o = r
    · rw [e]; omega
    · have := kk_ge (X := X) (r := r) (o := o) (by omega)
      omega
theorem dl_cases {X : Nat → Int32} {r : Nat} (hr : r < 4) : (X r = -1 ∧ dl X r = 0) ∨ (X r ≠ -1 ∧ ∃ o, o < r ∧ X o = X r ∧ (∀ q, q < o → X q ≠ X r) ∧ dl X r = dl X o) ∨ (X r ≠ -1 ∧ (∀ o, o < r → X o ≠ X r) ∧ dl X r = kk X r + 1) := by
  by_cases h : X r = -1
  · exact Or.inl ⟨h, dl_n1 r hr h⟩
  · by_cases h2 : ∀ o, o < r → X o ≠ X r
    · exact Or.inr (Or.inr ⟨h, h2, dl_new r hr h h2⟩)
    · refine Or.inr (Or.inl ⟨h, ?_⟩)
      have hx := fi_spec X (X r) r
      have hlt : fi X (X r) r < r := by
        refine Decidable.byContradiction (fun q => h2 (fun o ho => hx.2.1 o (by omega)))
      exact ⟨_, hlt, hx.2.2 hlt, hx.2.1, (dl_eq r hr _ hlt (hx.2.2 hlt)).symm⟩
theorem kk_le {X : Nat → Int32} : ∀ r, r ≤ 4 → kk X r ≤ r := by
  intro r hr
  induction r with
  | zero => exact Nat.le_refl _
  | succ r ih =>
    have ih := ih (by omega)
    unfold kk
    rcases dl_cases (X := X) (r := r) (by omega) with ⟨-, e⟩ | ⟨-, o, ho, -, -, e⟩ | ⟨-, -, e⟩
    · omega
    · have := kk_ge (X := X) ho; omega
    · omega
theorem dl_le {X : Nat → Int32} {r : Nat} (hr : r < 4) : dl X r ≤ 4 := by
  have := kk_ge (X := X) (r := r + 1) (o := r) (by omega)
  have := kk_le (X := X) (r + 1) (by omega)
  omega
def code5 (d : Nat → Nat) : Nat → Nat
  | 0 => 0
  | n + 1 => code5 d n * 5 + d n
theorem code5_lt {X : Nat → Int32} : ∀ r, r ≤ 4 → code5 (dl X) r < 5 ^ r
  | 0, _ => by show 0 < 1; omega
  | r + 1, h => by
    have h1 := code5_lt (X := X) r (by omega)
    have h2 := dl_le (X := X) (r := r) (by omega)
    show code5 (dl X) r * 5 + dl X r < 5 ^ r * 5
    omega
def inr (x : Nat → Int32) (d : Nat → Nat) (xi : Int32) : Nat → Nat → Nat
  | 0, g => g
  | j + 1, g => inr x d xi j (if x j = xi then d j else g)
theorem inr_dl {X : Nat → Int32} {r : Nat} (hr : r < 4) : ∀ (j g : Nat), j ≤ r → ((∃ o, o < j ∧ X o = X r) ∨ g = dl X r) → inr X (dl X) (X r) j g = dl X r
  | 0, g, _, h => by
    rcases h with ⟨o, ho, -⟩ | h
    · omega
    · exact h
  | j + 1, g, hj, h => by
    unfold inr
    refine inr_dl hr j _ (by omega) ?_
    by_cases e : X j = X r
    · right; rw [if_pos e]; exact dl_eq r hr j (by omega) e
    · rw [if_neg e]
      rcases h with ⟨o, ho, eo⟩ | h
      · left
        by_cases q : o = j
        · rw [q] at eo; exact absurd eo e
        · exact ⟨o, by omega, eo⟩
      · exact Or.inr h
theorem d5 : ∀ c, c < 125 → ∀ d, d < 5 → nI (c * 5 + d) / 5 = nI c ∧ nI (c * 5 + d) - nI (c * 5 + d) / 5 * 5 = nI d := by decide +kernel
theorem mx5 : ∀ a, a < 6 → ∀ b, b < 6 → mxI (nI a) (nI b) = nI (max a b) := by decide +kernel
theorem lk42 {k6 : Int32 → Int32 → Int32 → Dm → Option (Int32 × Dm)} {D : Dm} {r C K : Nat} (hr : r < 4) (hK : K ≤ 4) : ∀ (j m g : Nat), j ≤ r → g < 6 → f_X8_likeness_42 k6 (j + 1 + m) (nI C) (nI K) (nI r) (nI g) (nI (code5 (dl (D 40)) j)) (nI j - 1) D = k6 (nI (C * 5 + inr (D 40) (dl (D 40)) (D 40 r) j g)) (nI (max K (inr (D 40) (dl (D 40)) (D 40 r) j g))) (nI (r + 1)) D := by
  intro j
  induction j with
  | zero =>
    intro m g hj hg
    rw [show 0 + 1 + m = m + 1 by omega]
    show f_X8_likeness_42_b _ _ _ _ _ _ _ _ _ = _
    unfold f_X8_likeness_42_b
    rw [if_pos (by decide), lt_d, lt_d, lt_d, mx5 K (by omega) g hg, nI_1, show (5 : Int32) = nI 5 from rfl, nI_mul, nI_add]
    rfl
  | succ j ih =>
    intro m g hj hg
    have b1 := code5_lt (X := D 40) j (by omega)
    have b2 := dl_le (X := D 40) (r := j) (by omega)
    have b3 : 5 ^ j ≤ 5 ^ 3 := Nat.pow_le_pow_right (by omega) (by omega)
    rw [show j + 1 + 1 + m = (j + 1 + m) + 1 by omega]
    show f_X8_likeness_42_b _ _ _ _ _ _ _ _ _ = _
    unfold f_X8_likeness_42_b f_X8_likeness_69
    rw [nI_m1, if_neg (nI_pos (by omega)), gd_t (inB_nI (by omega) (by omega)), gd_t (inB_nI (by omega) (by omega)), nI_clamp (by omega), nI_clamp (by omega)]
    simp only [lt_d, add_m1]
    obtain ⟨z1, z2⟩ := d5 (code5 (dl (D 40)) j) (by omega) (dl (D 40) j) (by omega)
    rw [show code5 (dl (D 40)) (j + 1) = code5 (dl (D 40)) j * 5 + dl (D 40) j from rfl, z2, z1]
    show _ = k6 (nI (C * 5 + inr (D 40) (dl (D 40)) (D 40 r) j (if D 40 j = D 40 r then dl (D 40) j else g))) (nI (max K (inr (D 40) (dl (D 40)) (D 40 r) j (if D 40 j = D 40 r then dl (D 40) j else g)))) (nI (r + 1)) D
    by_cases e : D 40 j = D 40 r
    · rw [if_pos e, if_pos e, ih m _ (by omega) (by omega)]
    · rw [if_neg e, if_neg e, ih m _ (by omega) hg]
/-- the likeness of four registers -/
def lik (X : Nat → Int32) : Nat := code5 (dl X) 4
theorem lk6 {D : Dm} : ∀ (j r m : Nat), r + j = 4 → f_X8_likeness_6 (j + 1 + m) (nI (code5 (dl (D 40)) r)) (nI (kk (D 40) r)) (nI r) D = some (nI (lik (D 40)), D) := by
  intro j
  induction j with
  | zero =>
    intro r m hr
    have hr : r = 4 := by omega
    subst hr
    rw [show 0 + 1 + m = m + 1 by omega]
    show f_X8_likeness_6_b _ _ _ _ _ = _
    unfold f_X8_likeness_6_b
    rw [if_pos (by decide)]
    rfl
  | succ j ih =>
    intro r m hr
    have hk := kk_le (X := D 40) r (by omega)
    rw [show j + 1 + 1 + m = (j + 1 + m) + 1 by omega]
    show f_X8_likeness_6_b _ _ _ _ _ = _
    unfold f_X8_likeness_6_b f_X8_likeness_32
    rw [if_neg (show ¬ (4 : Int32) ≤ nI r from nI_nle2 (b := 4) (by omega) (by omega)), gd_t (inB_nI (by omega) (by omega)), nI_clamp (by omega), lt_d, lt_d, nI_1]
    obtain ⟨q, hq⟩ := FUs r (by omega)
    have key : ∀ g, g < 6 → inr (D 40) (dl (D 40)) (D 40 r) r g = dl (D 40) r → f_X8_likeness_42 (f_X8_likeness_6 (j + 1 + m)) FU (nI (code5 (dl (D 40)) r)) (nI (kk (D 40) r)) (nI r) (nI g) (nI (code5 (dl (D 40)) r)) (nI r - 1) D = some (nI (lik (D 40)), D) := by
      intro g hg e
      rw [hq, lk42 (by omega) (by omega) r q g (Nat.le_refl _) hg, e]
      exact ih (r + 1) m (by omega)
    rcases dl_cases (X := D 40) (r := r) (by omega) with ⟨h, e⟩ | ⟨h, o, ho, eo, -, e⟩ | ⟨h, h2, e⟩
    · rw [if_pos h, ← nI_0]
      exact key 0 (by omega) (inr_dl (by omega) r 0 (Nat.le_refl _) (Or.inr e.symm))
    · rw [if_neg h]
      exact key _ (by omega) (inr_dl (by omega) r _ (Nat.le_refl _) (Or.inl ⟨o, ho, eo⟩))
    · rw [if_neg h]
      exact key _ (by omega) (inr_dl (by omega) r _ (Nat.le_refl _) (Or.inr e.symm))
theorem like_ok {D : Dm} : f_X8_likeness D = some (nI (lik (D 40)), D) := by
  unfold f_X8_likeness
  obtain ⟨q, hq⟩ := FUs 4 (by omega)
  have := lk6 (D := D) 4 0 q rfl
  rw [show nI (code5 (dl (D 40)) 0) = 0 from nI_0, show nI (kk (D 40) 0) = 0 from nI_0, nI_0] at this
  rw [hq]
  exact this
