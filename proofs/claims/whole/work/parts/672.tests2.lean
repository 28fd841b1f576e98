theorem ans_pat {T : Tb} {acc : Int32} {c c' : Cf} {t : List Lt} {ν ν' : Int32 → Int32} {d : Nat} (ht : ∀ a ∈ t, ∃ k, k < d ∧ a.2 = nI k) (h0 : c.1 = c'.1) (e1 : c.2.1 = -1 ↔ c'.2.1 = -1) (e2 : c.2.2 = -1 ↔ c'.2.2 = -1) (e3 : c.2.1 = c.2.2 ↔ c'.2.1 = c'.2.2)
    (n1 : ∀ i, i < d → ν (nI i) ≠ -1 ∧ ν' (nI i) ≠ -1) (n2 : ∀ i j, i < d → j < d → (ν (nI i) = ν (nI j) ↔ ν' (nI i) = ν' (nI j))) (n3 : ∀ i, i < d → (ν (nI i) = c.2.1 ↔ ν' (nI i) = c'.2.1)) (n4 : ∀ i, i < d → (ν (nI i) = c.2.2 ↔ ν' (nI i) = c'.2.2)) :
    ans T acc c t ν = ans T acc c' t ν' := by
  refine ans_sim (R := fun x x' => (∃ i, i < d ∧ x = ν (nI i) ∧ x' = ν' (nI i)) ∨ (x = -1 ∧ x' = -1) ∨ (x = c.2.1 ∧ x' = c'.2.1) ∨ (x = c.2.2 ∧ x' = c'.2.2)) ⟨Or.inr (Or.inl ⟨rfl, rfl⟩), ?_⟩ ⟨h0, Or.inr (Or.inr (Or.inl ⟨rfl, rfl⟩)), Or.inr (Or.inr (Or.inr ⟨rfl, rfl⟩))⟩ ?_
  · have s1 : ∀ {a b : Int32} {a' b' : Int32}, (a = b ↔ a' = b') → (b = a ↔ b' = a') := fun h => ⟨fun q => (h.mp q.symm).symm, fun q => (h.mpr q.symm).symm⟩
    have f1 : ∀ i, i < d → (ν (nI i) = -1 ↔ ν' (nI i) = -1) := fun i hi => ⟨fun q => absurd q (n1 i hi).1, fun q => absurd q (n1 i hi).2⟩
    rintro x x' y y' (⟨i, hi, rfl, rfl⟩ | ⟨rfl, rfl⟩ | ⟨rfl, rfl⟩ | ⟨rfl, rfl⟩) (⟨j, hj, rfl, rfl⟩ | ⟨rfl, rfl⟩ | ⟨rfl, rfl⟩ | ⟨rfl, rfl⟩)
    · exact n2 i j hi hj
    · exact f1 i hi
    · exact n3 i hi
    · exact n4 i hi
    · exact s1 (f1 j hj)
    · exact ⟨fun _ => rfl, fun _ => rfl⟩
    · exact s1 e1
    · exact s1 e2
    · exact s1 (n3 j hj)
    · exact e1
    · exact ⟨fun _ => rfl, fun _ => rfl⟩
    · exact e3
    · exact s1 (n4 j hj)
    · exact e2
    · exact s1 e3
    · exact ⟨fun _ => rfl, fun _ => rfl⟩
  · intro a ha
    obtain ⟨k, hk, e⟩ := ht a ha
    exact Or.inl ⟨k, hk, by rw [e], by rw [e]⟩
theorem nI_inj {a b : Nat} (ha : a < 2 ^ 31) (hb : b < 2 ^ 31) (h : nI a = nI b) : a = b := by
  have h1 := congrArg Int32.toInt h
  unfold nI at h1
  rw [Int32.toInt_ofNat_of_lt ha, Int32.toInt_ofNat_of_lt hb] at h1
  omega
theorem nI_n1 {a : Nat} (ha : a < 2 ^ 31) : nI a ≠ -1 := by
  intro h
  have h1 := congrArg Int32.toInt h
  unfold nI at h1
  rw [Int32.toInt_ofNat_of_lt ha] at h1
  have : (-1 : Int32).toInt = -1 := rfl
  omega
theorem nI_cl {a : Nat} (ha : a < 2 ^ 31) : (nI a).toNatClampNeg = a := by
  unfold nI
  rw [← Int32.toNat_toInt, Int32.toInt_ofNat_of_lt ha]
  rfl
theorem nmg_at {q : Nat} {f : Nat → Int32} {gs : List Nat} {i : Nat} (hi : i < 2 ^ 31) : nmg q f gs (nI i) = dnm q f (dig gs i) i := by
  unfold nmg
  rw [nI_cl hi]
/-- which rows of digits tell one thing: those that set the same registers, if any -/
theorem ans_dig {T : Tb} {acc : Int32} {c : Cf} {t : List Lt} {d q q' : Nat} {f f' : Nat → Int32} {gs gs' : List Nat} (ht : ∀ a ∈ t, ∃ k, k < d ∧ a.2 = nI k) (hd : d ≤ 3)
    (hq : 100 ≤ q ∧ q ≤ 1000) (hq' : 100 ≤ q' ∧ q' ≤ 1000) (hc : (c.2.1 = -1 ∨ ∃ k, k < 100 ∧ c.2.1 = nI k) ∧ (c.2.2 = -1 ∨ ∃ k, k < 100 ∧ c.2.2 = nI k))
    (hf : ∀ i, i < d → dig gs i ≠ 0 → ∃ k, k < 100 ∧ f (dig gs i - 1) = nI k) (hf' : ∀ i, i < d → dig gs' i ≠ 0 → ∃ k, k < 100 ∧ f' (dig gs' i - 1) = nI k)
    (hu : ∀ i j, i < d → j < d → dig gs i ≠ 0 → dig gs j ≠ 0 → f (dig gs i - 1) = f (dig gs j - 1) → i = j) (hu' : ∀ i j, i < d → j < d → dig gs' i ≠ 0 → dig gs' j ≠ 0 → f' (dig gs' i - 1) = f' (dig gs' j - 1) → i = j)
    (hr : ∀ i, i < d → ∀ r, r = c.2.1 ∨ r = c.2.2 → ((dig gs i ≠ 0 ∧ f (dig gs i - 1) = r) ↔ (dig gs' i ≠ 0 ∧ f' (dig gs' i - 1) = r))) :
    ans T acc c t (nmg q f gs) = ans T acc c t (nmg q' f' gs') := by
  have key : ∀ {q : Nat} {f : Nat → Int32} {gs : List Nat}, 100 ≤ q ∧ q ≤ 1000 → (∀ i, i < d → dig gs i ≠ 0 → ∃ k, k < 100 ∧ f (dig gs i - 1) = nI k) → (∀ i j, i < d → j < d → dig gs i ≠ 0 → dig gs j ≠ 0 → f (dig gs i - 1) = f (dig gs j - 1) → i = j) →
      (∀ i, i < d → nmg q f gs (nI i) ≠ -1) ∧ (∀ i j, i < d → j < d → (nmg q f gs (nI i) = nmg q f gs (nI j) ↔ i = j)) ∧ (∀ i, i < d → ∀ r, (r = c.2.1 ∨ r = c.2.2) → (nmg q f gs (nI i) = r ↔ (dig gs i ≠ 0 ∧ f (dig gs i - 1) = r))) := by
    intro q f gs hq hf hu
    refine ⟨fun i hi => ?_, fun i j hi hj => ?_, fun i hi r hr => ?_⟩
    · rw [nmg_at (by omega)]
      unfold dnm
      by_cases h : dig gs i = 0
      · rw [if_pos h]; exact nI_n1 (by omega)
      · rw [if_neg h]
        obtain ⟨k, hk, e⟩ := hf i hi h
        rw [e]; exact nI_n1 (by omega)
    · rw [nmg_at (by omega), nmg_at (by omega)]
      unfold dnm
      by_cases h : dig gs i = 0
      · by_cases h2 : dig gs j = 0
        · rw [if_pos h, if_pos h2]
          exact ⟨fun e => by have := nI_inj (by omega) (by omega) e; omega, fun e => by rw [e]⟩
        · rw [if_pos h, if_neg h2]
          obtain ⟨k, hk, e⟩ := hf j hj h2
          rw [e]
          refine ⟨fun e => by have := nI_inj (by omega) (by omega) e; omega, fun e => ?_⟩
          rw [e] at h; exact absurd h h2
      · by_cases h2 : dig gs j = 0
        · rw [if_neg h, if_pos h2]
          obtain ⟨k, hk, e⟩ := hf i hi h
          rw [e]
          refine ⟨fun e => by have := nI_inj (by omega) (by omega) e; omega, fun e => ?_⟩
          rw [e] at h; exact absurd h2 h
        · rw [if_neg h, if_neg h2]
          exact ⟨fun e => hu i j hi hj h h2 e, fun e => by rw [e]⟩
    · rw [nmg_at (by omega)]
      unfold dnm
      by_cases h : dig gs i = 0
      · rw [if_pos h]
        refine ⟨fun e => ?_, fun e => absurd h e.1⟩
        exfalso
        have : r = -1 ∨ ∃ k, k < 100 ∧ r = nI k := by
          rcases hr with rfl | rfl
          · exact hc.1
          · exact hc.2
        rcases this with e2 | ⟨k, hk, e2⟩
        · rw [e2] at e; exact nI_n1 (by omega) e
        · rw [e2] at e; have := nI_inj (by omega) (by omega) e; omega
      · rw [if_neg h]
        exact ⟨fun e => ⟨h, e⟩, fun e => e.2⟩
  obtain ⟨a1, a2, a3⟩ := key hq hf hu
  obtain ⟨b1, b2, b3⟩ := key hq' hf' hu'
  refine ans_pat ht rfl Iff.rfl Iff.rfl Iff.rfl (fun i hi => ⟨a1 i hi, b1 i hi⟩) (fun i j hi hj => (a2 i j hi hj).trans (b2 i j hi hj).symm) (fun i hi => ?_) (fun i hi => ?_)
  · exact (a3 i hi _ (Or.inl rfl)).trans ((hr i hi _ (Or.inl rfl)).trans (b3 i hi _ (Or.inl rfl)).symm)
  · exact (a3 i hi _ (Or.inr rfl)).trans ((hr i hi _ (Or.inr rfl)).trans (b3 i hi _ (Or.inr rfl)).symm)
