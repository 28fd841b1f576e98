/-! ===== what tests tell of a word: the held names, the shown, the kept; the ways ===== -/
/-- names that the registers hold, rising -/
def hsN (c : Cf) : List Nat :=
  if c.2.1 = -1 then (if c.2.2 = -1 then [] else [c.2.2.toNatClampNeg])
  else if c.2.2 = -1 then [c.2.1.toNatClampNeg]
  else if c.2.1.toNatClampNeg < c.2.2.toNatClampNeg then [c.2.1.toNatClampNeg, c.2.2.toNatClampNeg]
  else if c.2.2.toNatClampNeg < c.2.1.toNatClampNeg then [c.2.2.toNatClampNeg, c.2.1.toNatClampNeg]
  else [c.2.1.toNatClampNeg]
/-- the names of a list, as the class and the reference hold them -/
def lnm (l : List Nat) (i : Nat) : Int32 := nI (l.getD i 0)
/-- tests: letters, how many names -/
abbrev Tst : Type := Nat → List Lt × Nat
def okT (ts : Tst) (b : Nat) : Prop := ∀ t, t < b → (ts t).2 ≤ 3 ∧ ∀ a ∈ (ts t).1, isSy a.1 ∧ ∃ k, k < (ts t).2 ∧ a.2 = nI k
/-- what test t answers by an instance, names of the word told by f -/
def aG (T : Tb) (acc : Int32) (ts : Tst) (c : Cf) (q : Nat) (f : Nat → Int32) (t : Nat) (gs : List Nat) : Bool := ans T acc c (ts t).1 (nmg q f gs)
/-- the first of the tests below b that shows, and its instance -/
def shn (F : Nat → Option (List Nat)) : Nat → Option (Nat × List Nat)
  | 0 => none
  | b + 1 => match shn F b with
    | some x => some x
    | none => (F b).map (fun gs => (b, gs))
/-- what shows the held name at place e -/
def shE1 (T : Tb) (acc : Int32) (ts : Tst) (c : Cf) (b e : Nat) : Option (Nat × List Nat) := shn (fun t => fsh (aG T acc ts c 1000 (lnm (hsN c)) t) (e + 1) (hsN c).length (ts t).2) b
/-- the kept names -/
def kpN (T : Tb) (acc : Int32) (ts : Tst) (b : Nat) (c : Cf) : List Nat := ((List.range (hsN c).length).filter (fun e => (shE1 T acc ts c b e).isSome)).map (fun e => (hsN c).getD e 0)
/-- what is shown to the reference: name n of a word of M names -/
def shR (T : Tb) (acc : Int32) (ts : Tst) (c : Cf) (M b n : Nat) : Option (Nat × List Nat) := shn (fun t => fsh (aG T acc ts c 100 nI t) (n + 1) M (ts t).2) b
def okC (c : Cf) (M : Nat) : Prop := (c.2.1 = -1 ∨ ∃ k, k < M ∧ c.2.1 = nI k) ∧ (c.2.2 = -1 ∨ ∃ k, k < M ∧ c.2.2 = nI k)
theorem hsN_in {c : Cf} {M : Nat} (hM : M < 5) (hc : okC c M) : hsN c ∈ hss M := by
  have one : ∀ M, M < 5 → ∀ k, k < M → [k] ∈ hss M := by decide +kernel
  have two : ∀ M, M < 5 → ∀ k, k < M → ∀ j, j < k → [j, k] ∈ hss M := by decide +kernel
  have nil : ∀ M, M < 5 → [] ∈ hss M := by decide +kernel
  obtain ⟨h1, h2⟩ := hc
  unfold hsN
  rcases h1 with h1 | ⟨a, ha, h1⟩ <;> rcases h2 with h2 | ⟨b, hb, h2⟩
  · rw [if_pos h1, if_pos h2]; exact nil M hM
  · rw [if_pos h1, if_neg (by rw [h2]; exact nI_n1 (by omega)), h2, nI_cl (by omega)]; exact one M hM b hb
  · rw [if_neg (by rw [h1]; exact nI_n1 (by omega)), if_pos h2, h1, nI_cl (by omega)]; exact one M hM a ha
  · rw [if_neg (by rw [h1]; exact nI_n1 (by omega)), if_neg (by rw [h2]; exact nI_n1 (by omega)), h1, h2, nI_cl (by omega), nI_cl (by omega)]
    split
    · exact two M hM b hb a (by assumption)
    · split
      · exact two M hM a ha b (by assumption)
      · exact one M hM a ha
/-- what the registers hold is held -/
theorem hsN_reg {c : Cf} {M : Nat} (hM : M < 5) (hc : okC c M) {r : Int32} (hr : r = c.2.1 ∨ r = c.2.2) : r = -1 ∨ ∃ k, k < M ∧ r = nI k ∧ (hsN c).contains k = true := by
  obtain ⟨h1, h2⟩ := hc
  unfold hsN
  rcases h1 with h1 | ⟨a, ha, h1⟩ <;> rcases h2 with h2 | ⟨b, hb, h2⟩
  · left; rcases hr with e | e <;> rw [e] <;> assumption
  · rw [if_pos h1, if_neg (by rw [h2]; exact nI_n1 (by omega)), h2, nI_cl (by omega)]
    rcases hr with e | e
    · left; rw [e, h1]
    · right; exact ⟨b, hb, by rw [e, h2], by simp⟩
  · rw [if_neg (by rw [h1]; exact nI_n1 (by omega)), if_pos h2, h1, nI_cl (by omega)]
    rcases hr with e | e
    · right; exact ⟨a, ha, by rw [e, h1], by simp⟩
    · left; rw [e, h2]
  · rw [if_neg (by rw [h1]; exact nI_n1 (by omega)), if_neg (by rw [h2]; exact nI_n1 (by omega)), h1, h2, nI_cl (by omega), nI_cl (by omega)]
    right
    rcases hr with e | e
    · refine ⟨a, ha, by rw [e, h1], ?_⟩
      split
      · simp
      · split <;> simp
    · refine ⟨b, hb, by rw [e, h2], ?_⟩
      split
      · simp
      · split
        · simp
        · have : b = a := by omega
          simp [this]
theorem dig_map {f : Nat → Nat} (h0 : f 0 = 0) {gs : List Nat} {i : Nat} : dig (gs.map f) i = f (dig gs i) := by
  unfold dig
  rw [List.getD_eq_getElem?_getD, List.getD_eq_getElem?_getD, List.getElem?_map]
  cases gs[i]? with
  | none => exact h0.symm
  | some x => rfl
theorem hss_lt1 : ∀ M, M < 5 → ∀ hs ∈ hss M, ∀ g, g ≤ hs.length → g ≠ 0 → hs.getD (g - 1) 0 < M := by decide +kernel
def bLt2 (hs : List Nat) : Bool := decide (∀ g, g ≤ hs.length → ∀ g', g' ≤ hs.length → (g ≠ 0 ∧ g' ≠ 0 ∧ hs.getD (g - 1) 0 = hs.getD (g' - 1) 0) → g = g')
theorem hss_lt2' : ∀ M, M < 5 → ∀ hs ∈ hss M, bLt2 hs = true := by decide +kernel
theorem hss_lt2 (M : Nat) (hM : M < 5) (hs : List Nat) (hh : hs ∈ hss M) : ∀ g, g ≤ hs.length → ∀ g', g' ≤ hs.length → (g ≠ 0 ∧ g' ≠ 0 ∧ hs.getD (g - 1) 0 = hs.getD (g' - 1) 0) → g = g' := of_decide_eq_true (hss_lt2' M hM hs hh)
theorem hss_lt (M : Nat) (hM : M < 5) (hs : List Nat) (hh : hs ∈ hss M) : (∀ g, g ≤ hs.length → g ≠ 0 → hs.getD (g - 1) 0 < M) ∧ ∀ g, g ≤ hs.length → ∀ g', g' ≤ hs.length → g ≠ 0 → g' ≠ 0 → hs.getD (g - 1) 0 = hs.getD (g' - 1) 0 → g = g' :=
  ⟨hss_lt1 M hM hs hh, fun g hg g' hg' h1 h2 h3 => hss_lt2 M hM hs hh g hg g' hg' ⟨h1, h2, h3⟩⟩
section
variable {T : Tb} {acc : Int32} {ts : Tst} {b M : Nat} {c : Cf}
theorem okC_100 (hM : M < 5) (hc : okC c M) : (c.2.1 = -1 ∨ ∃ k, k < 100 ∧ c.2.1 = nI k) ∧ (c.2.2 = -1 ∨ ∃ k, k < 100 ∧ c.2.2 = nI k) :=
  ⟨hc.1.imp id (fun ⟨k, h, e⟩ => ⟨k, by omega, e⟩), hc.2.imp id (fun ⟨k, h, e⟩ => ⟨k, by omega, e⟩)⟩
theorem aG_pin (hM : M < 5) (hc : okC c M) (hT : okT ts b) {t : Nat} (ht : t < b) : ∀ gs ∈ insts M [] (ts t).2, aG T acc ts c 100 nI t (pin (hsN c) gs) = aG T acc ts c 100 nI t gs := by
  intro gs hg
  obtain ⟨hd, hl⟩ := hT t ht
  obtain ⟨-, a2, -⟩ := in_ok M hM _ (by omega) gs hg
  have p0 : ∀ i, dig (pin (hsN c) gs) i = if dig gs i ≠ 0 ∧ (hsN c).contains (dig gs i - 1) = true then dig gs i else 0 := fun i => by
    unfold pin
    rw [dig_map]
    rw [if_neg (by simp)]
  unfold aG
  refine ans_dig (d := (ts t).2) (fun a ha => (hl a ha).2) hd (by omega) (by omega) (okC_100 hM hc) ?_ ?_ ?_ ?_ ?_
  · intro i hi h
    refine ⟨_, ?_, rfl⟩
    rw [p0] at h ⊢
    have := (a2 i hi).1
    split <;> omega
  · intro i hi h
    have := (a2 i hi).1
    exact ⟨_, by omega, rfl⟩
  · intro i j hi hj h1 h2 e
    rw [p0] at h1 e
    rw [p0] at h2 e
    have q1 := (a2 i hi).1
    have q2 := (a2 j hj).1
    split at h1
    · split at h2
      · rename_i c1 c2
        rw [if_pos c1, if_pos c2] at e
        have := nI_inj (by omega) (by omega) e
        exact (a2 i hi).2 j hj c1.1 (by omega)
      · exact absurd rfl h2
    · exact absurd rfl h1
  · intro i j hi hj h1 h2 e
    have q1 := (a2 i hi).1
    have q2 := (a2 j hj).1
    have := nI_inj (by omega) (by omega) e
    exact (a2 i hi).2 j hj h1 (by omega)
  · intro i hi r hr
    rw [p0]
    have q1 := (a2 i hi).1
    constructor
    · rintro ⟨h1, h2⟩
      split at h1
      · rename_i c1
        rw [if_pos c1] at h2
        exact ⟨c1.1, h2⟩
      · exact absurd rfl h1
    · rintro ⟨h1, h2⟩
      rcases hsN_reg hM hc hr with e | ⟨k, hk, e, hkc⟩
      · rw [e] at h2; exact absurd h2 (nI_n1 (by omega))
      · rw [e] at h2
        have := nI_inj (by omega) (by omega) h2
        have c1 : dig gs i ≠ 0 ∧ (hsN c).contains (dig gs i - 1) = true := ⟨h1, by rw [this]; exact hkc⟩
        rw [if_pos c1, e]
        exact ⟨h1, h2⟩
/-- the reference's answers are the class's, by instances of held ones -/
theorem aG_emb (hM : M < 5) (hc : okC c M) (hT : okT ts b) {t : Nat} (ht : t < b) : ∀ gs ∈ insts (hsN c).length [] (ts t).2, aG T acc ts c 100 nI t (emb (hsN c) gs) = aG T acc ts c 1000 (lnm (hsN c)) t gs := by
  intro gs hg
  obtain ⟨hd, hl⟩ := hT t ht
  have hh := hsN_in hM hc
  obtain ⟨l2, -⟩ := hss_in M hM _ hh
  obtain ⟨b1, b2⟩ := hss_lt M hM _ hh
  obtain ⟨-, a2, -⟩ := in_ok _ (by omega) _ (by omega) gs hg
  have p0 : ∀ i, dig (emb (hsN c) gs) i = if dig gs i = 0 then 0 else (hsN c).getD (dig gs i - 1) 0 + 1 := fun i => by
    unfold emb
    rw [dig_map]
    rfl
  unfold aG
  refine ans_dig (d := (ts t).2) (fun a ha => (hl a ha).2) hd (by omega) (by omega) (okC_100 hM hc) ?_ ?_ ?_ ?_ ?_
  · intro i hi h
    refine ⟨_, ?_, rfl⟩
    rw [p0] at h ⊢
    split at h
    · exact absurd rfl h
    · rename_i c1
      rw [if_neg c1]
      have := b1 _ (a2 i hi).1 c1
      omega
  · intro i hi h
    have := b1 _ (a2 i hi).1 h
    exact ⟨_, by omega, rfl⟩
  · intro i j hi hj h1 h2 e
    rw [p0] at h1 e
    rw [p0] at h2 e
    split at h1
    · exact absurd rfl h1
    · split at h2
      · exact absurd rfl h2
      · rename_i c1 c2
        rw [if_neg c1, if_neg c2] at e
        have q1 := b1 _ (a2 i hi).1 c1
        have q2 := b1 _ (a2 j hj).1 c2
        have := nI_inj (by omega) (by omega) e
        exact (a2 i hi).2 j hj c1 (b2 _ (a2 i hi).1 _ (a2 j hj).1 c1 c2 (by omega))
  · intro i j hi hj h1 h2 e
    have q1 := b1 _ (a2 i hi).1 h1
    have q2 := b1 _ (a2 j hj).1 h2
    have := nI_inj (by omega) (by omega) e
    exact (a2 i hi).2 j hj h1 (b2 _ (a2 i hi).1 _ (a2 j hj).1 h1 h2 (by omega))
  · intro i hi r hr
    rw [p0]
    constructor
    · rintro ⟨h1, h2⟩
      split at h1
      · exact absurd rfl h1
      · rename_i c1
        rw [if_neg c1] at h2
        exact ⟨c1, h2⟩
    · rintro ⟨h1, h2⟩
      rw [if_neg h1]
      exact ⟨by omega, h2⟩
theorem shn_congr {F G : Nat → Option (List Nat)} : ∀ {b : Nat}, (∀ t, t < b → F t = G t) → shn F b = shn G b
  | 0, _ => rfl
  | b + 1, h => by
    unfold shn
    rw [shn_congr (fun t ht => h t (by omega)), h b (by omega)]
theorem shn_map {F : Nat → Option (List Nat)} {φ : List Nat → List Nat} : ∀ {b : Nat}, shn (fun t => (F t).map φ) b = (shn F b).map (fun x => (x.1, φ x.2))
  | 0 => rfl
  | b + 1 => by
    show (match shn (fun t => (F t).map φ) b with | some x => some x | none => _) = _
    rw [shn_map]
    show _ = Option.map _ (match shn F b with | some x => some x | none => (F b).map (fun gs => (b, gs)))
    cases shn F b with
    | some x => rfl
    | none =>
      show Option.map (fun gs => (b, gs)) (Option.map φ (F b)) = Option.map _ (Option.map (fun gs => (b, gs)) (F b))
      cases F b <;> rfl
theorem shn_none {F : Nat → Option (List Nat)} : ∀ {b : Nat}, (∀ t, t < b → F t = none) → shn F b = none
  | 0, _ => rfl
  | b + 1, h => by
    unfold shn
    rw [shn_none (fun t ht => h t (by omega)), h b (by omega)]
    rfl
/-- what shows a held name to the reference is what shows it to the class -/
theorem shR_held (hM : M < 5) (hc : okC c M) (hT : okT ts b) {e : Nat} (he : e < (hsN c).length) : shR T acc ts c M b ((hsN c).getD e 0) = (shE1 T acc ts c b e).map (fun x => (x.1, emb (hsN c) x.2)) := by
  unfold shR shE1
  rw [← shn_map]
  refine shn_congr (fun t ht => ?_)
  exact first_held hM (by have := (hT t ht).1; omega) (hsN_in hM hc) he (aG_pin hM hc hT ht) (aG_emb hM hc hT ht)
theorem shR_out (hM : M < 5) (hc : okC c M) (hT : okT ts b) {n : Nat} (hn : n < M) (ho : (hsN c).contains n = false) : shR T acc ts c M b n = none := by
  unfold shR
  exact shn_none (fun t ht => first_out hM (by have := (hT t ht).1; omega) (hsN_in hM hc) hn ho (aG_pin hM hc hT ht))
end
