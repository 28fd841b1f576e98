/-! ===== the class's asker ===== -/
theorem d3 : ∀ r, r < 27 → nI r / 3 = nI (r / 3) ∧ nI r - nI r / 3 * 3 = nI (r % 3) := by decide +kernel
theorem nI_mul (a b : Nat) : nI a * nI b = nI (a * b) := (Int32.ofNat_mul a b).symm
theorem nI_m1 (n : Nat) : nI (n + 1) - 1 = nI n := nI_pred n
theorem add_m1 (x : Int32) : x + -1 = x - 1 := by rw [Int32.sub_eq_add_neg]
theorem lt3 {g : Nat} (h : g < 3) : g = 0 ∨ g = 1 ∨ g = 2 := by omega
theorem okD_bad {m g : Nat} {l sf : List Nat} (h : m < g ∨ (g ≠ 0 ∧ g ∈ sf)) : okD m (l ++ g :: sf) = false := by
  unfold okD
  rcases h with h | h
  · have : (l ++ g :: sf).all (fun g => decide (g ≤ m)) = false := by
      rw [List.all_eq_false]
      exact ⟨g, by simp, by simp; omega⟩
    rw [this, Bool.false_and]
  · rw [Bool.and_eq_false_iff]
    right
    rw [decide_eq_false_iff_not, List.filter_append, List.filter_cons, if_pos (by simp [h.1])]
    intro q
    have := (List.nodup_append.mp q).2.1
    exact (List.nodup_cons.mp this).1 (List.mem_filter.mpr ⟨h.2, by simp [h.1]⟩)
theorem okD_cons {m g : Nat} {sf : List Nat} (h : g ≤ m) (h2 : g = 0 ∨ g ∉ sf) (h3 : okD m sf = true) : okD m (g :: sf) = true := by
  unfold okD at h3 ⊢
  rw [Bool.and_eq_true, decide_eq_true_eq] at h3 ⊢
  refine ⟨?_, ?_⟩
  · rw [List.all_cons, h3.1, decide_eq_true h]; rfl
  · rw [List.filter_cons]
    rcases h2 with rfl | h2
    · rw [if_neg (by simp)]; exact h3.2
    · split
      · exact List.nodup_cons.mpr ⟨fun q => h2 (List.mem_filter.mp q).1, h3.2⟩
      · exact h3.2
theorem wtS_0 {g : Nat} : ∀ {l : List Nat}, wtS l g = 0 ↔ g ∉ l
  | [] => by simp [wtS]
  | x :: l => by
    unfold wtS
    by_cases h : x = g
    · rw [if_pos h]
      have : 0 < 3 ^ l.length := Nat.pow_pos (by omega)
      constructor
      · intro q; omega
      · intro q; exact absurd (by rw [h]; exact List.mem_cons_self) q
    · rw [if_neg h, wtS_0]
      simp [Ne.symm h]
theorem wtS_le {g : Nat} : ∀ {l : List Nat}, wtS l g ≤ 3 ^ l.length
  | [] => by simp [wtS]
  | x :: l => by
    unfold wtS
    have h2 := wtS_le (g := g) (l := l)
    have e : 3 ^ (x :: l).length = 3 * 3 ^ l.length := by rw [List.length_cons, Nat.pow_succ]; omega
    split <;> omega
theorem nb_67 {k : Nat → Nat → Int32 → Int32 → Int32 → Int32 → Dm → Option (Int32 × Dm)} {r3 g i : Nat} {x4 x5 x6 : Int32} {D : Dm} (hg : g < 3) (hi : i < 3) (hr : r3 ≠ 78 ∧ r3 ≠ 79) :
    f_X0_nameBy_67 k r3 2 x4 x5 x6 (nI i) (nI g) D = k r3 2 x4 (x5 / 3) (x6 * 3) (nI i - 1) (ud (ud D 79 g x6) 78 i (dnm 1000 (D r3) g i)) := by
  unfold f_X0_nameBy_67 f_X0_nameBy_102
  simp only [lt_d, nI_clamp (show i < 2 ^ 31 by omega), nI_clamp (show g < 2 ^ 31 by omega), gd_t (inB_nI hi (by omega)), gd_t (inB_nI hg (by omega)), add_m1]
  rcases lt3 hg with rfl | rfl | rfl
  · rw [if_pos nI_0, show (1000 : Int32) + nI i = nI (1000 + i) from nI_add 1000 i]
    rfl
  · rw [if_neg (by decide), gd_t (by decide)]
    rw [show ((nI 1) - 1).toNatClampNeg = 0 from by decide, ud_at, if_neg (by omega)]
    rfl
  · rw [if_neg (by decide), gd_t (by decide)]
    rw [show ((nI 2) - 1).toNatClampNeg = 1 from by decide, ud_at, if_neg (by omega)]
    rfl
abbrev SN (j k : Nat) : Prop := j = 78 ∨ j = 79
theorem dgs_len : ∀ (d q : Nat), (dgs d q).length = d
  | 0, _ => rfl
  | d + 1, q => by simp [dgs, dgs_len d]
theorem dig_mid {l sf : List Nat} {g : Nat} : dig (l ++ g :: sf) l.length = g := by
  unfold dig
  rw [List.getD_eq_getElem?_getD, List.getElem?_append_right (Nat.le_refl _)]
  simp
theorem nb_loop {r3 kc d q : Nat} (hr : r3 ≠ 78 ∧ r3 ≠ 79) (hk : kc ≤ 2) (hd : d ≤ 3) {D0 : Dm} : ∀ (i m r : Nat) (sf : List Nat) (D : Dm), dgs i r ++ sf = dgs d q → r < 3 ^ i → sf.length + i = d → okD kc sf = true → Fr SN D0 D → (∀ g, g = 1 ∨ g = 2 → D 79 g = nI (wtS sf g)) → (∀ j, i ≤ j → j < d → D 78 j = dnm 1000 (D0 r3) (dig (dgs d q) j) j) →
    Y (f_X0_nameBy_32 (i + 1 + m) r3 2 (nI kc) (nI r) (nI (3 ^ sf.length)) (nI i - 1) D) (fun a => a.1 = b01 (okD kc (dgs d q)) ∧ Fr SN D0 a.2 ∧ (okD kc (dgs d q) = true → (∀ g, g = 1 ∨ g = 2 → a.2 79 g = nI (wtS (dgs d q) g)) ∧ ∀ j, j < d → a.2 78 j = dnm 1000 (D0 r3) (dig (dgs d q) j) j)) := by
  intro i
  induction i with
  | zero =>
    intro m r sf D e hr2 hl hok hF hw hn
    rw [show 0 + 1 + m = m + 1 by omega]
    show Y (f_X0_nameBy_32_b _ _ _ _ _ _ _ _) _
    unfold f_X0_nameBy_32_b
    have e2 : sf = dgs d q := by rw [← e]; rfl
    rw [← e2] at hn ⊢
    refine yPos (by decide) (yRet ⟨?_, hF, fun _ => ⟨hw, fun j hj => hn j (by omega) hj⟩⟩)
    rw [hok]; rfl
  | succ i ih =>
    intro m r sf D e hr2 hl hok hF hw hn
    have p3 : 3 ^ (i + 1) ≤ 27 := by
      have : 3 ^ (i + 1) ≤ 3 ^ 3 := Nat.pow_le_pow_right (by omega) (by omega)
      omega
    rw [show i + 1 + 1 + m = (i + 1 + m) + 1 by omega]
    show Y (f_X0_nameBy_32_b _ _ _ _ _ _ _ _) _
    unfold f_X0_nameBy_32_b
    rw [nI_m1]
    refine yNeg (nI_pos (by omega)) (yLt0 ?_)
    rw [(d3 r (by omega)).2]
    have hg3 : r % 3 < 3 := Nat.mod_lt _ (by omega)
    have ed : dgs i (r / 3) ++ r % 3 :: sf = dgs d q := by
      rw [← e]
      show _ = dgs i (r / 3) ++ [r % 3] ++ sf
      simp
    generalize hgg : r % 3 = g at *
    have bad : (kc < g ∨ (g ≠ 0 ∧ g ∈ sf)) → okD kc (dgs d q) = false := fun h => by rw [← ed]; exact okD_bad h
    have hdg : dig (dgs d q) i = g := by
      rw [← ed]
      have := dig_mid (l := dgs i (r / 3)) (g := g) (sf := sf)
      rw [dgs_len] at this
      exact this
    have go : g ≤ kc → (g = 0 ∨ g ∉ sf) → Y (f_X0_nameBy_67 (f_X0_nameBy_32 (i + 1 + m)) r3 2 (nI kc) (nI r) (nI (3 ^ sf.length)) (nI i) (nI g) D) (fun a => a.1 = b01 (okD kc (dgs d q)) ∧ Fr SN D0 a.2 ∧ (okD kc (dgs d q) = true → (∀ g, g = 1 ∨ g = 2 → a.2 79 g = nI (wtS (dgs d q) g)) ∧ ∀ j, j < d → a.2 78 j = dnm 1000 (D0 r3) (dig (dgs d q) j) j)) := by
      intro hgk hgs
      rw [nb_67 hg3 (by omega) hr, (d3 r (by omega)).1, show (3 : Int32) = nI 3 from rfl, nI_mul, show 3 ^ sf.length * 3 = 3 ^ (g :: sf).length from (Nat.pow_succ ..).symm]
      refine ih m (r / 3) (g :: sf) _ ed ?_ (by simp; omega) (okD_cons hgk hgs hok) ((hF.ud (Or.inr rfl)).ud (Or.inl rfl)) ?_ ?_
      · have : 3 ^ (i + 1) = 3 ^ i * 3 := Nat.pow_succ ..
        omega
      · intro g' hg'
        rw [ud_at, if_neg (by omega), ud_at]
        unfold wtS
        by_cases h : g = g'
        · rw [if_pos ⟨rfl, h.symm⟩, if_pos h]
        · rw [if_neg (by omega), if_neg h]; exact hw g' hg'
      · intro j hj1 hj2
        rw [ud_at]
        by_cases h : j = i
        · rw [if_pos ⟨rfl, h⟩, h, hdg]
          unfold dnm
          rw [hF r3 _ (by unfold SN; omega)]
        · rw [if_neg (by omega), ud_at, if_neg (by omega)]
          exact hn j (by omega) hj2
    refine yIte (fun h => yRet ⟨?_, hF, fun q => ?_⟩) (fun h => yIte (fun h2 => ?_) (fun h2 => yGd (inB_nI hg3 (by omega)) ?_))
    · rw [bad (Or.inl ((nI_ltI (by omega) (by omega)).mp h))]; rfl
    · rw [bad (Or.inl ((nI_ltI (by omega) (by omega)).mp h))] at q; cases q
    · have hk0 : ¬ kc < g := fun q => h (nI_lt q (by omega))
      refine go (by omega) (Or.inl ?_)
      rw [← nI_0, nI_leI (by omega) (by omega)] at h2
      omega
    · have hk0 : ¬ kc < g := fun q => h (nI_lt q (by omega))
      have hg0 : g ≠ 0 := fun q => h2 (by rw [q, nI_0]; decide)
      have hwl : wtS sf g ≤ 27 := by
        have h1 := wtS_le (g := g) (l := sf)
        have : 3 ^ sf.length ≤ 3 ^ 3 := Nat.pow_le_pow_right (by omega) (by omega)
        omega
      rw [nI_clamp (by omega), hw g (by omega)]
      refine yIte (fun h3 => go (by omega) (Or.inr (wtS_0.mp ?_))) (fun h3 => yRet ⟨?_, hF, fun q => ?_⟩)
      · rw [← nI_0, nI_eq (by omega) (by omega)] at h3; exact h3
      · rw [bad (Or.inr ⟨hg0, ?_⟩)]; rfl
        exact Decidable.byContradiction (fun q => h3 (by rw [wtS_0.mpr q, nI_0]))
      · rw [bad (Or.inr ⟨hg0, ?_⟩)] at q; cases q
        exact Decidable.byContradiction (fun q => h3 (by rw [wtS_0.mpr q, nI_0]))
theorem mn3 : ∀ d, d < 4 → mnI (nI d) 3 = nI d := by decide +kernel
theorem nb_ok {r2 r3 kc d q : Nat} {D : Dm} (hr : r3 ≠ 78 ∧ r3 ≠ 79) (hr2 : r2 ≠ 79) (hk : kc ≤ 2) (hd : d ≤ 3) (h4 : D r2 4 = nI d) (hq : q < 3 ^ d) : Y (f_X0_nameBy (nI q) r2 r3 2 (nI kc) D) (fun a => a.1 = b01 (okD kc (dgs d q)) ∧ Fr SN D a.2 ∧ (okD kc (dgs d q) = true → (∀ g, g = 1 ∨ g = 2 → a.2 79 g = nI (wtS (dgs d q) g)) ∧ ∀ j, j < d → a.2 78 j = dnm 1000 (D r3) (dig (dgs d q) j) j)) := by
  unfold f_X0_nameBy
  simp only [lt_d]
  rw [ud_at, if_neg (by omega), ud_at, if_neg (by omega), h4, mn3 d (by omega)]
  obtain ⟨m, hm⟩ := FUs d (by omega)
  rw [hm]
  refine nb_loop (D0 := D) hr hk hd d m q [] _ (by simp) hq (by simp) (by rfl) ((Fr.refl.ud (Or.inr rfl)).ud (Or.inr rfl)) ?_ ?_
  · rintro g (rfl | rfl)
    · rw [ud_at, if_neg (by omega), ud_at, if_pos ⟨rfl, rfl⟩]; rfl
    · rw [ud_at, if_pos ⟨rfl, rfl⟩]; rfl
  · intro j h1 h2; omega
