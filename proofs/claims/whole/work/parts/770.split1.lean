/-! ===== where a mixed word is split ===== -/
theorem mxv_inj {ku : List Nat} {c : Cf} {j j' : Nat} (hl : ku.length ≤ 2) (hnd : ku.Nodup) (hj : j < 100) (hj' : j' < 100) (hr : hreg ku.length c) (ho : okC c 20) (e : mxv ku c 100 (nI j) = mxv ku c 100 (nI j')) : j = j' := by
  have r0 : c.2.1 ≠ -1 → ∀ x, c.2.1 ≠ nI (100 + x) ∨ 10000 < x := fun h x => by
    obtain ⟨q, hq, e⟩ := ho.1.resolve_left h
    by_cases c1 : 10000 < x
    · exact Or.inr c1
    · left; rw [e]; intro e'; have := nI_inj (by omega) (by omega) e'; omega
  have r1 : c.2.2 ≠ -1 → ∀ x, c.2.2 ≠ nI (100 + x) ∨ 10000 < x := fun h x => by
    obtain ⟨q, hq, e⟩ := ho.2.resolve_left h
    by_cases c1 : 10000 < x
    · exact Or.inr c1
    · left; rw [e]; intro e'; have := nI_inj (by omega) (by omega) e'; omega
  have fr : nI (100 + j) = nI (100 + j') → j = j' := fun e => by have := nI_inj (by omega) (by omega) e; omega
  rcases ku with _ | ⟨p, _ | ⟨q, _ | ⟨t, l⟩⟩⟩
  · have v : ∀ x, x < 100 → mxv [] c 100 (nI x) = nI (100 + x) := fun x hx => by
      unfold mxv; rw [nI_clamp (by omega), if_pos (show plI [] x = -1 from rfl), nI_add]
    rw [v j hj, v j' hj'] at e
    exact fr e
  · simp [hreg] at hr
    have v : ∀ x, x < 100 → mxv [p] c 100 (nI x) = if p = x then c.2.1 else nI (100 + x) := fun x hx => by
      unfold mxv
      rw [nI_clamp (by omega)]
      by_cases c1 : p = x
      · have e : plI [p] x = 0 := by simp [plI, plc1, oI, c1, nI_0]
        rw [e, if_neg (by decide), if_pos rfl, if_pos c1]
      · have e : plI [p] x = -1 := by simp [plI, plc1, oI, c1]
        rw [e, if_pos rfl, if_neg c1, nI_add]
    rw [v j hj, v j' hj'] at e
    by_cases c1 : p = j <;> by_cases c2 : p = j'
    · omega
    · rw [if_pos c1, if_neg c2] at e
      rcases r0 hr.1 j' with q | q
      · exact absurd e q
      · omega
    · rw [if_neg c1, if_pos c2] at e
      rcases r0 hr.1 j with q | q
      · exact absurd e.symm q
      · omega
    · rw [if_neg c1, if_neg c2] at e; exact fr e
  · simp [hreg] at hr
    have hpq : p ≠ q := by simpa using hnd
    have v : ∀ x, x < 100 → mxv [p, q] c 100 (nI x) = if p = x then c.2.1 else if q = x then c.2.2 else nI (100 + x) := fun x hx => by
      unfold mxv
      rw [nI_clamp (by omega)]
      by_cases c1 : p = x
      · have e : plI [p, q] x = 0 := by simp [plI, plc1, oI, c1, nI_0]
        rw [e, if_neg (by decide), if_pos rfl, if_pos c1]
      · by_cases c2 : q = x
        · have e : plI [p, q] x = 1 := by simp [plI, plc1, oI, c1, c2]; rfl
          rw [e, if_neg (by decide), if_neg (by decide), if_neg c1, if_pos c2]
        · have e : plI [p, q] x = -1 := by simp [plI, plc1, oI, c1, c2]
          rw [e, if_pos rfl, if_neg c1, if_neg c2, nI_add]
    rw [v j hj, v j' hj'] at e
    have k0 : ∀ x, x < 100 → c.2.1 ≠ nI (100 + x) := fun x hx => (r0 hr.1 x).resolve_right (by omega)
    have k1 : ∀ x, x < 100 → c.2.2 ≠ nI (100 + x) := fun x hx => (r1 hr.2.1 x).resolve_right (by omega)
    by_cases a1 : p = j
    · rw [if_pos a1] at e
      by_cases b1 : p = j'
      · omega
      · rw [if_neg b1] at e
        by_cases b2 : q = j'
        · rw [if_pos b2] at e; exact absurd e hr.2.2
        · rw [if_neg b2] at e; exact absurd e (k0 j' hj')
    · rw [if_neg a1] at e
      by_cases a2 : q = j
      · rw [if_pos a2] at e
        by_cases b1 : p = j'
        · rw [if_pos b1] at e; exact absurd e.symm hr.2.2
        · rw [if_neg b1] at e
          by_cases b2 : q = j'
          · omega
          · rw [if_neg b2] at e; exact absurd e (k1 j' hj')
      · rw [if_neg a2] at e
        by_cases b1 : p = j'
        · rw [if_pos b1] at e; exact absurd e.symm (k0 j hj)
        · rw [if_neg b1] at e
          by_cases b2 : q = j'
          · rw [if_pos b2] at e; exact absurd e.symm (k1 j hj)
          · rw [if_neg b2] at e; exact fr e
  · simp at hl
/-- a short word with its names set is as the short word itself -/
theorem mix_end {T : Tb} {acc : Int32} {ku : List Nat} {l : List Lt} {c : Cf} (hl : ku.length ≤ 2) (hnd : ku.Nodup) (hr : hreg ku.length c) (ho : okC c 20) (hn : ∀ x ∈ l, ∃ k, k < 4 ∧ x.2 = nI k) : tk acc (mixC T ku l 100 c []) = tk acc (run T c0 l) := by
  have hR : Bij (fun x x' : Int32 => (x = -1 ∧ x' = -1) ∨ ∃ j, j < 4 ∧ x' = nI j ∧ x = mxv ku c 100 (nI j)) := by
    refine ⟨Or.inl ⟨rfl, rfl⟩, fun x x' y y' h1 h2 => ?_⟩
    rcases h1 with ⟨rfl, rfl⟩ | ⟨k, hk, rfl, rfl⟩ <;> rcases h2 with ⟨rfl, rfl⟩ | ⟨k', hk', rfl, rfl⟩
    · exact ⟨fun _ => rfl, fun _ => rfl⟩
    · obtain ⟨q, hq, e⟩ := mxv_nm (ku := ku) (c := c) (j := k') hl (by omega) hr ho
      rw [e]
      exact ⟨fun e => absurd e.symm (nI_n1 (by omega)), fun e => absurd e.symm (nI_n1 (by omega))⟩
    · obtain ⟨q, hq, e⟩ := mxv_nm (ku := ku) (c := c) (j := k) hl (by omega) hr ho
      rw [e]
      exact ⟨fun e => absurd e (nI_n1 (by omega)), fun e => absurd e (nI_n1 (by omega))⟩
    · constructor
      · intro e
        rw [mxv_inj hl hnd (by omega) (by omega) hr ho e]
      · intro e
        rw [nI_inj (by omega) (by omega) e]
  have w1 : ∀ w : List Lt, (∀ x ∈ w, ∃ k, k < 4 ∧ x.2 = nI k) → SimW (fun x x' : Int32 => (x = -1 ∧ x' = -1) ∨ ∃ j, j < 4 ∧ x' = nI j ∧ x = mxv ku c 100 (nI j)) (ins w (mxv ku c 100)) w := by
    intro w
    induction w with
    | nil => intro _; exact trivial
    | cons x w ih =>
      intro h
      obtain ⟨k, hk, e⟩ := h x List.mem_cons_self
      exact ⟨rfl, Or.inr ⟨k, hk, e, by show mxv ku c 100 x.2 = _; rw [e]⟩, ih (fun z hz => h z (List.mem_cons_of_mem _ hz))⟩
  exact tk_sim (sim_run hR (w1 l hn) ⟨rfl, Or.inl ⟨rfl, rfl⟩, Or.inl ⟨rfl, rfl⟩⟩)
section
variable {D : Dm} {T : Tb} {acc : Int32} {ts ss : Tst} {b a Z : Nat} {w : List Lt}
/-- the configuration of the hypothesis behind i letters, its state -/
def pfc (H : Dm) (w : List Lt) (i : Nat) : Cf := (w.take i).foldl (hst (hyp H)) c0
def pfu (H : Dm) (w : List Lt) (i : Nat) : Nat := (pfc H w i).1.toNatClampNeg
/-- does the machine take the word mixed behind i letters -/
def mxA (H : Dm) (T : Tb) (acc : Int32) (ts : Tst) (b : Nat) (ss : Tst) (w : List Lt) (i : Nat) : Bool := tk acc (mixC T (kpN T acc ts b (cu T ss (pfu H w i))) (ss (pfu H w i)).1 100 (pfc H w i) (w.drop i))
theorem pf_ok {H : Dm} (hP : PFX H T acc ts b ss a w) (ha : a ≤ 10) {i : Nat} (hi : i ≤ w.length) : pfu H w i < a ∧ (pfc H w i).1 = nI (pfu H w i) ∧ hreg (kaN T acc ts b ss (pfu H w i)) (pfc H w i) ∧ okC (pfc H w i) 20 := by
  obtain ⟨u, hu, q1, q2, q3⟩ := hP i hi
  have e : pfu H w i = u := by
    unfold pfu pfc
    rw [q1, nI_clamp (by omega)]
  rw [e]
  exact ⟨hu, q1, q2, q3⟩
theorem mx_0 {H : Dm} (h0 : (ss 0).1 = []) : mxA H T acc ts b ss w 0 = tk acc (run T c0 w) := by
  have e : pfu H w 0 = 0 := by unfold pfu pfc; rfl
  unfold mxA mixC
  rw [e, h0]
  rfl
theorem mx_end {H : Dm} (hS : SR D ss a) (hT : wfT T) (hP : PFX H T acc ts b ss a w) : mxA H T acc ts b ss w w.length = tk acc (cu T ss (pfu H w w.length)) := by
  have ha := hS.1
  obtain ⟨hu, -, hr, ho⟩ := pf_ok hP ha.2 (Nat.le_refl _)
  obtain ⟨hd, k2, kl⟩ := kcr (T := T) (acc := acc) (ts := ts) (b := b) hS hT hu
  unfold mxA
  rw [List.drop_length]
  exact mix_end kl (hss_nd0 _ (show (ss (pfu H w w.length)).2 < 5 by omega) _ k2) hr ho (fun x hx => by
    obtain ⟨-, k, hk, e⟩ := (hS.sy hu).2.2 x hx
    exact ⟨k, by omega, e⟩)
/-- the first letter behind which the answer is another -/
def spS (H : Dm) (T : Tb) (acc : Int32) (ts : Tst) (b : Nat) (ss : Tst) (w : List Lt) : Option Nat := fst1 (fun s => mxA H T acc ts b ss w (s + 1) != mxA H T acc ts b ss w 0) w.length
theorem spS_some {H : Dm} (hne : mxA H T acc ts b ss w 0 ≠ mxA H T acc ts b ss w w.length) : ∃ s, spS H T acc ts b ss w = some s ∧ s < w.length := by
  cases h : spS H T acc ts b ss w with
  | some s => exact ⟨s, rfl, fst1_lt h⟩
  | none =>
    exfalso
    unfold spS fst1 at h
    rw [List.find?_eq_none] at h
    have hl : 0 < w.length := by
      rcases Nat.eq_zero_or_pos w.length with e | e
      · rw [e] at hne; exact absurd rfl hne
      · exact e
    have := h (w.length - 1) (List.mem_range.mpr (by omega))
    rw [show w.length - 1 + 1 = w.length by omega] at this
    apply hne
    simpa using (by simpa using this : mxA H T acc ts b ss w w.length = mxA H T acc ts b ss w 0).symm
end
