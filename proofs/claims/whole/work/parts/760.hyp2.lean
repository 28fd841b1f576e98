/-! ===== the hypothesis, class ===== -/
theorem hss_nd0 : ∀ M, M < 5 → ∀ l ∈ hss M, l.Nodup := by decide +kernel
theorem hss_mem {M : Nat} (hM : M < 5) {l : List Nat} (hl : l ∈ hss M) : ∀ p ∈ l, p < M := fun p hp => by
  obtain ⟨i, hi, e⟩ := List.mem_iff_getElem.mp hp
  have := hss_lt1 M hM l hl (i + 1) (by omega) (by omega)
  rw [Nat.add_sub_cancel, List.getD_eq_getElem?_getD, List.getElem?_eq_getElem hi] at this
  rw [← e]; exact this
def rgN (ku kc : List Nat) (way : Int32) (name : Nat) (c : Cf) (nm : Int32) (r : Nat) : Int32 := if r < kc.length then vlN ku name c nm (kc.getD (if way = 1 then 1 - r else r) 0) else -1
def hnx (T : Tb) (acc : Int32) (ts : Tst) (b : Nat) (ss : Tst) (a : Nat) (c : Cf) (u y : Nat) (nm : Int32) : Cf :=
  match lkO T acc ts b ss a u y (hix c nm (kpN T acc ts b (cu T ss u)).length) with
  | none => (-1, -1, -1)
  | some v => (nI v,
      rgN (kpN T acc ts b (cu T ss u)) (kpN T acc ts b (clo T acc ts b ss u y (hix c nm (kpN T acc ts b (cu T ss u)).length))) (wyL T acc ts b (clo T acc ts b ss u y (hix c nm (kpN T acc ts b (cu T ss u)).length)) (kpN T acc ts b (clo T acc ts b ss u y (hix c nm (kpN T acc ts b (cu T ss u)).length))) (cu T ss v) (kpN T acc ts b (cu T ss v))) (nmi T acc ts b ss u (hix c nm (kpN T acc ts b (cu T ss u)).length)) c nm 0,
      rgN (kpN T acc ts b (cu T ss u)) (kpN T acc ts b (clo T acc ts b ss u y (hix c nm (kpN T acc ts b (cu T ss u)).length))) (wyL T acc ts b (clo T acc ts b ss u y (hix c nm (kpN T acc ts b (cu T ss u)).length)) (kpN T acc ts b (clo T acc ts b ss u y (hix c nm (kpN T acc ts b (cu T ss u)).length))) (cu T ss v) (kpN T acc ts b (cu T ss v))) (nmi T acc ts b ss u (hix c nm (kpN T acc ts b (cu T ss u)).length)) c nm 1)
section
variable {D : Dm} {T : Tb} {acc : Int32} {ts ss : Tst} {b a Z : Nat}
theorem kc_in (h : SR D ss a) (hT : wfT T) {u y i : Nat} (hu : u < a) (hy : y < 2) (hf : fgO T acc ts b ss u y i = none) : ∀ x ∈ kpN T acc ts b (clo T acc ts b ss u y i), x = nmi T acc ts b ss u i ∨ x ∈ kpN T acc ts b (cu T ss u) := by
  intro x hx
  have hd := (h.sy hu).1
  have hnm := nmi_le2 (acc := acc) (ts := ts) (b := b) (T := T) h hT (i := i) hu
  have hg := lgM_le hnm
  have hcl := (h.cl (T := T) hT hu hy hnm).2
  have k1 := kpN_in (T := T) (acc := acc) (ts := ts) (b := b) (show lgM (ss u).2 (nmi T acc ts b ss u i) < 5 by omega) hcl
  have lx := hss_mem (show lgM (ss u).2 (nmi T acc ts b ss u i) < 5 by omega) k1 x hx
  by_cases c : x < (ss u).2
  · right
    unfold kpN at hx
    obtain ⟨e, he, ex⟩ := List.mem_map.mp hx
    obtain ⟨h1, h2⟩ := List.mem_filter.mp he
    unfold fgO fgE fst1 at hf
    have := List.find?_eq_none.mp hf e h1
    rw [h2, ex, decide_eq_true c, plc1_c] at this
    cases hcn : (kpN T acc ts b (cu T ss u)).contains x with
    | true => exact contains_iff.mp hcn
    | false => rw [hcn] at this; exact absurd rfl this
  · left
    unfold lgM at lx
    split at lx <;> omega
/-- which place of the table -/
theorem hix_ok {c : Cf} {u y : Nat} {nm : Int32} {ku : List Nat} (hu : u < 10) (hy : y < 2) (hc : c.1 = nI u) (hl : ku.length ≤ 2) (hnm : nm ≠ -1) (hr : hreg ku.length c) : hix c nm ku.length ≤ ku.length ∧ hsl c (nI y, nm) = (u * 2 + y) * 3 + if hix c nm ku.length < ku.length then hix c nm ku.length else 2 := by
  have key : hix c nm ku.length ≤ ku.length ∧ hgd c nm = nI (if hix c nm ku.length < ku.length then hix c nm ku.length else 2) := by
    unfold hix hgd
    by_cases c0 : c.2.1 = nm
    · have : 0 < ku.length := by
        rcases Nat.eq_zero_or_pos ku.length with e | e
        · unfold hreg at hr; rw [if_pos e] at hr; exact absurd (c0.symm.trans hr.1) hnm
        · exact e
      simp only [if_pos c0]
      rw [if_pos this]; exact ⟨by omega, rfl⟩
    · by_cases c1 : c.2.2 = nm
      · have : 1 < ku.length := by
          unfold hreg at hr
          split at hr
          · exact absurd (c1.symm.trans hr.2) hnm
          · split at hr
            · exact absurd (c1.symm.trans hr.2) hnm
            · omega
        simp only [if_neg c0, if_pos c1]
        rw [if_pos this]; exact ⟨by omega, rfl⟩
      · simp only [if_neg c0, if_neg c1]
        rw [if_neg (by omega)]; exact ⟨Nat.le_refl _, rfl⟩
  refine ⟨key.1, ?_⟩
  unfold hsl
  show (((c.1 * 2 + nI y) * 3) + hgd c nm).toNatClampNeg = _
  rw [key.2, hc, slot_n, nI_clamp (by split <;> omega)]
theorem hst_eq (h : SR D ss a) (hT : wfT T) (hZ : Z ≤ 2) {H : Dm} (hA : ALL T acc ts b ss a Z) (hB : TBL H T acc ts b ss a Z (fun _ _ _ => True)) {c : Cf} {u y k : Nat} (hu : u < a) (hy : y < Z) (hk : k < 2 ^ 31 - 1) (hc : c.1 = nI u) (hr : hreg (kpN T acc ts b (cu T ss u)).length c) : hst (hyp H) c (nI y, nI k) = hnx T acc ts b ss a c u y (nI k) := by
  have ha := h.1
  obtain ⟨hd, k2, kl⟩ := kcr (T := T) (acc := acc) (ts := ts) (b := b) h hT hu
  have nk : nI k ≠ -1 := nI_n1 (by omega)
  obtain ⟨hi, hs⟩ := hix_ok (y := y) (show u < 10 by omega) (by omega) hc kl nk hr
  have hv : vld T acc ts b ss a Z u y (hix c (nI k) (kpN T acc ts b (cu T ss u)).length) := ⟨hu, hy, hi⟩
  obtain ⟨nf, nl⟩ := hA _ _ _ hv
  have hin := kc_in h hT hu (show y < 2 by omega) nf
  cases hl : lkO T acc ts b ss a u y (hix c (nI k) (kpN T acc ts b (cu T ss u)).length) with
  | none => exact absurd hl nl
  | some v =>
    obtain ⟨q1, q2, q3⟩ := hB.1 _ _ _ v hv trivial hl
    have hva : v < a := fst1_lt hl
    have hw := fst1_some hl
    rw [decide_eq_true_eq] at hw
    unfold hst hnx
    rw [hl, if_neg (by rw [hc]; exact nI_n1 (by omega)), hs]
    show (if H 57 (hsn T acc ts b ss u y (hix c (nI k) (kpN T acc ts b (cu T ss u)).length)) = -1 then _ else (H 57 (hsn T acc ts b ss u y (hix c (nI k) (kpN T acc ts b (cu T ss u)).length)), hpk (H 58 (hsn T acc ts b ss u y (hix c (nI k) (kpN T acc ts b (cu T ss u)).length))) c (nI k), hpk (H 59 (hsn T acc ts b ss u y (hix c (nI k) (kpN T acc ts b (cu T ss u)).length))) c (nI k))) = _
    rw [q1, q2, q3, if_neg (nI_n1 (by omega))]
    obtain ⟨i, ei⟩ : ∃ i, i = hix c (nI k) (kpN T acc ts b (cu T ss u)).length := ⟨_, rfl⟩
    rw [← ei] at hi hs hv nf nl hin hl q1 q2 q3 hw ⊢
    have ve : ∀ x, x = nmi T acc ts b ss u i ∨ x ∈ kpN T acc ts b (cu T ss u) → hpk (if plI (kpN T acc ts b (cu T ss u)) x = -1 then 2 else plI (kpN T acc ts b (cu T ss u)) x) c (nI k) = vlN (kpN T acc ts b (cu T ss u)) (nmi T acc ts b ss u i) c (nI k) x := fun x hx => by
      have := vl_eq (ku := kpN T acc ts b (cu T ss u)) (d := (ss u).2) (x := x) (c := c) (nm := nI k) kl (hss_mem (show (ss u).2 < 5 by omega) k2) (hss_nd0 _ (show (ss u).2 < 5 by omega) _ k2) nk hr (by rw [← ei]; exact hx)
      rw [← ei] at this
      exact this
    have w3 := wy_3 (T := T) (acc := acc) (ts := ts) (b := b) (c := clo T acc ts b ss u y i) (l := kpN T acc ts b (clo T acc ts b ss u y i)) (c' := cu T ss v) (l' := kpN T acc ts b (cu T ss v))
    have w3 := w3.resolve_left hw
    have fl : ∀ r, r < 2 → hpk (flO T acc ts b ss u y i v r) c (nI k) = rgN (kpN T acc ts b (cu T ss u)) (kpN T acc ts b (clo T acc ts b ss u y i)) (wyL T acc ts b (clo T acc ts b ss u y i) (kpN T acc ts b (clo T acc ts b ss u y i)) (cu T ss v) (kpN T acc ts b (cu T ss v))) (nmi T acc ts b ss u i) c (nI k) r := fun r hr2 => by
      unfold flO flI rgN
      by_cases c1 : r < (kpN T acc ts b (clo T acc ts b ss u y i)).length
      · rw [if_pos c1, if_pos c1]
        refine ve _ (hin _ ?_)
        have lt : (if wyL T acc ts b (clo T acc ts b ss u y i) (kpN T acc ts b (clo T acc ts b ss u y i)) (cu T ss v) (kpN T acc ts b (cu T ss v)) = 1 then 1 - r else r) < (kpN T acc ts b (clo T acc ts b ss u y i)).length := by
          split
          · rename_i e
            rcases w3.2 with e' | ⟨-, e'⟩
            · rw [e'] at e; exact absurd e (by decide)
            · omega
          · exact c1
        rw [List.getD_eq_getElem?_getD, List.getElem?_eq_getElem lt]
        exact List.getElem_mem _
      · rw [if_neg c1, if_neg c1]; rfl
    rw [fl 0 (by omega), fl 1 (by omega)]
end
