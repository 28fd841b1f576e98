/-! ===== couples of machine and hypothesis ===== -/
section
variable {D : Dm} {T : Tb} {acc : Int32} {ts ss : Tst} {b a Z : Nat}
def kaN (T : Tb) (acc : Int32) (ts : Tst) (b : Nat) (ss : Tst) (u : Nat) : Nat := (kpN T acc ts b (cu T ss u)).length
theorem hnx_ok (h : SR D ss a) (hT : wfT T) (hZ : Z ≤ 2) (hA : ALL T acc ts b ss a Z) {c : Cf} {u y k n : Nat} (hu : u < a) (hy : y < Z) (hk : k < 2 ^ 31 - 1) (hc : c.1 = nI u) (hr : hreg (kaN T acc ts b ss u) c) (ho : okC c n) : (∃ v, v < a ∧ (hnx T acc ts b ss a c u y (nI k)).1 = nI v ∧ hreg (kaN T acc ts b ss v) (hnx T acc ts b ss a c u y (nI k))) ∧ okC (hnx T acc ts b ss a c u y (nI k)) (max n (k + 1)) := by
  have ha := h.1
  obtain ⟨hd, k2, kl⟩ := kcr (T := T) (acc := acc) (ts := ts) (b := b) h hT hu
  have nk : nI k ≠ -1 := nI_n1 (by omega)
  have hr : hreg (kpN T acc ts b (cu T ss u)).length c := hr
  obtain ⟨hi, -⟩ := hix_ok (y := y) (show u < 10 by omega) (by omega) hc kl nk hr
  have hv : vld T acc ts b ss a Z u y (hix c (nI k) (kpN T acc ts b (cu T ss u)).length) := ⟨hu, hy, hi⟩
  obtain ⟨nf, nl⟩ := hA _ _ _ hv
  have hin := kc_in h hT hu (show y < 2 by omega) nf
  cases hl : lkO T acc ts b ss a u y (hix c (nI k) (kpN T acc ts b (cu T ss u)).length) with
  | none => exact absurd hl nl
  | some v =>
    have hva : v < a := fst1_lt hl
    have hw := fst1_some hl
    rw [decide_eq_true_eq] at hw
    unfold hnx
    rw [hl]
    dsimp only
    have hM := hss_mem (show (ss u).2 < 5 by omega) k2
    have hN := hss_nd0 _ (show (ss u).2 < 5 by omega) _ k2
    obtain ⟨i, ei⟩ : ∃ i, i = hix c (nI k) (kpN T acc ts b (cu T ss u)).length := ⟨_, rfl⟩
    have vi : ∀ x z, (x = nmi T acc ts b ss u i ∨ x ∈ kpN T acc ts b (cu T ss u)) → (z = nmi T acc ts b ss u i ∨ z ∈ kpN T acc ts b (cu T ss u)) → x ≠ z → vlN (kpN T acc ts b (cu T ss u)) (nmi T acc ts b ss u i) c (nI k) x ≠ vlN (kpN T acc ts b (cu T ss u)) (nmi T acc ts b ss u i) c (nI k) z := fun x z hx hz hn => by
      have := vl_inj (d := (ss u).2) (x := x) (z := z) (c := c) (nm := nI k) kl hM hN nk hr (by rw [← ei]; exact hx) (by rw [← ei]; exact hz) hn
      rw [← ei] at this; exact this
    have vo : ∀ x, (x = nmi T acc ts b ss u i ∨ x ∈ kpN T acc ts b (cu T ss u)) → vlN (kpN T acc ts b (cu T ss u)) (nmi T acc ts b ss u i) c (nI k) x = nI k ∨ (vlN (kpN T acc ts b (cu T ss u)) (nmi T acc ts b ss u i) c (nI k) x = c.2.1 ∧ c.2.1 ≠ -1) ∨ (vlN (kpN T acc ts b (cu T ss u)) (nmi T acc ts b ss u i) c (nI k) x = c.2.2 ∧ c.2.2 ≠ -1) := fun x hx => by
      have := vl_one (d := (ss u).2) (x := x) (c := c) (nm := nI k) kl hr (by rw [← ei]; exact hx)
      rw [← ei] at this; exact this
    rw [← ei] at hi hv nf nl hin hl hw ⊢
    have hnm := nmi_le2 (acc := acc) (ts := ts) (b := b) (T := T) h hT (i := i) hu
    have hg := lgM_le hnm
    have hcl := (h.cl (T := T) hT hu (show y < 2 by omega) hnm).2
    have k1 := kpN_in (T := T) (acc := acc) (ts := ts) (b := b) (show lgM (ss u).2 (nmi T acc ts b ss u i) < 5 by omega) hcl
    have hN1 := hss_inj _ (show lgM (ss u).2 (nmi T acc ts b ss u i) < 5 by omega) _ k1
    have kl1 : (kpN T acc ts b (clo T acc ts b ss u y i)).length ≤ 2 := (hss_in _ (show lgM (ss u).2 (nmi T acc ts b ss u i) < 5 by omega) _ k1).1
    have w3 := (wy_3 (T := T) (acc := acc) (ts := ts) (b := b) (c := clo T acc ts b ss u y i) (l := kpN T acc ts b (clo T acc ts b ss u y i)) (c' := cu T ss v) (l' := kpN T acc ts b (cu T ss v))).resolve_left hw
    generalize wyL T acc ts b (clo T acc ts b ss u y i) (kpN T acc ts b (clo T acc ts b ss u y i)) (cu T ss v) (kpN T acc ts b (cu T ss v)) = way at *
    have k1 : kpN T acc ts b (clo T acc ts b ss u y i) ∈ hss (lgM (ss u).2 (nmi T acc ts b ss u i)) := k1
    have hN1 : ∀ i', i' < 3 → ∀ j, j < 3 → (i' < (kpN T acc ts b (clo T acc ts b ss u y i)).length ∧ j < (kpN T acc ts b (clo T acc ts b ss u y i)).length ∧ (kpN T acc ts b (clo T acc ts b ss u y i)).getD i' 0 = (kpN T acc ts b (clo T acc ts b ss u y i)).getD j 0) → i' = j := hN1
    generalize kpN T acc ts b (clo T acc ts b ss u y i) = kc at *
    have jlt : ∀ r, r < kc.length → (if way = 1 then 1 - r else r) < kc.length := fun r hr => by
      split
      · rename_i e
        rcases w3.2 with e' | ⟨-, e'⟩
        · rw [e'] at e; exact absurd e (by decide)
        · omega
      · exact hr
    have gmem : ∀ j, j < kc.length → kc.getD j 0 ∈ kc := fun j hj => by
      rw [List.getD_eq_getElem?_getD, List.getElem?_eq_getElem hj]; exact List.getElem_mem _
    have ginj : ∀ j j', j < kc.length → j' < kc.length → j ≠ j' → kc.getD j 0 ≠ kc.getD j' 0 := fun j j' hj hj' hn => by
      exact fun e => hn (hN1 j (by omega) j' (by omega) ⟨hj, hj', e⟩)
    have rgp : ∀ r, r < kc.length → rgN (kpN T acc ts b (cu T ss u)) kc way (nmi T acc ts b ss u i) c (nI k) r = vlN (kpN T acc ts b (cu T ss u)) (nmi T acc ts b ss u i) c (nI k) (kc.getD (if way = 1 then 1 - r else r) 0) := fun r hr => by unfold rgN; rw [if_pos hr]
    have rg1 : ∀ r, r < kc.length → ∀ g, g = rgN (kpN T acc ts b (cu T ss u)) kc way (nmi T acc ts b ss u i) c (nI k) r → g = nI k ∨ (g = c.2.1 ∧ c.2.1 ≠ -1) ∨ (g = c.2.2 ∧ c.2.2 ≠ -1) := fun r hr g hg => by
      unfold rgN at hg
      rw [if_pos hr] at hg
      rw [hg]
      exact vo _ (hin _ (gmem _ (jlt r hr)))
    have rgne : ∀ r, r < kc.length → rgN (kpN T acc ts b (cu T ss u)) kc way (nmi T acc ts b ss u i) c (nI k) r ≠ -1 := fun r hr => by
      rcases rg1 r hr _ rfl with e | ⟨e, e'⟩ | ⟨e, e'⟩
      · rw [e]; exact nk
      · rw [e]; exact e'
      · rw [e]; exact e'
    have rgn : ∀ r, ¬ r < kc.length → rgN (kpN T acc ts b (cu T ss u)) kc way (nmi T acc ts b ss u i) c (nI k) r = -1 := fun r hr => by unfold rgN; rw [if_neg hr]
    have rgo : ∀ r, rgN (kpN T acc ts b (cu T ss u)) kc way (nmi T acc ts b ss u i) c (nI k) r = -1 ∨ ∃ q, q < max n (k + 1) ∧ rgN (kpN T acc ts b (cu T ss u)) kc way (nmi T acc ts b ss u i) c (nI k) r = nI q := fun r => by
      by_cases hr : r < kc.length
      · rcases rg1 r hr _ rfl with e | ⟨e, e'⟩ | ⟨e, e'⟩
        · exact Or.inr ⟨k, by omega, e⟩
        · obtain ⟨q, hq, eq⟩ := ho.1.resolve_left e'
          exact Or.inr ⟨q, by omega, e.trans eq⟩
        · obtain ⟨q, hq, eq⟩ := ho.2.resolve_left e'
          exact Or.inr ⟨q, by omega, e.trans eq⟩
      · exact Or.inl (rgn r hr)
    refine ⟨⟨v, hva, rfl, ?_⟩, rgo 0, rgo 1⟩
    unfold hreg kaN
    rw [← w3.1]
    show if kc.length = 0 then rgN _ _ _ _ _ _ 0 = -1 ∧ rgN _ _ _ _ _ _ 1 = -1 else if kc.length = 1 then rgN _ _ _ _ _ _ 0 ≠ -1 ∧ rgN _ _ _ _ _ _ 1 = -1 else rgN _ _ _ _ _ _ 0 ≠ -1 ∧ rgN _ _ _ _ _ _ 1 ≠ -1 ∧ rgN _ _ _ _ _ _ 0 ≠ rgN _ _ _ _ _ _ 1
    split
    · exact ⟨rgn 0 (by omega), rgn 1 (by omega)⟩
    · split
      · exact ⟨rgne 0 (by omega), rgn 1 (by omega)⟩
      · refine ⟨rgne 0 (by omega), rgne 1 (by omega), ?_⟩
        rw [rgp 0 (by omega), rgp 1 (by omega)]
        refine vi _ _ (hin _ (gmem _ (jlt 0 (by omega)))) (hin _ (gmem _ (jlt 1 (by omega)))) (ginj _ _ (jlt 0 (by omega)) (jlt 1 (by omega)) ?_)
        split <;> omega
theorem GH_cl (h : SR D ss a) (hT : wfT T) (hZ : Z ≤ 2) {H : Dm} (hA : ALL T acc ts b ss a Z) (hB : TBL H T acc ts b ss a Z (fun _ _ _ => True)) : clG (GH (kaN T acc ts b ss) a) (step T) (hst (hyp H)) Z := by
  intro A B n hG hn y k hy hk
  obtain ⟨h1, ⟨u, hu, hb, hr⟩, h3, h4, h5⟩ := hG
  have sy := isSy_n (show y < 2 by omega)
  obtain ⟨q1, q2⟩ := hnx_ok h hT hZ hA (k := k) hu hy (by omega) hb hr h4
  rw [hst_eq h hT hZ hA hB hu hy (by omega) hb hr]
  exact ⟨step_ok hT h1 sy, q1, step_okC h3, q2, step_lost h5⟩
theorem kp0 (hs : (ss 0).1 = []) : kaN T acc ts b ss 0 = 0 := by
  unfold kaN cu
  rw [hs]
  rfl
theorem GH_0 (ha : 1 ≤ a) (hs : (ss 0).1 = []) : okN (GH (kaN T acc ts b ss) a) [nd0] := by
  refine ⟨by simp, by simp [cds], rfl, fun i hi => ?_, fun i h0 hi => by simp at hi; omega⟩
  have : i = 0 := by simp at hi; omega
  subst this
  refine ⟨⟨c0_ok, ⟨0, by omega, rfl, ?_⟩, ⟨Or.inl rfl, Or.inl rfl⟩, ⟨Or.inl rfl, Or.inl rfl⟩, fun q => absurd q (by decide)⟩, Nat.le_refl _, Nat.zero_le _⟩
  rw [kp0 hs]
  exact ⟨rfl, rfl⟩
theorem GH_C (A B : Cf) (n : Nat) (h : GH (kaN T acc ts b ss) a A B n) : okSt A.1 ∧ okC A n ∧ okC B n := ⟨h.1, h.2.2.1, h.2.2.2.1⟩
end
