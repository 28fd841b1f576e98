/-! ===== the calls that only ask ===== -/
section
variable {D D' : Dm}
theorem Inv.z (h : Inv D) : Inv (ud D 281 0 0) := h.fr (fun j k q => by
  rw [ud_at, if_neg (by unfold KS KN CRF at q; omega)])
theorem Inv.go (h : Inv D) {c : Cf} : Inv (setGo D 266 c) := h.fr (fun j k q => by
  unfold setGo
  unfold KS KN CRF at q
  rw [ud_at, if_neg (by omega), ud_at, if_neg (by omega), ud_at, if_neg (by omega)])
theorem Inv.sr (h : Inv D) {c : Cf} : Inv (setR D c) := h.fr (fun j k q => by
  unfold setR
  unfold KS KN CRF at q
  rw [ud_at, if_neg (by omega), ud_at, if_neg (by omega), ud_at, if_neg (by omega)])
theorem s_fault : St_fault Inv := fun D h x1 => by
  obtain ⟨r, e1, e2⟩ := fault_eq h.2.2.2.1.1 h.2.2.2.1.2 x1
  exact ⟨r, D, _, e1, e2, h.z⟩
theorem s_of : St_of Inv := fun D h x1 x2 => by
  obtain ⟨r, e1, e2⟩ := of_eq h.1.1 h.1.2 x1 x2
  exact ⟨r, D, _, e1, e2 D (fun _ => rfl), h.z⟩
theorem s_moved : St_moved Inv := fun D h x1 x2 x3 x4 x5 => by
  obtain ⟨r, e1, e2⟩ := moved_eq h.1.1 h.1.2 x1 x2 x3 x4 x5
  exact ⟨r, D, _, e1, e2 D (fun _ => rfl), h.z⟩
theorem s_ask : St_ask Inv := fun D h x1 => by
  obtain ⟨n, hW, -⟩ := h.2.1
  obtain ⟨r, D1, e1, ⟨c, hc⟩, D2, e2, c', hc'⟩ := ask_eq h.1.1 h.1.2 hW x1
  have h1 : Inv D1 := by rcases hc with rfl | rfl; exact h; exact h.go
  refine ⟨r, D1, D2, e1, e2, ?_⟩
  rcases hc' with rfl | rfl
  · exact h1.z
  · exact h1.z.sr
theorem s_behind : St_behind Inv := fun D h x1 x2 x3 => by
  obtain ⟨n, hW, -⟩ := h.2.1
  obtain ⟨r, D1, e1, ⟨c, hc⟩, D2, e2, c', hc'⟩ := behind_eq h.1.1 h.1.2 hW x1 x2 x3
  have h1 : Inv D1 := by rcases hc with rfl | rfl; exact h; exact h.go
  refine ⟨r, D1, D2, e1, e2, ?_⟩
  rcases hc' with rfl | rfl
  · exact h1.z
  · exact h1.z.sr
theorem Inv.cnt {D1 D2 : Dm} (h : Inv D) (h1 : frT D D1 269) (h2 : frC D1 D2) : Inv D2 := h.fr (fun j k q => by
  unfold KS KN CRF at q
  rw [h2 j k (by omega), h1 j k (by omega)])
theorem s_many : St_many Inv := fun D h x1 x2 => by
  obtain ⟨r, D1, e1, f1, g⟩ := many_eq h.1.1 h.1.2 x1 x2
  obtain ⟨D2, e2, f2⟩ := g D1 (fun k => f1 _ _ (by omega))
  exact ⟨r, D1, D2, e1, e2, h.cnt f1 f2⟩
theorem s_share : St_share Inv := fun D h x1 x2 => by
  obtain ⟨r, D1, e1, f1, g⟩ := share_eq h.1.1 h.1.2 x1 x2
  obtain ⟨D2, e2, f2⟩ := g D1 (fun k => f1 _ _ (by omega))
  exact ⟨r, D1, D2, e1, e2, h.cnt f1 f2⟩
theorem s_letter : St_letter Inv := fun D h x1 x2 => by
  obtain ⟨n, hW, hI⟩ := h.2.1
  obtain ⟨r, e1, e2⟩ := letter_eq hW hI x1 x2
  exact ⟨r, D, _, e1, e2, h.z⟩
theorem lists {T : Tb} {acc : Int32} {ts ss : Tst} {b a Z : Nat} (h : JNT D D T acc ts b ss a Z) : RLs D a ∧ RLt D b := by
  obtain ⟨hp, ⟨hL, -, hSL, hTL, -⟩, ⟨⟨-, hT, hS, -, -⟩, -⟩, -⟩ := h
  constructor
  · refine ⟨hS.1.1, hS.1.2, hL.2.2.2.1, hS.2.1, fun u hu => ?_⟩
    obtain ⟨n, q1, q2, q3, q4, q5, q6⟩ := hL.2.2.2.2 u hu
    obtain ⟨m, r1, r2, r3, r4, r5, r6⟩ := hS.2.2 u hu
    have en : (ss u).1.length = n := by rw [q3, lts_len]
    have em : (ss u).1.length = m := by rw [r3, lts_len]
    have enm : m = n := by omega
    subst enm
    rw [q3] at r3
    have hi := lts_inj r3
    refine ⟨m, q2, q1, r2, by rw [← q4]; exact q5, fun k hk => ⟨(hi k hk).1.symm, (hi k hk).2.symm, (q6 k hk).1, ?_⟩⟩
    rw [q2.2.2.2 k hk]
    exact (hSL u hu k (by rw [en]; exact hk)).symm
  · refine ⟨hTL.1.1, hT.1, hL.2.1.2.1, hT.2.1, fun u hu => ?_⟩
    obtain ⟨n, q1, q2, q3, q4, q5, q6⟩ := hL.2.1.2.2 u hu
    obtain ⟨m, r1, r2, r3, r4, r5, r6⟩ := hT.2.2 u hu
    obtain ⟨t1, t2, t3⟩ := hTL.2 u hu
    have en : (ts u).1.length = n := by rw [q5, lts_len]
    have em : (ts u).1.length = m := by rw [r3, lts_len]
    have enm : m = n := by omega
    subst enm
    rw [en] at t1 t3
    rw [q5] at r3
    have hi := lts_inj r3
    have ed : dsf (D (82 + 4 * u + 2)) m = (ts u).2 := nI_inj (by have := dsf_le (D (82 + 4 * u + 2)) m; omega) (by omega) (by rw [← t1.2.2.1, q3])
    refine ⟨m, t1, r1, r2, by rw [ed]; exact q4, fun k hk => ⟨(hi k hk).1.symm, (hi k hk).2.symm, (q6 k hk).1, ?_⟩⟩
    rw [t1.2.2.2 k hk]
    exact (t3 k hk).symm
theorem s_brief : St_brief Inv := fun D h x1 x2 x3 => by
  obtain ⟨ts, b, ss, a, hJ⟩ := h.2.2.2.2.2
  obtain ⟨r, e1, e2⟩ := brief_eq (lists hJ).1 x1 x2 x3
  exact ⟨r, D, _, e1, e2, h.z⟩
theorem s_test : St_test Inv := fun D h x1 x2 x3 => by
  obtain ⟨ts, b, ss, a, hJ⟩ := h.2.2.2.2.2
  obtain ⟨r, e1, e2⟩ := test_eq (lists hJ).2 x1 x2 x3
  exact ⟨r, D, _, e1, e2, h.z⟩
/-- two machines held against one another -/
theorem Inv.dif {D1 D2 : Dm} (h : Inv D) (h1 : Fr SCC D D1) (hC : CI D1 (SMD D)) (h2 : Fr SK0 D1 D2) : Inv D2 := by
  have e : ∀ j k, ((j = 1 ∧ (k = 1 ∨ k = 6 ∨ k = 7)) ∨ j = 2 ∨ (9 ≤ j ∧ j ≤ 20) ∨ (43 ≤ j ∧ j ≤ 261) ∨ (j = 281 ∧ (k = 7 ∨ k = 10 ∨ k = 11 ∨ k = 18 ∨ k = 27 ∨ k = 28 ∨ k = 33 ∨ (55 ≤ k ∧ k ≤ 65))) ∨ j = 282 ∨ (284 ≤ j ∧ j ≤ 298) ∨ (306 ≤ j ∧ j ≤ 309)) → D2 j k = D j k := fun j k q => by
    rw [h2 j k (by unfold SK0 SKR; omega), h1 j k (by unfold SCC; omega)]
  obtain ⟨⟨a0, a1⟩, a2, a3, a4, -, a6⟩ := h
  refine ⟨⟨a0.fr (by omega) (fun j k q => e j k (by omega)), a1.fr (by omega) (fun j k q => e j k (by omega))⟩, a2.fr (fun j k q => e j k (by omega)), a3.fr (fun j k q => e j k (by omega)), a4.fr (fun j k q => e j k (by omega)), ?_, a6.fr (fun j k q => e j k (by unfold CRF at q; omega))⟩
  rw [SMD_fr (fun j k q => e j k (by omega))]
  exact CI_fr hC (fun j k q => h2 j k (by unfold SK0 SKR; omega))
theorem s_differ : St_differ Inv := fun D h => by
  obtain ⟨r, D1, D2, e1, e2, f1, -, hC, f2⟩ := differ_eq (MM_of h.1.1 h.1.2) h.2.2.2.2.1
  exact ⟨r, D1, D2, e1, e2, h.dif f1 hC f2⟩
theorem s_differs : St_differs Inv := fun D h x1 x2 => by
  obtain ⟨r, D1, D2, e1, e2, f1, -, hC, f2⟩ := differs_eq (MM_of h.1.1 h.1.2) h.2.2.2.2.1 x1 x2
  exact ⟨r, D1, D2, e1, e2, h.dif f1 hC f2⟩
theorem s_couples : St_couples Inv := fun D h => by
  obtain ⟨r, D1, D2, e1, e2, f1, -, hC, f2⟩ := couples_eq (MM_of h.1.1 h.1.2) h.2.2.2.2.1
  exact ⟨r, D1, D2, e1, e2, h.dif f1 hC f2⟩
end
