/-! ===== the reference: what is remembered of short and long words ===== -/
section
variable {D : Dm} {T : Tb} {acc : Int32} {ts ss : Tst} {b a : Nat}
theorem SR.sy (h : SR D ss a) {u : Nat} (hu : u < a) : (ss u).2 ≤ 3 ∧ (ss u).1.length ≤ 6 ∧ ∀ x ∈ (ss u).1, isSy x.1 ∧ ∃ k, k < (ss u).2 ∧ x.2 = nI k := by
  obtain ⟨n, hn, -, el, hd, hs, -⟩ := h.2.2 u hu
  refine ⟨hd, by rw [el, lts_len]; exact hn, fun x hx => ?_⟩
  rw [el] at hx
  obtain ⟨k, -, hk, rfl⟩ := lts_mem hx
  exact hs k (by omega)
theorem SR.cu (h : SR D ss a) (hT : wfT T) {u : Nat} (hu : u < a) : okSt (cu T ss u).1 ∧ okC (cu T ss u) (ss u).2 :=
  ⟨run_ok hT c0_ok (fun x hx => ((h.sy hu).2.2 x hx).1), run_okC (fun x hx => ((h.sy hu).2.2 x hx).2)⟩
theorem lg_run {u y k : Nat} : run T c0 ((ss u).1 ++ [(nI y, nI k)]) = cl T ss u y k := by
  rw [run_app]; rfl
theorem isSy_n {y : Nat} (h : y < 2) : isSy (nI y) := by
  have : y = 0 ∨ y = 1 := by omega
  rcases this with rfl | rfl
  · exact Or.inl rfl
  · exact Or.inr rfl
theorem lgM_le {M k : Nat} (h : k ≤ M) : lgM M k ≤ M + 1 ∧ M ≤ lgM M k ∧ k < lgM M k := by
  unfold lgM
  split <;> omega
theorem SR.cl (h : SR D ss a) (hT : wfT T) {u y k : Nat} (hu : u < a) (hy : y < 2) (hk : k ≤ (ss u).2) : okSt (cl T ss u y k).1 ∧ okC (cl T ss u y k) (lgM (ss u).2 k) := by
  obtain ⟨h1, h2, h3⟩ := h.sy hu
  have hg := lgM_le hk
  rw [← lg_run]
  refine ⟨run_ok hT c0_ok (fun x hx => ?_), run_okC (fun x hx => ?_)⟩
  · rcases List.mem_append.mp hx with q | q
    · exact (h3 x q).1
    · have : x = (nI y, nI k) := by simpa using q
      rw [this]; exact isSy_n hy
  · rcases List.mem_append.mp hx with q | q
    · obtain ⟨-, j, hj, e⟩ := h3 x q
      exact ⟨j, by omega, e⟩
    · have : x = (nI y, nI k) := by simpa using q
      rw [this]; exact ⟨k, by omega, rfl⟩
theorem hasShort_ok (h : RS D T acc ts b ss a) {u : Nat} (hu : u < a) : Y (f_X12_hasShort (nI u) D) (fun r => r.1 = nI (bts (kpN T acc ts b (cu T ss u))) ∧ RS r.2 T acc ts b ss a ∧ Fr SXC D r.2 ∧ r.2 296 u = nI b ∧ ∀ j k, (j = 297 ∨ j = 298 ∨ j = 302 ∨ j = 304 ∨ j = 305 ∨ (j = 296 ∧ D j k = nI b)) → r.2 j k = D j k) := by
  obtain ⟨hMR, hT, hS, hC, hL⟩ := id h
  have hb := hT.1
  have ha := hS.1
  obtain ⟨f, hf, e296, e295⟩ := hC.1 u hu
  obtain ⟨hd, -, -⟩ := hS.sy hu
  unfold f_X12_hasShort f_X12_hasShort_50
  rw [hT.2.1, nI_clamp (show u < 2 ^ 31 by omega), e296]
  refine yGd (inB_nI (by omega) (by omega)) (yIte (fun hle => ?_) (fun hle => ?_))
  · have : f = b := by
      rw [nI_leI (by omega) (by omega)] at hle; omega
    rw [this] at e296 e295
    refine yGd (inB_nI (by omega) (by omega)) (yRet ⟨e295, h, Fr.refl, e296, fun _ _ _ => rfl⟩)
  · refine yBV (takesShort_ok hS hu) (fun D1 h1 => ?_)
    obtain ⟨hF1, hK1⟩ := h1
    have c1 : ∀ j k, ¬ (j = 299 ∨ j = 300 ∨ (j = 281 ∧ k = 36)) → D1 j k = D j k := hF1
    refine yGd (inB_nI (by omega) (by omega)) (yGd (inB_nI (by omega) (by omega)) ?_)
    rw [c1 295 u (by omega), c1 296 u (by omega), e295, e296]
    refine yBI (remembers_kp (T := T) (acc := acc) (ts := ts) (b := b) (fm := f) (M := (ss u).2) (l := (ss u).1) (by omega) (hMR.fr (fun k => c1 _ _ (by omega))) (hT.fr (c1 _ _ (by omega)) (fun j k q1 q2 => c1 _ _ (by omega))) hK1 hf) (fun r D2 h2 => ?_)
    dsimp only at h2
    obtain ⟨hF2, er⟩ := h2
    have c2 : ∀ j k, ¬ SX j k → D2 j k = D j k := fun j k q => by
      rw [hF2 j k (by unfold SRM; unfold SX at q; omega), c1 j k (by unfold SX at q; omega)]
    refine yGd (inB_nI (by omega) (by omega)) (yLt (fun D3 hD3 => yGd (inB_nI (by omega) (by omega)) (yLt (fun D4 hD4 => yGd (inB_nI (by omega) (by omega)) (yRet ?_)))))
    have v28 : D3 281 28 = nI b := by rw [hD3, ud_at, if_neg (by omega), c2 _ _ (by unfold SX; omega)]; exact hT.2.1
    rw [v28] at hD4
    have o : ∀ j k, ¬ (j = 295 ∧ k = u) → ¬ (j = 296 ∧ k = u) → D4 j k = D2 j k := fun j k q1 q2 => by
      rw [hD4, ud_at, if_neg (by omega), hD3, ud_at, if_neg (by omega)]
    have x5 : D4 295 u = nI (bts (kpN T acc ts b (cu T ss u))) := by
      rw [hD4, ud_at, if_neg (by omega), hD3, ud_at, if_pos ⟨rfl, rfl⟩]; exact er
    have x6 : D4 296 u = nI b := by rw [hD4, ud_at, if_pos ⟨rfl, rfl⟩]
    have hFx : Fr SXC D D4 := fun j k q => by
      rw [o j k (by unfold SXC at q; omega) (by unfold SXC at q; omega), c2 j k (by unfold SXC at q; unfold SX; omega)]
    dsimp only
    refine ⟨x5, ⟨hMR.fr (fun k => hFx _ _ (by unfold SXC; omega)), hT.fr (hFx _ _ (by unfold SXC; omega)) (fun j k q1 q2 => hFx _ _ (by unfold SXC; omega)), hS.fr (hFx _ _ (by unfold SXC; omega)) (fun j k q1 q2 => hFx _ _ (by unfold SXC; omega)), ⟨fun v hv => ?_, fun v q1 q2 => ?_⟩, fun v hv y hy k hk => ?_⟩, hFx, x6, fun j k q => ?_⟩
    · by_cases e : v = u
      · rw [e]; exact ⟨b, Nat.le_refl _, x6, x5⟩
      · rw [o _ _ (by omega) (by omega), o _ _ (by omega) (by omega), c2 _ _ (by unfold SX; omega), c2 _ _ (by unfold SX; omega)]
        exact hC.1 v hv
    · obtain ⟨z1, z2, z3⟩ := hC.2 v q1 q2
      refine ⟨by rw [o _ _ (by omega) (by omega), c2 _ _ (by unfold SX; omega)]; exact z1, by rw [o _ _ (by omega) (by omega), c2 _ _ (by unfold SX; omega)]; exact z2, fun k hk => ?_⟩
      rw [o _ _ (by omega) (by omega), o _ _ (by omega) (by omega), c2 _ _ (by unfold SX; omega), c2 _ _ (by unfold SX; omega)]
      exact z3 k hk
    · rw [o _ _ (by omega) (by omega), o _ _ (by omega) (by omega), c2 _ _ (by unfold SX; omega), c2 _ _ (by unfold SX; omega)]
      exact hL v hv y hy k hk
    · by_cases eu : j = 296 ∧ k = u
      · obtain ⟨rfl, rfl⟩ := eu
        rw [x6]
        rcases q with q | q | q | q | q | q
        · omega
        · omega
        · omega
        · omega
        · omega
        · exact q.2.symm
      · have qj : j = 297 ∨ j = 298 ∨ j = 302 ∨ j = 304 ∨ j = 305 ∨ j = 296 := by
          rcases q with q | q | q | q | q | q
          · exact Or.inl q
          · exact Or.inr (Or.inl q)
          · exact Or.inr (Or.inr (Or.inl q))
          · exact Or.inr (Or.inr (Or.inr (Or.inl q)))
          · exact Or.inr (Or.inr (Or.inr (Or.inr (Or.inl q))))
          · exact Or.inr (Or.inr (Or.inr (Or.inr (Or.inr q.1))))
        rw [o _ _ (by omega) eu, hF2 j k (by unfold SRM; omega), c1 j k (by omega)]
theorem longAt_ok {u y k : Nat} : f_X12_longAt (nI u) (nI y) (nI k) D = some (nI (8 * u + 4 * y + k), D) := by
  unfold f_X12_longAt
  rw [show (8 : Int32) = nI 8 from rfl, show (4 : Int32) = nI 4 from rfl, nI_mul, nI_mul, nI_add, nI_add]
theorem hasLong_ok (h : RS D T acc ts b ss a) {u y k : Nat} (hu : u < a) (hy : y < 2) (hk : k ≤ (ss u).2) : Y (f_X12_hasLong (nI u) (nI y) (nI k) D) (fun r => r.1 = nI (bts (kpN T acc ts b (cl T ss u y k))) ∧ RS r.2 T acc ts b ss a ∧ Fr SXC D r.2 ∧ r.2 298 (8 * u + 4 * y + k) = nI b ∧ (∀ j q, (j = 295 ∨ j = 296) → r.2 j q = D j q) ∧ ∀ j q, (j = 297 ∨ j = 298) → q ≠ 8 * u + 4 * y + k → r.2 j q = D j q) := by
  obtain ⟨hMR, hT, hS, hC, hL⟩ := id h
  have hb := hT.1
  have ha := hS.1
  obtain ⟨f, hf, e298, e297⟩ := hL u hu y hy k hk
  obtain ⟨hd, -, -⟩ := hS.sy hu
  have hg := lgM_le hk
  unfold f_X12_hasLong f_X12_hasLong_65
  rw [longAt_ok, bI_d, hT.2.1]
  generalize hat : 8 * u + 4 * y + k = at1 at *
  rw [nI_clamp (show at1 < 2 ^ 31 by omega), e298]
  refine yGd (inB_nI (by omega) (by omega)) (yIte (fun hle => ?_) (fun hle => ?_))
  · have : f = b := by
      rw [nI_leI (by omega) (by omega)] at hle; omega
    rw [this] at e298 e297
    refine yGd (inB_nI (by omega) (by omega)) (yRet ⟨e297, h, Fr.refl, e298, fun _ _ _ => rfl, fun _ _ _ _ => rfl⟩)
  · refine yBV (takesLong_ok hS hu (isSy_n hy) (by omega)) (fun D1 h1 => ?_)
    obtain ⟨hF1, hK1⟩ := h1
    have c1 : ∀ j k, ¬ (j = 299 ∨ j = 300 ∨ (j = 281 ∧ k = 36)) → D1 j k = D j k := hF1
    refine yGd (inB_nI (by omega) (by omega)) (yGd (inB_nI (by omega) (by omega)) ?_)
    rw [c1 297 at1 (by omega), c1 298 at1 (by omega), e297, e298]
    have rk := remembers_kp (T := T) (acc := acc) (ts := ts) (b := b) (fm := f) (M := lgM (ss u).2 k) (l := (ss u).1 ++ [(nI y, nI k)]) (by omega) (hMR.fr (fun k => c1 _ _ (by omega))) (hT.fr (c1 _ _ (by omega)) (fun j k q1 q2 => c1 _ _ (by omega))) hK1 hf
    rw [lg_run] at rk
    refine yBI rk (fun r D2 h2 => ?_)
    dsimp only at h2
    obtain ⟨hF2, er⟩ := h2
    have c2 : ∀ j k, ¬ SX j k → D2 j k = D j k := fun j k q => by
      rw [hF2 j k (by unfold SRM; unfold SX at q; omega), c1 j k (by unfold SX at q; omega)]
    refine yGd (inB_nI (by omega) (by omega)) (yLt (fun D3 hD3 => yGd (inB_nI (by omega) (by omega)) (yLt (fun D4 hD4 => yGd (inB_nI (by omega) (by omega)) (yRet ?_)))))
    have v28 : D3 281 28 = nI b := by rw [hD3, ud_at, if_neg (by omega), c2 _ _ (by unfold SX; omega)]; exact hT.2.1
    rw [v28] at hD4
    have o : ∀ j k, ¬ (j = 297 ∧ k = at1) → ¬ (j = 298 ∧ k = at1) → D4 j k = D2 j k := fun j k q1 q2 => by
      rw [hD4, ud_at, if_neg (by omega), hD3, ud_at, if_neg (by omega)]
    have x5 : D4 297 at1 = nI (bts (kpN T acc ts b (cl T ss u y k))) := by
      rw [hD4, ud_at, if_neg (by omega), hD3, ud_at, if_pos ⟨rfl, rfl⟩]; exact er
    have x6 : D4 298 at1 = nI b := by rw [hD4, ud_at, if_pos ⟨rfl, rfl⟩]
    have hFx : Fr SXC D D4 := fun j k q => by
      rw [o j k (by unfold SXC at q; omega) (by unfold SXC at q; omega), c2 j k (by unfold SXC at q; unfold SX; omega)]
    dsimp only
    refine ⟨x5, ⟨hMR.fr (fun k => hFx _ _ (by unfold SXC; omega)), hT.fr (hFx _ _ (by unfold SXC; omega)) (fun j k q1 q2 => hFx _ _ (by unfold SXC; omega)), hS.fr (hFx _ _ (by unfold SXC; omega)) (fun j k q1 q2 => hFx _ _ (by unfold SXC; omega)), ⟨fun v hv => ?_, fun v q1 q2 => ?_⟩, fun v hv y' hy' k' hk' => ?_⟩, hFx, x6, fun j q hj => ?_, fun j q hj hq => ?_⟩
    · rw [o _ _ (by omega) (by omega), o _ _ (by omega) (by omega), c2 _ _ (by unfold SX; omega), c2 _ _ (by unfold SX; omega)]
      exact hC.1 v hv
    · obtain ⟨z1, z2, z3⟩ := hC.2 v q1 q2
      refine ⟨by rw [o _ _ (by omega) (by omega), c2 _ _ (by unfold SX; omega)]; exact z1, by rw [o _ _ (by omega) (by omega), c2 _ _ (by unfold SX; omega)]; exact z2, fun k' hk' => ?_⟩
      rw [o _ _ (by omega) (by omega), o _ _ (by omega) (by omega), c2 _ _ (by unfold SX; omega), c2 _ _ (by unfold SX; omega)]
      exact z3 k' hk'
    · have hv3 := (hS.sy hv).1
      by_cases e : 8 * v + 4 * y' + k' = at1
      · have e1 : v = u := by omega
        have e2 : y' = y := by omega
        have e3 : k' = k := by omega
        rw [e, e1, e2, e3]
        exact ⟨b, Nat.le_refl _, x6, x5⟩
      · rw [o _ _ (by omega) (by omega), o _ _ (by omega) (by omega), c2 _ _ (by unfold SX; omega), c2 _ _ (by unfold SX; omega)]
        exact hL v hv y' hy' k' hk'
    · rw [o _ _ (by omega) (by omega), c2 _ _ (by unfold SX; omega)]
    · rw [o _ _ (by omega) (by omega), c2 _ _ (by unfold SX; omega)]
theorem rsh_loop {D0 : Dm} (hM : MR D0 0 T acc) {u n : Nat} (hu : u < 10) (hn : n ≤ 6) (h289 : D0 289 u = nI n) (hy : ∀ k, k < n → isSy (D0 290 (6 * u + k))) :
    ∀ (j i m : Nat) (c : Cf), i + j = n → okSt c.1 → ∃ D', f_X12_runsShort_6 (j + 1 + m) (nI u) (nI i) (setR D0 c) = some D' ∧ Fr (fun j k => j = 281 ∧ (k = 3 ∨ k = 4 ∨ k = 5 ∨ k = 49 ∨ k = 50 ∨ k = 51)) D0 D' ∧ getP D' = run T c (lts (fun k => D0 290 (6 * u + k)) (fun k => D0 291 (6 * u + k)) i j) := by
  have s0 : ∀ c, setR D0 c 289 = D0 289 := fun c => setR_ne (by decide)
  have s1 : ∀ c, setR D0 c 290 = D0 290 := fun c => setR_ne (by decide)
  have s2 : ∀ c, setR D0 c 291 = D0 291 := fun c => setR_ne (by decide)
  have hM' : ∀ c, MR (setR D0 c) 0 T acc := fun c => hM.fr (fun k => by rw [setR_ne (by decide)])
  intro j
  induction j with
  | zero =>
    intro i m c hi hc
    have hi : i = n := by omega
    subst hi
    rw [show 0 + 1 + m = m + 1 by omega]
    show ∃ D', f_X12_runsShort_6_b _ _ _ _ = some D' ∧ _
    unfold f_X12_runsShort_6_b
    rw [gd_t (inB_nI (by omega) (by omega)), s0, nI_clamp (by omega), h289, if_pos (nI_le (Nat.le_refl _) (by omega))]
    simp only [lt_d]
    refine ⟨_, rfl, ?_, ?_⟩
    · exact (((Fr.refl.r (by omega) (by omega) (by omega)).ud (by omega)).ud (by omega)).ud (by omega)
    · rw [lts_zero, run_nil]
      unfold getP
      simp [ud_at, setR_at]
  | succ j ih =>
    intro i m c hi hc
    have hin : i < n := by omega
    obtain ⟨D', e1, e2, e3⟩ := ih (i + 1) m (step T c (D0 290 (6 * u + i), D0 291 (6 * u + i))) (by omega) (step_ok hM.1 hc (hy i hin))
    refine ⟨D', ?_, e2, ?_⟩
    · rw [show j + 1 + 1 + m = (j + 1 + m) + 1 by omega]
      show f_X12_runsShort_6_b _ _ _ _ = _
      unfold f_X12_runsShort_6_b
      rw [gd_t (inB_nI (by omega) (by omega)), s0, nI_clamp (by omega), h289, if_neg (nI_nle2 (by omega) (by omega)), show (6 : Int32) = nI 6 from rfl, nI_mul, nI_add, gd_t (inB_nI (by omega) (by omega)), gd_t (inB_nI (by omega) (by omega)), s1, s2, nI_clamp (by omega)]
      rw [(hM' c).go mc0 (by rw [show setR D0 c 281 3 = c.1 by simp [setR_at]]; exact hc) (hy i hin), bV_d, lt_d, getR_set, setR_set, nI_1]
      exact e1
    · rw [e3, lts_succ, run_cons]
abbrev SP2 (j k : Nat) : Prop := j = 281 ∧ (k = 3 ∨ k = 4 ∨ k = 5 ∨ k = 49 ∨ k = 50 ∨ k = 51)
theorem runsShort_ok (hM : MR D 0 T acc) (hS : SR D ss a) {u : Nat} (hu : u < a) : Y (f_X12_runsShort (nI u) D) (fun D' => Fr SP2 D D' ∧ getP D' = cu T ss u) := by
  have ha := hS.1
  obtain ⟨n, hn, h289, el, hd, hs, -⟩ := hS.2.2 u hu
  unfold f_X12_runsShort
  rw [r_starts, bV_d]
  obtain ⟨q, hq⟩ := FUs n (by omega)
  obtain ⟨D', e1, e2, e3⟩ := rsh_loop hM (u := u) (by omega) hn h289 (fun k hk => (hs k hk).1) n 0 q c0 (by omega) c0_ok
  rw [nI_0] at e1
  rw [hq]
  refine ⟨D', e1, e2, ?_⟩
  rw [e3]
  unfold cu
  rw [el]
end
