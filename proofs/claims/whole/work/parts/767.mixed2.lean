/-! ===== mixed words of the class ===== -/
theorem plI_3 {ku : List Nat} {n : Nat} (hl : ku.length ≤ 2) : plI ku n = -1 ∨ plI ku n = 0 ∨ plI ku n = 1 := by
  rcases ku with _ | ⟨p, _ | ⟨q, _ | ⟨t, l⟩⟩⟩
  · left; rfl
  · by_cases c : p = n
    · right; left; simp [plI, plc1, oI, c, nI_0]
    · left; simp [plI, plc1, oI, c]
  · by_cases c : p = n
    · right; left; simp [plI, plc1, oI, c, nI_0]
    · by_cases c2 : q = n
      · right; right; simp [plI, plc1, oI, c, c2]; rfl
      · left; simp [plI, plc1, oI, c, c2]
  · simp at hl
section
variable {D0 : Dm} {T : Tb} {acc : Int32} {ts ss : Tst} {b a : Nat} {w : List Lt}
theorem tm37 (h : LCs D0 T acc ts b ss a) (hP : PS D0 T acc ts b ss a) (hW : WD D0 w) (hy : ∀ x ∈ w, isSy x.1) {u i : Nat} (hu : u < a) (hi : i ≤ w.length) {c C : Cf} : ∀ (j k m : Nat) (D : Dm), k + j = (ss u).1.length → Fr (fun j k => 72 ≤ j ∧ j ≤ 75) D0 D → getGo D 72 = c → okSt (D 74 0) → run T (run T (getGo D 74) (ins ((ss u).1.drop k) (mxv (kpN T acc ts b (cu T ss u)) c 1000))) (w.drop i) = C → Y (f_X3_takesMixed_37 (j + 1 + m) (nI i) (nI u) (nI k) D) (fun r => r.1 = b01 (tk acc C) ∧ Fr (fun j k => 72 ≤ j ∧ j ≤ 75) D0 r.2) := by
  have ha := h.2.2.1
  obtain ⟨n, hn, hI, hl, hd, hd3, hs⟩ := h.2.2.2.2 u hu
  have len : (ss u).1.length = n := by rw [hl, lts_len]
  have kl := kcle (acc := acc) (ts := ts) (b := b) (T := T) h.2.2 h.1.wfT hu
  have k2 := kpN_in (T := T) (acc := acc) (ts := ts) (b := b) (show (ss u).2 < 5 by omega) (h.2.2.cu h.1.wfT hu).2
  intro j
  induction j with
  | zero =>
    intro k m D hk hF hg hs0 hr
    have hk : k = n := by omega
    rw [show 0 + 1 + m = m + 1 by omega]
    show Y (f_X3_takesMixed_37_b _ _ _ _ _) _
    unfold f_X3_takesMixed_37_b
    rw [nI_clamp (by omega), ar44 u (by omega), hF (122 + 14 * u) 3 (by omega), hI.2.1]
    refine yGd (inB_nI (by omega) (by omega)) (yPos (by rw [hk]; exact nI_le (Nat.le_refl _) (by omega)) ?_)
    rw [hk, ← len, List.drop_length] at hr
    have hr : run T (getGo D 74) (w.drop i) = C := hr
    obtain ⟨z, hz⟩ := FUs (w.length - i) (by have := hW.1; omega)
    rw [hz]
    exact tm131 h.1 hW hy (w.length - i) i z D (by omega) hF hs0 hr
  | succ j ih =>
    intro k m D hk hF hg hs0 hr
    have hkn : k < n := by omega
    obtain ⟨sy, q, hq, eq⟩ := hs k hkn
    have hMD : MC D T acc := h.1.fr (fun j k q1 q2 => hF j k (by omega))
    have hPD : PS D T acc ts b ss a := hP.fr ha.2 (fun j k q1 q2 q3 => hF j k (by omega))
    rw [show j + 1 + 1 + m = (j + 1 + m) + 1 by omega]
    show Y (f_X3_takesMixed_37_b _ _ _ _ _) _
    unfold f_X3_takesMixed_37_b
    rw [nI_clamp (by omega), ar44 u (by omega), ar45 u (by omega), hF (122 + 14 * u) 3 (by omega), hI.2.1]
    refine yGd (inB_nI (by omega) (by omega)) (yNeg (nI_nle2 (by omega) (by omega)) (yGd (inB_nI (by omega) (by omega)) (yGd (inB_nI (by omega) (by omega)) ?_)))
    rw [nI_clamp (show k < 2 ^ 31 by omega), lt_d, hF (122 + 14 * u + 2) k (by omega), eq]
    refine yGd (inB_nI (by omega) (by omega)) ?_
    have po := placeOf_ok (D := D) (r0 := 126 + 14 * u) (n := q) (hPD u hu).k kl (by omega) (fun i hi => by
      have := hss_mem (show (ss u).2 < 5 by omega) k2 _ (show (kpN T acc ts b (cu T ss u)).getD i 0 ∈ kpN T acc ts b (cu T ss u) by rw [List.getD_eq_getElem?_getD, List.getElem?_eq_getElem hi]; exact List.getElem_mem _)
      omega)
    rw [po, bI_d]
    refine yGd (inB_nI (by omega) (by omega)) (yGd (inB_nI (by omega) (by omega)) ?_)
    rw [hF (122 + 14 * u + 1) k (by omega)]
    have gd' : (ss u).1.getD k (0, 0) = (D0 (122 + 14 * u + 1) k, nI q) := by
      rw [hl, List.getD_eq_getElem?_getD, lts_get hkn, eq]; rfl
    have next : ∀ nm : Int32, nm = mxv (kpN T acc ts b (cu T ss u)) c 1000 (nI q) → Y (f_X3_takesMixed_120 (f_X3_takesMixed_37 (j + 1 + m)) (nI i) (nI u) (nI k) nm (D0 (122 + 14 * u + 1) k) D) (fun r => r.1 = b01 (tk acc C) ∧ Fr (fun j k => 72 ≤ j ∧ j ≤ 75) D0 r.2) := fun nm hnm => by
      unfold f_X3_takesMixed_120
      rw [hMD.adv hs0 sy (by omega), bV_d, lt_d, nI_1]
      refine ih (k + 1) m _ (by omega) (hF.go (by omega) (by omega) (by omega)) ?_ ?_ ?_
      · rw [← hg]
        unfold getGo
        simp [setGo_at]
      · rw [setGo_at, if_pos ⟨rfl, rfl⟩]; exact step_ok h.1.wfT hs0 sy
      · rw [getGo_set, ← hr, drop_s (w := (ss u).1) (p := k) (by omega), gd', hnm]; rfl
    have mv : mxv (kpN T acc ts b (cu T ss u)) c 1000 (nI q) = if plI (kpN T acc ts b (cu T ss u)) q = -1 then nI 1000 + nI q else if plI (kpN T acc ts b (cu T ss u)) q = 0 then c.2.1 else c.2.2 := by
      unfold mxv; rw [nI_clamp (by omega)]
    rcases plI_3 (ku := kpN T acc ts b (cu T ss u)) (n := q) kl with e | e | e
    · exact yPos e (next _ (by rw [mv, if_pos e]; rfl))
    · rw [e]
      refine yNeg (by decide) (yGd (by decide) (next _ ?_))
      rw [mv, e, if_neg (by decide), if_pos rfl, ← hg]; rfl
    · rw [e]
      refine yNeg (by decide) (yGd (by decide) (next _ ?_))
      rw [mv, e, if_neg (by decide), if_neg (by decide), ← hg]; rfl
theorem takesMixed_ok (h : LCs D0 T acc ts b ss a) (hP : PS D0 T acc ts b ss a) (hW : WD D0 w) (hy : ∀ x ∈ w, isSy x.1) (hs : ∀ p, p ≤ w.length → stOK ((w.take p).foldl (hst (hyp D0)) c0).1 10) {u i : Nat} (hu : u < a) (hi : i ≤ w.length) {c : Cf} (hc : (w.take i).foldl (hst (hyp D0)) c0 = c) (hcu : c.1 = nI u) : Y (f_X3_takesMixed (nI i) D0) (fun r => r.1 = b01 (tk acc (mixC T (kpN T acc ts b (cu T ss u)) (ss u).1 1000 c (w.drop i))) ∧ Fr (fun j k => 72 ≤ j ∧ j ≤ 75) D0 r.2) := by
  have ha := h.2.2.1
  obtain ⟨n, hn, hI, hl, -⟩ := h.2.2.2.2 u hu
  have len : (ss u).1.length = n := by rw [hl, lts_len]
  unfold f_X3_takesMixed
  refine yBV (walkh_ok hW hs hy hi) (fun D1 h1 => ?_)
  obtain ⟨hF1, hg1⟩ := h1
  rw [hc] at hg1
  have e72 : D1 72 0 = nI u := by rw [← hcu, ← hg1]; rfl
  have mx : mxI (D1 72 0) 0 = nI u := by
    unfold mxI
    rw [e72, if_neg (by rw [← nI_0]; exact nI_nlt (by omega) (by omega))]
  rw [mx, lt_d, go_start, bV_d]
  obtain ⟨z, hz⟩ := FUs (ss u).1.length (by omega)
  have := tm37 (acc := acc) (ts := ts) (b := b) (c := c) (C := mixC T (kpN T acc ts b (cu T ss u)) (ss u).1 1000 c (w.drop i)) h hP hW hy hu hi (ss u).1.length 0 z (setGo D1 74 (0, -1, -1)) (by omega) ((hF1.mono (fun j k q => by omega)).go (by omega) (by omega) (by omega)) (by
    rw [← hg1]; unfold getGo; simp [setGo_at]) (by rw [setGo_at, if_pos ⟨rfl, rfl⟩]; exact c0_ok) (by rw [getGo_set]; rfl)
  rw [nI_0] at this
  rw [hz]
  exact this
end
