/-- the class's machine 0 -/
def MC (D : Dm) (T : Tb) (acc : Int32) : Prop := wfM (D 9 0) (D 9 1) (D 9 2) (D 9 3) (D 10) (D 11) (D 12) ∧ T = (D 10, D 11, D 12) ∧ acc = D 9 3
theorem MC.fr {D D' : Dm} {T : Tb} {acc : Int32} (h : MC D T acc) (hF : ∀ j k, 9 ≤ j → j ≤ 12 → D' j k = D j k) : MC D' T acc := by
  have e0 : D' 9 = D 9 := funext (fun k => hF 9 k (by omega) (by omega))
  have e1 : D' 10 = D 10 := funext (fun k => hF 10 k (by omega) (by omega))
  have e2 : D' 11 = D 11 := funext (fun k => hF 11 k (by omega) (by omega))
  have e3 : D' 12 = D 12 := funext (fun k => hF 12 k (by omega) (by omega))
  unfold MC
  rw [e0, e1, e2, e3]
  exact h
theorem MC.wfT {D : Dm} {T : Tb} {acc : Int32} (h : MC D T acc) : wfT T := by
  rw [h.2.1]
  exact h.1.tb
theorem MC.adv {D : Dm} {T : Tb} {acc : Int32} (h : MC D T acc) {g : Nat} {y nm : Int32} (hs : okSt (D g 0)) (hy : isSy y) (hg : 12 < g) : f_X4_advance 9 g y nm D = some (setGo D g (step T (getGo D g) (y, nm))) := by
  rw [adv_ok h.1 hs hy (by omega) (by omega), h.2.1]
  rfl
theorem MC.takes {D : Dm} {T : Tb} {acc : Int32} (h : MC D T acc) {g : Nat} : f_X4_takes 9 g D = some (b01 (tk acc (getGo D g)), D) := by
  rw [takes_ok, h.2.2]
theorem step_ok {T : Tb} (hT : wfT T) {c : Cf} {y nm : Int32} (hc : okSt c.1) (hy : isSy y) : okSt (step T c (y, nm)).1 := mst_ok (fun k hk => (hT k hk).1) hc hy
theorem rowI_succ {P : Nat → Bool} {n : Nat} : rowI P (n + 1) = if P n = true then rowI P n ||| ((1 : Int32) <<< (nI n &&& 31)) else rowI P n := rfl
/-- a test of the class -/
def TW (D : Dm) (w : Nat) (t : List Lt) (d : Nat) : Prop := ∃ n, n ≤ 20 ∧ D w 3 = nI n ∧ D w 4 = nI d ∧ d ≤ 3 ∧ t = lts (D (w + 1)) (D (w + 2)) 0 n ∧ ∀ k, k < n → isSy (D (w + 1) k) ∧ ∃ j, j < d ∧ D (w + 2) k = nI j
theorem TW.fr {D D' : Dm} {w d : Nat} {t : List Lt} (h : TW D w t d) (hF : ∀ j k, w ≤ j → j ≤ w + 2 → D' j k = D j k) : TW D' w t d := by
  obtain ⟨n, h1, h2, h3, h4, h5, h6⟩ := h
  have e1 : D' (w + 1) = D (w + 1) := funext (fun k => hF _ k (by omega) (by omega))
  have e2 : D' (w + 2) = D (w + 2) := funext (fun k => hF _ k (by omega) (by omega))
  refine ⟨n, h1, by rw [hF w 3 (by omega) (by omega), h2], by rw [hF w 4 (by omega) (by omega), h3], h4, ?_, ?_⟩
  · rw [e1, e2]; exact h5
  · rw [e1, e2]; exact h6
abbrev SQ (j k : Nat) : Prop := 78 ≤ j ∧ j ≤ 81
theorem an46 {k12 : Nat → Nat → Nat → Nat → Int32 → Int32 → Int32 → Int32 → Dm → Option (Int32 × Dm)} {D1 : Dm} {T : Tb} {acc : Int32} (hM : MC D1 T acc) {r1 r2 r3 n3 n : Nat} {x4 x5 x6 x7 : Int32} (hn : n ≤ 20) (h3 : D1 r2 3 = nI n) (hr : 81 < r2) (hs : ∀ k, k < n → isSy (D1 (r2 + 1) k) ∧ ∃ j, j < 3 ∧ D1 (r2 + 2) k = nI j) :
    ∀ (j i m : Nat) (c : Cf), i + j = n → okSt c.1 → f_X0_answers_46 k12 (j + 1 + m) r1 r2 r3 n3 x4 x5 x6 x7 (nI i) (setGo D1 80 c) = f_X0_answers_114 k12 r1 r2 r3 n3 x4 (if tk acc (run T c (ins (lts (D1 (r2 + 1)) (D1 (r2 + 2)) i j) (fun x => D1 78 x.toNatClampNeg))) = true then x5 ||| (1 <<< (x7 &&& 31)) else x5) x6 x7 (setGo D1 80 (run T c (ins (lts (D1 (r2 + 1)) (D1 (r2 + 2)) i j) (fun x => D1 78 x.toNatClampNeg)))) := by
  have e0 : ∀ c, setGo D1 80 c r2 = D1 r2 := fun c => setGo_ne (by omega) (by omega)
  have e1 : ∀ c, setGo D1 80 c (r2 + 1) = D1 (r2 + 1) := fun c => setGo_ne (by omega) (by omega)
  have e2 : ∀ c, setGo D1 80 c (r2 + 2) = D1 (r2 + 2) := fun c => setGo_ne (by omega) (by omega)
  have e7 : ∀ c, setGo D1 80 c 78 = D1 78 := fun c => setGo_ne (by omega) (by omega)
  have hM' : ∀ c, MC (setGo D1 80 c) T acc := fun c => hM.fr (fun j k h1 h2 => by rw [setGo_ne (by omega) (by omega)])
  intro j
  induction j with
  | zero =>
    intro i m c hi hc
    have hi : i = n := by omega
    subst hi
    rw [show 0 + 1 + m = m + 1 by omega]
    show f_X0_answers_46_b _ _ _ _ _ _ _ _ _ _ _ _ = _
    unfold f_X0_answers_46_b
    rw [e0, h3, if_pos (by rw [Int32.le_iff_toInt_le]; exact Int.le_refl _), (hM' c).takes, bI_d, b01_if, getGo_set, lts_zero]
    show _ = f_X0_answers_114 k12 r1 r2 r3 n3 x4 (if tk acc c = true then _ else _) x6 x7 (setGo D1 80 c)
    by_cases h : tk acc c = true
    · rw [if_pos h, if_pos h]; rfl
    · rw [if_neg h, if_neg h]
  | succ j ih =>
    intro i m c hi hc
    have hin : i < n := by omega
    obtain ⟨hy, q, hq, eq⟩ := hs i hin
    rw [show j + 1 + 1 + m = (j + 1 + m) + 1 by omega]
    show f_X0_answers_46_b _ _ _ _ _ _ _ _ _ _ _ _ = _
    unfold f_X0_answers_46_b
    rw [e0, h3, if_neg (nI_nle2 hin (by omega)), gd_t (inB_nI (by omega) (by omega)), gd_t (inB_nI (by omega) (by omega)), e1, e2, e7, nI_clamp (by omega), gd_t (by rw [eq]; exact inB_nI hq (by omega))]
    rw [(hM' c).adv (by rw [show setGo D1 80 c 80 0 = c.1 by simp [setGo_at]]; exact hc) hy (by omega), bV_d, lt_d, getGo_set, setGo_set, nI_1]
    rw [ih (i + 1) m _ (by omega) (step_ok hM.wfT hc hy), lts_succ]
    rfl
theorem ci_ok {r2 d : Nat} {D : Dm} (h : D r2 4 = nI d) (hd : d ≤ 3) : f_X0_countInstances r2 D = some (nI (3 ^ d), D) := by
  unfold f_X0_countInstances
  rw [h, mn3 d (by omega), gd_t (inB_nI (by omega) (by omega)), nI_clamp (by omega)]
  have : ∀ d, d < 4 → tab0 d = nI (3 ^ d) := by decide +kernel
  rw [this d (by omega)]
theorem dig_le {m : Nat} {gs : List Nat} (h : okD m gs = true) (i : Nat) : dig gs i ≤ m := by
  unfold okD at h
  rw [Bool.and_eq_true] at h
  unfold dig
  rw [List.getD_eq_getElem?_getD]
  cases hq : gs[i]? with
  | none => simp
  | some x =>
    have := List.all_eq_true.mp h.1 x (List.mem_of_getElem? hq)
    simpa using this
theorem pow3 {d : Nat} (hd : d ≤ 3) : 3 ^ d ≤ 27 := by
  have : 3 ^ d ≤ 3 ^ 3 := Nat.pow_le_pow_right (by omega) hd
  omega
/-- the answers of a test, by instances of known names f -/
theorem an_ok {D0 : Dm} {T : Tb} {acc : Int32} (hM : MC D0 T acc) {r1 r2 r3 kc d : Nat} {t : List Lt} (hW : TW D0 r2 t d) (hr2 : 81 < r2) (hr1 : 81 < r1 ∨ r1 + 1 < 78) (hr3 : r3 < 78 ∨ 81 < r3) (hk : kc ≤ 2) {f : Nat → Int32} (hf : ∀ g, g < kc → D0 r3 g = f g) (hc : okSt (D0 r1 0)) :
    Y (f_X0_answers r1 r2 r3 2 (nI kc) D0) (fun a => a.1 = rowI (fun q => okD kc (dgs d q) && ans T acc (getGo D0 r1) t (nmg 1000 f (dgs d q))) (3 ^ d) ∧ Fr SQ D0 a.2) := by
  obtain ⟨n, hn, h3, h4, hd, ht, hs⟩ := id hW
  have hp := pow3 hd
  generalize hP : (fun q => okD kc (dgs d q) && ans T acc (getGo D0 r1) t (nmg 1000 f (dgs d q))) = P
  have loop : ∀ (j i m : Nat) (D : Dm), i + j = 3 ^ d → Fr SQ D0 D → Y (f_X0_answers_12 (j + 1 + m) r1 r2 r3 2 (nI kc) (rowI P i) (nI (3 ^ d)) (nI i) D) (fun a => a.1 = rowI P (3 ^ d) ∧ Fr SQ D0 a.2) := by
    intro j
    induction j with
    | zero =>
      intro i m D hi hF
      have hi : i = 3 ^ d := by omega
      rw [hi, show 0 + 1 + m = m + 1 by omega]
      show Y (f_X0_answers_12_b _ _ _ _ _ _ _ _ _ _) _
      unfold f_X0_answers_12_b
      exact yPos (nI_le (Nat.le_refl _) (by omega)) (yRet ⟨rfl, hF⟩)
    | succ j ih =>
      intro i m D hi hF
      rw [show j + 1 + 1 + m = (j + 1 + m) + 1 by omega]
      show Y (f_X0_answers_12_b _ _ _ _ _ _ _ _ _ _) _
      unfold f_X0_answers_12_b
      refine yNeg (nI_nle2 (by omega) (by omega)) ?_
      refine yBI (nb_ok (by omega) (by omega) hk hd (by rw [hF r2 4 (by unfold SQ; omega)]; exact h4) (show i < 3 ^ d by omega)) (fun r D1 h => ?_)
      dsimp only at h
      obtain ⟨e1, hF1, hok⟩ := h
      have hF2 : Fr SQ D0 D1 := hF.tr (hF1.mono (fun j k q => by unfold SN at q; unfold SQ; omega))
      rw [e1]
      have fin : ∀ (b : Bool) (D' : Dm), P i = b → Fr SQ D0 D' → Y (f_X0_answers_114 (f_X0_answers_12 (j + 1 + m)) r1 r2 r3 2 (nI kc) (if b = true then rowI P i ||| (1 <<< (nI i &&& 31)) else rowI P i) (nI (3 ^ d)) (nI i) D') (fun a => a.1 = rowI P (3 ^ d) ∧ Fr SQ D0 a.2) := by
        intro b D' hb hF'
        unfold f_X0_answers_114
        rw [lt_d, nI_1]
        have := ih (i + 1) m D' (by omega) hF'
        rw [rowI_succ] at this
        rw [hb] at this
        exact this
      by_cases hb : okD kc (dgs d i) = true
      · obtain ⟨-, hnm⟩ := hok hb
        rw [hb]
        refine yNeg (by decide) ?_
        rw [go_copy (by omega) (by omega), bV_d]
        have g1 : getGo D1 r1 = getGo D0 r1 := by
          unfold getGo
          rw [hF2 r1 0 (by unfold SQ; omega), hF2 (r1 + 1) 0 (by unfold SQ; omega), hF2 (r1 + 1) 1 (by unfold SQ; omega)]
        have w1 : D1 (r2 + 1) = D0 (r2 + 1) := funext (fun k => hF2 _ k (by unfold SQ; omega))
        have w2 : D1 (r2 + 2) = D0 (r2 + 2) := funext (fun k => hF2 _ k (by unfold SQ; omega))
        have hs1 : ∀ k, k < n → isSy (D1 (r2 + 1) k) ∧ ∃ j, j < 3 ∧ D1 (r2 + 2) k = nI j := fun k hk => by
          rw [w1, w2]
          obtain ⟨a, j, hj, e⟩ := hs k hk
          exact ⟨a, j, by omega, e⟩
        obtain ⟨q, hq⟩ := FUs n (by omega)
        rw [hq, ← nI_0]
        rw [an46 (hM.fr (fun j k h1 h2 => hF2 j k (by unfold SQ; omega))) hn (by rw [hF2 r2 3 (by unfold SQ; omega)]; exact h3) hr2 hs1 n 0 q _ (by omega) (by rw [g1]; exact hc)]
        refine fin _ _ ?_ (hF2.go (by unfold SQ; omega) (by unfold SQ; omega) (by unfold SQ; omega))
        rw [← hP]
        show (okD kc (dgs d i) && _) = _
        rw [hb, Bool.true_and, w1, w2, g1, ht]
        unfold ans
        rw [ins_congr]
        intro a ha
        obtain ⟨k, -, hk2, rfl⟩ := lts_mem ha
        obtain ⟨-, j, hj, e⟩ := hs k (by omega)
        show _ = D1 78 (D0 (r2 + 2) k).toNatClampNeg
        show nmg 1000 f (dgs d i) (D0 (r2 + 2) k) = _
        rw [e, nmg_at (by omega), nI_clamp (by omega), hnm j hj]
        unfold dnm
        split
        · rfl
        · rename_i hz
          have h1 := dig_le hb j
          have h2 := hF r3 (dig (dgs d i) j - 1) (by unfold SQ; omega)
          rw [h2, hf _ (by omega)]
      · have hb : okD kc (dgs d i) = false := by simpa using hb
        rw [hb]
        refine yPos rfl ?_
        exact fin false D1 (by rw [← hP]; show (okD kc (dgs d i) && _) = _; rw [hb]; rfl) hF2
  unfold f_X0_answers
  rw [ci_ok h4 hd, bI_d]
  obtain ⟨q, hq⟩ := FUs (3 ^ d) (by omega)
  have := loop (3 ^ d) 0 q D0 (by omega) Fr.refl
  rw [nI_0] at this
  rw [hq]
  exact this
