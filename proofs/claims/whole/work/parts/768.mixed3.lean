/-! ===== mixed words of the reference ===== -/
theorem mx_r {ku : List Nat} {c : Cf} {j : Nat} (hl : ku.length ≤ 2) (hk : ∀ p ∈ ku, p < 100) (hj : j < 100) : mxv ku c 100 (nI j) = if nI j = (if 0 < ku.length then lnm ku 0 else -1) then c.2.1 else if nI j = (if 1 < ku.length then lnm ku 1 else -1) then c.2.2 else 100 + nI j := by
  unfold mxv
  rw [nI_clamp (by omega)]
  have nj : nI j ≠ -1 := nI_n1 (by omega)
  have n1 : (0 : Int32) ≠ -1 := by decide
  have n2 : (1 : Int32) ≠ -1 := by decide
  have n6 : (1 : Int32) ≠ 0 := by decide
  have e1 : nI 1 = 1 := rfl
  have e100 : nI 100 = 100 := rfl
  have inj : ∀ p, p < 100 → (nI j = nI p ↔ p = j) := fun p hp => ⟨fun e => (nI_inj (by omega) (by omega) e).symm, fun e => by rw [e]⟩
  rcases ku with _ | ⟨p, _ | ⟨q, _ | ⟨t, l⟩⟩⟩
  · simp [plI, plc1, oI, nj, e100]
  · have hp := inj p (hk p (by simp))
    by_cases c1 : p = j
    · simp [plI, plc1, oI, lnm, hp, c1, nI_0, n1]
    · simp [plI, plc1, oI, lnm, hp, c1, nj, e100]
  · have hp := inj p (hk p (by simp))
    have hq := inj q (hk q (by simp))
    by_cases c1 : p = j
    · simp [plI, plc1, oI, lnm, hp, c1, nI_0, n1]
    · by_cases c2 : q = j
      · simp [plI, plc1, oI, lnm, hp, hq, c1, c2, nI_0, n2, n6, e1]
      · simp [plI, plc1, oI, lnm, hp, hq, c1, c2, e100]
  · simp at hl
/-- a word of the reference at 308 -/
def WR (D : Dm) (w : List Lt) : Prop := w.length ≤ 20 ∧ D 281 64 = nI w.length ∧ ∀ p, p < w.length → D 308 p = (w.getD p (0, 0)).1 ∧ D 309 p = (w.getD p (0, 0)).2
def LTR (Z : Nat) (w : List Lt) : Prop := ∀ x ∈ w, ∃ y k, y < Z ∧ k < 20 ∧ x = (nI y, nI k)
def PFX (H : Dm) (T : Tb) (acc : Int32) (ts : Tst) (b : Nat) (ss : Tst) (a : Nat) (w : List Lt) : Prop := ∀ p, p ≤ w.length → ∃ u, u < a ∧ ((w.take p).foldl (hst (hyp H)) c0).1 = nI u ∧ hreg (kaN T acc ts b ss u) ((w.take p).foldl (hst (hyp H)) c0) ∧ okC ((w.take p).foldl (hst (hyp H)) c0) 20
abbrev SMG (j k : Nat) : Prop := j = 299 ∨ j = 300 ∨ (j = 281 ∧ (k = 36 ∨ (66 ≤ k ∧ k ≤ 68) ∨ (3 ≤ k ∧ k ≤ 5)))
section
variable {D0 : Dm} {T : Tb} {acc : Int32} {ts ss : Tst} {b a Z : Nat} {w : List Lt}
theorem WR.fr {D : Dm} (h : WR D0 w) (hF : Fr SMG D0 D) : WR D w := ⟨h.1, by rw [hF _ _ (by unfold SMG; omega)]; exact h.2.1, fun p hp => by rw [hF _ _ (by unfold SMG; omega), hF _ _ (by unfold SMG; omega)]; exact h.2.2 p hp⟩
theorem mg128 (hM : MR D0 0 T acc) (hW : WR D0 w) (hZ : Z ≤ 2) (hL : LTR Z w) {L : List Lt} (hlen : L.length ≤ 40) : ∀ (j p m : Nat) (D : Dm) (l : List Lt) (M : Nat), p + j = w.length → Fr SMG D0 D → LKm D l M → l ++ w.drop p = L → Y (f_X12_isMixedGood_128 (j + 1 + m) (nI p) D) (fun r => r.1 = b01 (tk acc (run T c0 L)) ∧ Fr SMG D0 r.2) := by
  intro j
  induction j with
  | zero =>
    intro p m D l M hp hF hK hl
    have hp : p = w.length := by omega
    have hWD := hW.fr hF
    rw [show 0 + 1 + m = m + 1 by omega]
    show Y (f_X12_isMixedGood_128_b _ _ _) _
    unfold f_X12_isMixedGood_128_b
    rw [hWD.2.1]
    refine yPos (by rw [hp]; exact nI_le (Nat.le_refl _) (by have := hW.1; omega)) ?_
    obtain ⟨n, k1, k2, k3, k4, -⟩ := hK
    have hMD : MR D 0 T acc := hM.fr (fun q => hF _ _ (by unfold SMG; omega))
    rw [runs_ok hMD k1 k2 (fun k hk => (k4 k hk).1), bV_d, (hMD.fr (fun q => by rw [setR_ne (by decide)])).acc mc0, bI_d, getR_set, ← k3]
    rw [hp, List.drop_length, List.append_nil] at hl
    rw [hl]
    refine yGd ?_ (yRet ⟨rfl, hF.r (by unfold SMG; omega) (by unfold SMG; omega) (by unfold SMG; omega)⟩)
    cases tk acc (run T c0 L) <;> decide
  | succ j ih =>
    intro p m D l M hp hF hK hl
    have hpl : p < w.length := by omega
    have hWD := hW.fr hF
    rw [show j + 1 + 1 + m = (j + 1 + m) + 1 by omega]
    show Y (f_X12_isMixedGood_128_b _ _ _) _
    unfold f_X12_isMixedGood_128_b
    have w20 := hW.1
    rw [hWD.2.1]
    refine yNeg (nI_nle2 (by omega) (by omega)) (yGd (inB_nI (by omega) (by omega)) (yGd (inB_nI (by omega) (by omega)) ?_))
    obtain ⟨y, k, hy, hk, e⟩ := hL _ (getD_mem hpl)
    rw [nI_clamp (by omega), (hWD.2.2 p hpl).1, (hWD.2.2 p hpl).2, e]
    have l40 : l.length < 40 := by
      have : (l ++ w.drop p).length = l.length + (w.length - p) := by rw [List.length_append, List.length_drop]
      rw [hl] at this; omega
    refine yBV (takesLetter_ok hK l40 (isSy_n (by omega)) (show k < 1000 by omega) rfl) (fun D1 h1 => ?_)
    rw [lt_d, nI_1]
    refine ih (p + 1) m D1 _ _ (by omega) (hF.tr (h1.1.mono (fun j k q => by unfold SMG; omega))) h1.2 ?_
    rw [← hl, drop_s hpl, e, List.append_assoc]; rfl
/-- what the reference does behind the hypothesis's walk -/
def mgT (x1 : Int32) (D : Dm) : Option (Int32 × Dm) := bI (f_X12_hasShort (D 281 66) D) fun y4 D2 => bV (f_X12_takesShort (D2 281 66) D2) fun D5 => f_X12_isMixedGood_55 FU x1 y4 0 D5
theorem mg9 (h : STN D0 T acc ts b ss a Z) (hZ : Z ≤ 2) {H : Dm} (hB : TBL H T acc ts b ss a Z (fun _ _ _ => True)) (hW : WR D0 w) (hL : LTR Z w) (hP : PFX H T acc ts b ss a w) {i : Nat} (hi : i ≤ w.length) {Q : Int32 × Dm → Prop} (hk : ∀ D, Fr (fun j k => j = 281 ∧ (66 ≤ k ∧ k ≤ 68)) D0 D → gGue D = (w.take i).foldl (hst (hyp H)) c0 → Y (mgT (nI i) D) Q) : ∀ (j p m : Nat) (D : Dm), p + j = i → Fr (fun j k => j = 281 ∧ (66 ≤ k ∧ k ≤ 68)) D0 D → gGue D = (w.take p).foldl (hst (hyp H)) c0 → Y (f_X12_isMixedGood_9 (j + 1 + m) (nI i) (nI p) D) Q := by
  intro j
  induction j with
  | zero =>
    intro p m D hp hF hg
    have hp : p = i := by omega
    rw [show 0 + 1 + m = m + 1 by omega]
    show Y (f_X12_isMixedGood_9_b _ _ _ _) _
    unfold f_X12_isMixedGood_9_b
    have w20 := hW.1
    rw [hp] at hg ⊢
    exact yPos (nI_le (Nat.le_refl _) (by omega)) (hk D hF hg)
  | succ j ih =>
    intro p m D hp hF hg
    have hpl : p < w.length := by omega
    have w20 := hW.1
    have hD : STN D T acc ts b ss a Z := h.fr (fun j k q => hF j k (by omega))
    have hWD : WR D w := hW.fr (hF.mono (fun j k q => by unfold SMG; omega))
    rw [show j + 1 + 1 + m = (j + 1 + m) + 1 by omega]
    show Y (f_X12_isMixedGood_9_b _ _ _ _) _
    unfold f_X12_isMixedGood_9_b
    refine yNeg (nI_nle2 (by omega) (by omega)) (yGd (inB_nI (by omega) (by omega)) (yGd (inB_nI (by omega) (by omega)) ?_))
    obtain ⟨y, k, hy, hk', e⟩ := hL _ (getD_mem hpl)
    obtain ⟨u, hu, hc, hr, ho⟩ := hP p (by omega)
    rw [nI_clamp (by omega), (hWD.2.2 p hpl).1, (hWD.2.2 p hpl).2, e, guessGoes_ok hD hZ hu hy (show k < 2 ^ 31 - 1 by omega) hg hc hr, bV_d, lt_d, nI_1]
    refine ih (p + 1) m _ (by omega) (hF.tr setG_fr) ?_
    rw [gGue_set, take_s hpl, List.foldl_append, e, ← hst_eq hD.1.2.2.1 hD.1.1.1 hZ hD.2.2.1 hB hu hy (show k < 2 ^ 31 - 1 by omega) hc hr]
    rfl
end
