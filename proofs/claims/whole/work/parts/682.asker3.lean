def oI (o : Option Nat) : Int32 := match o with
  | some q => nI q
  | none => -1
theorem nI_sub {a b : Nat} (h : b ≤ a) : nI a - nI b = nI (a - b) := by
  obtain ⟨c, rfl⟩ := Nat.le.dest h
  rw [← nI_add, Nat.add_sub_cancel_left]
  rw [Int32.add_comm, Int32.add_sub_cancel]
theorem contains_iff {g : Nat} {l : List Nat} : l.contains g = true ↔ g ∈ l := List.contains_iff_mem
/-- the first instance that shows a name -/
theorem fs_ok {D0 : Dm} {r2 r4 kc d g : Nat} {A : List Nat → Bool} (h4 : D0 r2 4 = nI d) (hd : d ≤ 3) (hr2 : 79 < r2) (hr4 : r4 < 78 ∨ 79 < r4) (hk : kc ≤ 2) (hg : g = 1 ∨ g = 2) {row : Int32} (hrow : row = rowI (fun q => okD kc (dgs d q) && A (dgs d q)) (3 ^ d)) :
    Y (f_X0_firstShowing row r2 (nI g) r4 2 (nI kc) D0) (fun a => a.1 = oI (fst1 (fun q => okD kc (dgs d q) && shB A g (dgs d q)) (3 ^ d)) ∧ Fr SN D0 a.2) := by
  have hp := pow3 hd
  generalize hP : (fun q => okD kc (dgs d q) && shB A g (dgs d q)) = P
  have loop : ∀ (j i m : Nat) (D : Dm), i + j = 3 ^ d → fst1 P i = none → Fr SN D0 D → Y (f_X0_firstShowing_9 (j + 1 + m) row r2 (nI g) r4 2 (nI kc) (nI (3 ^ d)) (nI i) D) (fun a => a.1 = oI (fst1 P (3 ^ d)) ∧ Fr SN D0 a.2) := by
    intro j
    induction j with
    | zero =>
      intro i m D hi hn hF
      have hi : i = 3 ^ d := by omega
      rw [hi] at hn ⊢
      rw [show 0 + 1 + m = m + 1 by omega]
      show Y (f_X0_firstShowing_9_b _ _ _ _ _ _ _ _ _ _) _
      unfold f_X0_firstShowing_9_b
      exact yPos (nI_le (Nat.le_refl _) (by omega)) (yRet ⟨by rw [hn]; rfl, hF⟩)
    | succ j ih =>
      intro i m D hi hn hF
      rw [show j + 1 + 1 + m = (j + 1 + m) + 1 by omega]
      show Y (f_X0_firstShowing_9_b _ _ _ _ _ _ _ _ _ _) _
      unfold f_X0_firstShowing_9_b
      refine yNeg (nI_nle2 (by omega) (by omega)) ?_
      refine yBI (nb_ok (by omega) (by omega) hk hd (by rw [hF r2 4 (by unfold SN; omega)]; exact h4) (show i < 3 ^ d by omega)) (fun r D1 h => ?_)
      dsimp only at h
      obtain ⟨e1, hF1, hok⟩ := h
      have hF2 : Fr SN D0 D1 := hF.tr hF1
      rw [e1]
      have nxt : P i = false → Y (f_X0_firstShowing_70 (f_X0_firstShowing_9 (j + 1 + m)) row r2 (nI g) r4 2 (nI kc) (nI (3 ^ d)) (nI i) D1) (fun a => a.1 = oI (fst1 P (3 ^ d)) ∧ Fr SN D0 a.2) := by
        intro hb
        unfold f_X0_firstShowing_70
        rw [lt_d, nI_1]
        refine ih (i + 1) m D1 (by omega) ?_ hF2
        rw [fst1_succ, hn, hb]
        rfl
      have ePi : P i = (okD kc (dgs d i) && shB A g (dgs d i)) := by rw [← hP]
      by_cases hb : okD kc (dgs d i) = true
      · obtain ⟨hw, -⟩ := hok hb
        obtain ⟨hb2, hbz⟩ := okD_mono kc (by omega) d (by omega) i (by omega) hb
        obtain ⟨w0, w1⟩ := wt_zap d (by omega) i (by omega) g (by omega) (by omega) hb2
        rw [hb]
        refine yNeg (by decide) (yGd (inB_nI (by omega) (by omega)) ?_)
        rw [nI_clamp (by omega), hw g hg]
        have wl : wtS (dgs d i) g ≤ 27 := by
          have h1 := wtS_le (g := g) (l := dgs d i)
          rw [dgs_len] at h1
          omega
        refine yIte (fun h => nxt ?_) (fun h => yGd (inB_nI (by omega) (by omega)) ?_)
        · rw [← nI_0, nI_eq (by omega) (by omega)] at h
          rw [ePi, shB, w0.mp h]
          simp
        · have hc : (dgs d i).contains g = true := by
            cases hc : (dgs d i).contains g with
            | true => rfl
            | false => exact absurd (by rw [w0.mpr hc, nI_0]) h
          obtain ⟨v1, v2, v3⟩ := w1 hc
          rw [lt_d, nI_mul, nI_sub v1, hrow, row_bit (by omega) (show i < 3 ^ d by omega), row_bit (by omega) (show i - g * wtS (dgs d i) g < 3 ^ d by omega), v2, hb, hbz g (by omega), Bool.true_and, Bool.true_and]
          rw [hb, shB, hc, Bool.true_and, Bool.true_and] at ePi
          refine yIte (fun h => ?_) (fun h => yRet ⟨?_, hF2⟩)
          · rw [← hrow]
            refine nxt ?_
            rw [ePi]
            cases h1 : A (dgs d i) <;> cases h2 : A (zap g (dgs d i)) <;> rw [h1, h2] at h <;> simp at h ⊢
          · have hp : P i = true := by
              rw [ePi]
              cases h1 : A (dgs d i) <;> cases h2 : A (zap g (dgs d i)) <;> rw [h1, h2] at h <;> simp at h ⊢
            have : fst1 P (i + 1) = some i := by rw [fst1_succ, hn, hp]; rfl
            have mono : ∀ k, fst1 P (i + 1 + k) = some i := by
              intro k
              induction k with
              | zero => exact this
              | succ k ihk => rw [← Nat.add_assoc, fst1_succ, ihk]
            have := mono (3 ^ d - (i + 1))
            rw [show i + 1 + (3 ^ d - (i + 1)) = 3 ^ d by omega] at this
            rw [this]
            rfl
      · have hb : okD kc (dgs d i) = false := by simpa using hb
        rw [hb]
        exact yPos rfl (nxt (by rw [ePi, hb]; rfl))
  unfold f_X0_firstShowing
  rw [ci_ok h4 hd, bI_d]
  obtain ⟨q, hq⟩ := FUs (3 ^ d) (by omega)
  have := loop (3 ^ d) 0 q D0 (by omega) rfl Fr.refl
  rw [nI_0] at this
  rw [hq]
  exact this
