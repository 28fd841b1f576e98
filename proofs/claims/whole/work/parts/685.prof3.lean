/-- a word of the class that is looked at: letters, how many names -/
def WW (D : Dm) (w : Nat) (l : List Lt) (M : Nat) : Prop := ∃ n, n ≤ 20 ∧ D w 3 = nI n ∧ l = lts (D (w + 1)) (D (w + 2)) 0 n ∧ ∀ k, k < n → isSy (D (w + 1) k) ∧ ∃ j, j < M ∧ D (w + 2) k = nI j
theorem WW.fr {D D' : Dm} {w M : Nat} {l : List Lt} (h : WW D w l M) (hF : ∀ j k, w ≤ j → j ≤ w + 2 → D' j k = D j k) : WW D' w l M := by
  obtain ⟨n, h1, h2, h5, h6⟩ := h
  have e1 : D' (w + 1) = D (w + 1) := funext (fun k => hF _ k (by omega) (by omega))
  have e2 : D' (w + 2) = D (w + 2) := funext (fun k => hF _ k (by omega) (by omega))
  refine ⟨n, h1, by rw [hF w 3 (by omega) (by omega), h2], ?_, ?_⟩
  · rw [e1, e2]; exact h5
  · rw [e1, e2]; exact h6
abbrev c0 : Cf := (0, -1, -1)
theorem WW.sy {D : Dm} {w M : Nat} {l : List Lt} (h : WW D w l M) : ∀ a ∈ l, isSy a.1 ∧ ∃ j, j < M ∧ a.2 = nI j := by
  obtain ⟨n, h1, h2, h5, h6⟩ := h
  intro a ha
  rw [h5] at ha
  obtain ⟨k, -, hk, rfl⟩ := lts_mem ha
  exact h6 k (by omega)
theorem c0_ok : okSt c0.1 := Or.inr (Or.inl rfl)
theorem run_okC {T : Tb} {M : Nat} {l : List Lt} (h : ∀ a ∈ l, ∃ j, j < M ∧ a.2 = nI j) : okC (run T c0 l) M :=
  run_in (S := fun x => x = -1 ∨ ∃ k, k < M ∧ x = nI k) (Or.inl rfl) (fun a ha => Or.inr (h a ha)) ⟨Or.inl rfl, Or.inl rfl⟩
theorem WW.cf {D : Dm} {w M : Nat} {l : List Lt} (h : WW D w l M) {T : Tb} (hT : wfT T) : okSt (run T c0 l).1 ∧ okC (run T c0 l) M :=
  ⟨run_ok hT c0_ok (fun a ha => (h.sy a ha).1), run_okC (fun a ha => (h.sy a ha).2)⟩
theorem lk36 {D0 : Dm} {ts : Tst} {b r0 : Nat} {T : Tb} {acc : Int32} {c : Cf} (hM : MC D0 T acc) (hS : TS D0 ts b) (hr : (12 < r0 ∧ r0 + 9 < 76) ∨ 121 < r0) (hh : PRh D0 r0 c) (hst : okSt c.1) (hl : (hsN c).length ≤ 2) :
    ∀ (j i m : Nat) (D : Dm), i + j = b → Fr (fun j k => j = r0 + 4 ∨ j = r0 + 5 ∨ (78 ≤ j ∧ j ≤ 81)) D0 D → (∀ e, e < (hsN c).length → shOK D r0 e (shE1 T acc ts c i e)) →
      Y (f_X6_look_36 (j + 1 + m) r0 (nI i) D) (fun D => Fr (SP r0) D0 D ∧ PR D r0 T acc ts b c) := by
  obtain ⟨hb, h76, hW⟩ := id hS
  have fr1 : ∀ {D : Dm}, Fr (fun j k => j = r0 + 4 ∨ j = r0 + 5 ∨ (78 ≤ j ∧ j ≤ 81)) D0 D → MC D T acc ∧ TS D ts b ∧ PRh D r0 c := fun hF => ⟨hM.fr (fun j k h1 h2 => hF j k (by omega)), hS.fr (fun j k h => hF j k (by omega)), hh.fr (funext fun k => hF _ k (by omega)) (funext fun k => hF _ k (by omega)) (funext fun k => hF _ k (by omega)) (hF _ _ (by omega))⟩
  have fin : ∀ (D : Dm), Fr (fun j k => j = r0 + 4 ∨ j = r0 + 5 ∨ (78 ≤ j ∧ j ≤ 81)) D0 D → (∀ e, e < (hsN c).length → shOK D r0 e (shE1 T acc ts c b e)) → Y (f_X6_look_85 r0 D) (fun D => Fr (SP r0) D0 D ∧ PR D r0 T acc ts b c) := by
    intro D hF hsh
    obtain ⟨hM1, hS1, hh1⟩ := fr1 hF
    unfold f_X6_look_85
    refine yBV (gk_ok (T := T) (acc := acc) (ts := ts) (b := b) hh1 hl hsh) (fun D1 h => ?_)
    obtain ⟨hF1, hk, t0, t1⟩ := h
    refine yLt (fun D2 hD2 => ?_)
    have hF2 : Fr (fun j k => j = r0 ∧ (k = 6 ∨ k = 10) ∨ j = r0 + 6 ∨ j = r0 + 7) D D2 := by
      rw [hD2]; exact (hF1.mono (fun j k q => by omega)).ud (by omega)
    have o : ∀ j k, ¬ (j = r0 ∧ k = 10) → D2 j k = D1 j k := fun j k q => by rw [hD2, ud_at, if_neg q]
    obtain ⟨q, hq⟩ := FUs b (by omega)
    have := lk99 (D0 := D2) (T := T) (acc := acc) (ts := ts) (b := b) (r0 := r0) (c := c) (hM1.fr (fun j k h1 h2 => hF2 j k (by omega))) (hS1.fr (fun j k h => hF2 j k (by omega))) hr (hh1.fr (funext fun k => hF2 _ k (by omega)) (funext fun k => hF2 _ k (by omega)) (funext fun k => hF2 _ k (by omega)) (hF2 _ _ (by omega))) hst hl (fun e he => shOK_fr (hsh e he) (hF2 _ _ (by omega)) (hF2 _ _ (by omega))) ⟨by rw [o _ _ (by omega)]; exact hk.1, fun i hi => by rw [o _ _ (by omega)]; exact hk.2 i hi⟩ (by rw [o _ _ (by omega), o _ _ (by omega)]; exact t0) (by rw [o _ _ (by omega), o _ _ (by omega)]; exact t1) (by rw [hD2, ud_at, if_pos ⟨rfl, rfl⟩, hF1 76 2 (by omega)]; exact hS1.2.1) b 0 q D2 (by omega) Fr.refl (fun t ht => absurd ht (Nat.not_lt_zero t))
    rw [nI_0] at this
    rw [hq]
    refine yMono this (fun D3 h3 => ⟨?_, h3.2⟩)
    exact (hF.mono (fun j k q => by unfold SP; omega)).tr ((hF2.mono (fun j k q => by unfold SP; omega)).tr h3.1)
  intro j
  induction j with
  | zero =>
    intro i m D hi hF hsh
    have hi : i = b := by omega
    rw [hi] at hsh ⊢
    rw [show 0 + 1 + m = m + 1 by omega]
    show Y (f_X6_look_36_b _ _ _ _) _
    unfold f_X6_look_36_b
    rw [(fr1 hF).2.1.2.1]
    exact yPos (nI_le (Nat.le_refl _) (by omega)) (fin D hF hsh)
  | succ j ih =>
    intro i m D hi hF hsh
    rw [show j + 1 + 1 + m = (j + 1 + m) + 1 by omega]
    show Y (f_X6_look_36_b _ _ _ _) _
    unfold f_X6_look_36_b
    obtain ⟨hM1, hS1, hh1⟩ := fr1 hF
    rw [hS1.2.1, hh1.2.1]
    refine yNeg (nI_nle2 (by omega) (by omega)) (yIte (fun h => ?_) (fun h => ?_))
    · refine fin D hF (fun e he => ?_)
      rw [← nI_0, nI_leI (by omega) (by omega)] at h
      omega
    · refine yGd (inB_nI (by omega) (by omega)) ?_
      rw [nI_clamp (show i < 2 ^ 31 by omega), ar77 i (by omega)]
      have ost : okSt (D (r0 + 1) 0) := by
        show okSt (getGo D (r0 + 1)).1
        rw [hh1.1]; exact hst
      refine yBI (an_ok hM1 (hS1.2.2 i (by omega)) (by omega) (by omega) (by omega) hl (f := lnm (hsN c)) (fun g hg => hh1.2.2 g hg) ost) (fun r D1 h => ?_)
      dsimp only at h
      obtain ⟨e1, hF1⟩ := h
      rw [hh1.1] at e1
      have hF2 : Fr (fun j k => j = r0 + 4 ∨ j = r0 + 5 ∨ (78 ≤ j ∧ j ≤ 81)) D0 D1 := hF.tr (hF1.mono (fun j k q => by unfold SQ at q; omega))
      obtain ⟨hM2, hS2, hh2⟩ := fr1 hF2
      refine yBV (ns_ok (T := T) (acc := acc) hS2 (show i < b by omega) (by omega) hh2 hl e1 (fun e he => shOK_fr (hsh e he) (hF1 _ _ (by unfold SQ; omega)) (hF1 _ _ (by unfold SQ; omega)))) (fun D2 h => ?_)
      obtain ⟨hF3, hsh2⟩ := h
      rw [lt_d, nI_1]
      exact ih (i + 1) m D2 (by omega) (hF2.tr (hF3.mono (fun j k q => by omega))) hsh2
/-- a word is looked at -/
theorem look_ok {D : Dm} {ts : Tst} {b r0 r2 M : Nat} {T : Tb} {acc : Int32} {l : List Lt} (hM : MC D T acc) (hS : TS D ts b) (hr : (12 < r0 ∧ r0 + 9 < 64) ∨ 121 < r0) (hr2 : r2 = 64 ∨ 121 < r2) (hd : r2 + 3 < r0 ∨ r0 + 9 < r2) (hW : WW D r2 l M) (hM5 : M < 5) : Y (f_X6_look r0 r2 D) (fun D' => Fr (SP r0) D D' ∧ PR D' r0 T acc ts b (run T c0 l)) := by
  obtain ⟨hst, hc⟩ := hW.cf hM.wfT (T := T)
  obtain ⟨n, hn, h3, hl, hs⟩ := id hW
  have hh := hsN_in hM5 hc
  have hle := (hss_in M hM5 _ hh).1
  unfold f_X6_look
  rw [h3, walk_ok (a := n) (b := n) hn hn h3 hM.1 (fun j hj => by omega) (fun k hk => (hs k (by omega)).1), Nat.min_self, bV_d]
  rw [show run (D (9 + 1), D (9 + 2), D (9 + 3)) (0, -1, -1) (lts (D (r2 + 1)) (D (r2 + 2)) 0 n) = run T c0 l by rw [hM.2.1, hl]]
  generalize hcc : run T c0 l = c at *
  have g0 : getGo (setGo D (r0 + 1) c) (r0 + 1) = c := getGo_set
  rw [gh_ok (M := M) (c := c) (congrArg (fun c : Cf => c.2.1) g0) (congrArg (fun c : Cf => c.2.2) g0) (by omega) hc, bV_d]
  obtain ⟨hp, hF⟩ := hl2_ok (M := M) (D := setGo D (r0 + 1) c) (r0 := r0) g0 hle
  generalize hl2' : hl2 (setGo D (r0 + 1) c) r0 (hsN c) = D1 at *
  have hF1 : Fr (SP r0) D D1 := (Fr.refl.go (by unfold SP; omega) (by unfold SP; omega) (by unfold SP; omega)).tr (hF.mono (fun j k q => by unfold SP; omega))
  refine yLt0 (yLt (fun D2 hD2 => ?_))
  have hF2 : Fr (fun j k => j = r0 + 4) D1 D2 := by rw [hD2]; exact Fr.ud (S := fun j k => j = r0 + 4) (Fr.ud (S := fun j k => j = r0 + 4) Fr.refl rfl) rfl
  have hF3 : Fr (SP r0) D D2 := hF1.tr (hF2.mono (fun j k q => by unfold SP; omega))
  obtain ⟨q, hq⟩ := FUs b (by have := hS.1; omega)
  have := lk36 (D0 := D2) (T := T) (acc := acc) (ts := ts) (b := b) (r0 := r0) (c := c) (hM.fr (fun j k h1 h2 => hF3 j k (by unfold SP; omega))) (hS.fr (fun j k h => hF3 j k (by unfold SP; omega))) (by omega) (hp.fr (funext fun k => hF2 _ k (by omega)) (funext fun k => hF2 _ k (by omega)) (funext fun k => hF2 _ k (by omega)) (hF2 _ _ (by omega))) hst hle b 0 q D2 (by omega) Fr.refl (fun e he => ?_)
  · rw [nI_0] at this
    rw [hq]
    exact yMono this (fun D3 h3 => ⟨hF3.tr h3.1, h3.2⟩)
  · show D2 (r0 + 4) e = -1
    have : e = 0 ∨ e = 1 := by omega
    rcases this with rfl | rfl
    · rw [hD2, ud_at, if_neg (by omega), ud_at, if_pos ⟨rfl, rfl⟩]
    · rw [hD2, ud_at, if_pos ⟨rfl, rfl⟩]
theorem PR.fr {D D' : Dm} {r0 : Nat} {T : Tb} {acc : Int32} {ts : Tst} {b : Nat} {c : Cf} (h : PR D r0 T acc ts b c) (hF : ∀ j k, r0 ≤ j → j ≤ r0 + 9 → D' j k = D j k) : PR D' r0 T acc ts b c := by
  refine ⟨h.h.fr (funext fun k => hF _ k (by omega) (by omega)) (funext fun k => hF _ k (by omega) (by omega)) (funext fun k => hF _ k (by omega) (by omega)) (hF _ _ (by omega) (by omega)), fun e he => shOK_fr (h.s e he) (hF _ _ (by omega) (by omega)) (hF _ _ (by omega) (by omega)), ⟨?_, fun i hi => ?_⟩, ?_, fun t ht => ?_⟩
  · rw [hF _ _ (by omega) (by omega)]; exact h.k.1
  · rw [hF _ _ (by omega) (by omega)]; exact h.k.2 i hi
  · rw [hF _ _ (by omega) (by omega)]; exact h.rc
  · rw [hF _ _ (by omega) (by omega), hF _ _ (by omega) (by omega)]; exact h.rows t ht
