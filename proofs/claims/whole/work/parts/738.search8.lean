/-! ===== the class's search: the word is spelt ===== -/
def anc (N : List Nd) : Nat → Nat → Nat
  | 0, i => i
  | d + 1, i => nP (N.getD (anc N d i) nd0)
theorem anc_ok {G : Cf → Cf → Nat → Prop} {N : List Nd} (h : okN G N) {i : Nat} (hi : i < N.length) : ∀ d, d ≤ nN (N.getD i nd0) → anc N d i < N.length ∧ nN (N.getD (anc N d i) nd0) = nN (N.getD i nd0) - d ∧ (d < nN (N.getD i nd0) → 0 < anc N d i) := by
  intro d
  have pos : ∀ j, j < N.length → 0 < nN (N.getD j nd0) → 0 < j := fun j hj hp => by
    rcases Nat.eq_zero_or_pos j with e | e
    · rw [e, h.2.2.1] at hp; omega
    · exact e
  induction d with
  | zero => intro _; exact ⟨hi, rfl, fun q => pos i hi q⟩
  | succ d ih =>
    intro hd
    obtain ⟨h1, h2, h3⟩ := ih (by omega)
    obtain ⟨z1, z2, -⟩ := h.2.2.2.2 _ (h3 (by omega)) h1
    have e : nN (N.getD (nP (N.getD (anc N d i) nd0)) nd0) = nN (N.getD i nd0) - (d + 1) := by omega
    exact ⟨by show nP _ < _; omega, e, fun q => pos _ (by show nP _ < _; omega) (by show 0 < nN (N.getD (nP _) nd0); omega)⟩
/-- letter p of the word of node i -/
def pl (N : List Nd) (i p : Nat) : Lt := nL (N.getD (anc N (nN (N.getD i nd0) - 1 - p) i) nd0)
theorem pl_ok {G : Cf → Cf → Nat → Prop} {N : List Nd} (h : okN G N) {i p : Nat} (hi : i < N.length) (hp : p < nN (N.getD i nd0)) : ∃ y k, y < 2 ∧ k < 20 ∧ pl N i p = (nI y, nI k) := by
  obtain ⟨h1, h2, h3⟩ := anc_ok h hi (nN (N.getD i nd0) - 1 - p) (by omega)
  exact (h.2.2.2.2 _ (h3 (by omega)) h1).2.2
theorem lt1000 : ∀ y, y < 2 → ∀ k, k < 20 → (nI y * 1000 + nI k) / 1000 = nI y ∧ (nI y * 1000 + nI k) - (nI y * 1000 + nI k) / 1000 * 1000 = nI k := by decide +kernel
/-- the word at w is that of node i -/
def spW (D : Dm) (w : Nat) (N : List Nd) (i : Nat) : Prop := isW D w (nN (N.getD i nd0)) ∧ ∀ p, p < nN (N.getD i nd0) → D (w + 1) p = (pl N i p).1 ∧ D (w + 2) p = (pl N i p).2
theorem spell_ok {G : Cf → Cf → Nat → Prop} {N : List Nd} (h : okN G N) {D : Dm} (hR : RC D N) {w last : Nat} (hl : last < N.length) (hw : 42 < w) (hW : isW D w 0) : Y (f_X8_spell (nI last) w D) (fun D' => Fr (fun j k => j = 42 ∨ (w ≤ j ∧ j ≤ w + 3)) D D' ∧ spW D' w N last) := by
  have hlen := hR.1
  have hn20 := (h.2.2.2.1 last hl).2.2
  generalize hn : nN (N.getD last nd0) = n at *
  have hpl : ∀ p, p < n → ∃ y k, y < 2 ∧ k < 20 ∧ pl N last p = (nI y, nI k) := fun p hp => pl_ok h hl (by rw [hn]; exact hp)
  -- the word, from the path
  have s57 : ∀ (D0 : Dm), (∀ p, p < n → D0 42 p = (pl N last p).1 * 1000 + (pl N last p).2) → isW D0 w 0 → ∀ (j i m : Nat) (D' : Dm), i + j = n → cpW D0 D' w i (fun p => (pl N last p).1) (fun p => (pl N last p).2) → Y (f_X8_spell_57 (j + 1 + m) w (nI n) (nI i) D') (fun D2 => cpW D0 D2 w n (fun p => (pl N last p).1) (fun p => (pl N last p).2)) := by
    intro D0 hp hW0 j
    induction j with
    | zero =>
      intro i m D' hi hc
      have hi : i = n := by omega
      rw [show 0 + 1 + m = m + 1 by omega]
      show Y (f_X8_spell_57_b _ _ _ _ _) _
      unfold f_X8_spell_57_b
      rw [hi] at hc ⊢
      exact yPos (nI_le (Nat.le_refl _) (by omega)) (yRet hc)
    | succ j ih =>
      intro i m D' hi hc
      rw [show j + 1 + 1 + m = (j + 1 + m) + 1 by omega]
      show Y (f_X8_spell_57_b _ _ _ _ _) _
      unfold f_X8_spell_57_b
      obtain ⟨y, k, hy, hk, e⟩ := hpl i (by omega)
      obtain ⟨a1, a2⟩ := cpW_add hc (show i < 20 by omega)
      rw [nI_clamp (by omega), hc.2.2 42 i (by omega), hp i (by omega), e]
      refine yNeg (nI_nle2 (by omega) (by omega)) (yGd (inB_nI (by omega) (by omega)) (yGd (inB_nI (by omega) (by omega)) ?_))
      rw [(lt1000 y hy k hk).2, (lt1000 y hy k hk).1]
      rw [e] at a1 a2
      rw [a1, bV_d, lt_d, nI_1]
      exact ih (i + 1) m _ (by omega) a2
  have s15 : ∀ (j m : Nat) (D1 : Dm), j ≤ n → Fr (fun j k => j = 42) D D1 → (∀ p, j ≤ p → p < n → D1 42 p = (pl N last p).1 * 1000 + (pl N last p).2) → Y (f_X8_spell_15 (j + 1 + m) w (nI n) (nI (anc N (n - j) last)) (nI j - 1) D1) (fun D' => Fr (fun j k => j = 42 ∨ (w ≤ j ∧ j ≤ w + 3)) D D' ∧ spW D' w N last) := by
    intro j
    induction j with
    | zero =>
      intro m D1 hj hF hp
      rw [show 0 + 1 + m = m + 1 by omega]
      show Y (f_X8_spell_15_b _ _ _ _ _ _) _
      unfold f_X8_spell_15_b f_X8_spell_54
      refine yPos (by decide) ?_
      obtain ⟨q, hq⟩ := FUs n (by omega)
      have hW1 : isW D1 w 0 := isW_congr hW (hF _ _ (by omega)) (hF _ _ (by omega)) (fun k hk => absurd hk (Nat.not_lt_zero k)) (fun k hk => absurd hk (Nat.not_lt_zero k))
      have := s57 D1 (fun p hp2 => hp p (by omega) hp2) hW1 n 0 q D1 (by omega) ⟨hW1, fun k hk => absurd hk (Nat.not_lt_zero k), fun _ _ _ => rfl⟩
      rw [nI_0] at this
      rw [hq]
      refine yMono this (fun D2 h2 => ⟨fun j k hj => ?_, ?_, fun p hp2 => ?_⟩)
      · rw [h2.2.2 j k (by omega), hF j k (by omega)]
      · rw [hn]; exact h2.1
      · rw [hn] at hp2; exact h2.2.1 p hp2
    | succ j ih =>
      intro m D1 hj hF hp
      obtain ⟨z1, z2, z3⟩ := anc_ok h hl (n - (j + 1)) (by omega)
      have z3 := z3 (by omega)
      obtain ⟨-, -, -, p29, p28⟩ := hR.2.2.1 _ z1
      rw [show j + 1 + 1 + m = (j + 1 + m) + 1 by omega]
      show Y (f_X8_spell_15_b _ _ _ _ _ _) _
      unfold f_X8_spell_15_b
      rw [nI_m1]
      refine yNeg (nI_pos (by omega)) (yNeg (nI_nle z3 (by omega)) (yGd (inB_nI (by omega) (by omega)) (yGd (inB_nI (by omega) (by omega)) ?_)))
      rw [lt_d, nI_clamp (by omega), nI_clamp (by omega), hF 29 _ (by omega), p29]
      refine yGd (inB_nI (by omega) (by omega)) ?_
      rw [lt_d, lt_d, ud_at, if_neg (by omega), hF 28 _ (by omega), p28 z3, add_m1]
      have e : nP (N.getD (anc N (n - (j + 1)) last) nd0) = anc N (n - j) last := by rw [show n - j = (n - (j + 1)) + 1 by omega]; rfl
      rw [e]
      refine ih m _ (by omega) (Fr.ud (S := fun j k => j = 42) hF rfl) (fun p hp1 hp2 => ?_)
      rw [ud_at]
      by_cases ep : p = j
      · rw [if_pos ⟨rfl, ep⟩]
        unfold pl
        rw [hn, show n - 1 - p = n - (j + 1) by omega]
      · rw [if_neg (by omega)]; exact hp p (by omega) hp2
  unfold f_X8_spell
  obtain ⟨-, p31, -⟩ := hR.2.2.1 last hl
  rw [nI_clamp (by omega), p31, hn]
  refine yGd (inB_nI (by omega) (by omega)) ?_
  rw [lt_d, lt_d]
  obtain ⟨q, hq⟩ := FUs n (by omega)
  have := s15 n q D (Nat.le_refl _) Fr.refl (fun p h1 h2 => by omega)
  rw [Nat.sub_self] at this
  rw [hq]
  exact this
/-- what a search leaves -/
def fnd (D D' : Dm) (w : Nat) (R : List Nd × Bool) (r : Int32) : Prop := r = b01 R.2 ∧ D' 25 14 = nI R.1.length ∧ R.1.length ≤ 1351 ∧ 0 < R.1.length ∧ Fr (fun j k => (25 ≤ j ∧ j ≤ 42) ∨ (w ≤ j ∧ j ≤ w + 3)) D D' ∧ (R.2 = true → spW D' w R.1 (R.1.length - 1)) ∧ (R.2 = false → isW D' w 0)
