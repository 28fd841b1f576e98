/-! ===== the reader of the class: the next token ===== -/
def TKb (D : Dm) (c : Nat → Nat) (n : Nat) : Prop := n ≤ 500 ∧ D 1 2 = nI n ∧ ∀ k, k < n → c k < 256 ∧ D 2 k = nI (c k)
theorem TKb.fr {D D' : Dm} {c : Nat → Nat} {n : Nat} (h : TKb D c n) (h2 : D' 1 2 = D 1 2) (hF : ∀ k, D' 2 k = D 2 k) : TKb D' c n := ⟨h.1, by rw [h2]; exact h.2.1, fun k hk => by rw [hF]; exact h.2.2 k hk⟩
def TK (D : Dm) (c : Nat → Nat) (n p : Nat) : Prop := TKb D c n ∧ p ≤ n ∧ blk c n p = p ∧ D 1 4 = nI p ∧ D 1 5 = nI (te c n p) ∧ D 1 3 = nI (kd c n p)
theorem TK.fr {D D' : Dm} {c : Nat → Nat} {n p : Nat} (h : TK D c n p) (h2 : ∀ k, 2 ≤ k → k ≤ 5 → D' 1 k = D 1 k) (hF : ∀ k, D' 2 k = D 2 k) : TK D' c n p := by
  obtain ⟨h0, h1, h3, h4, h5, h6⟩ := h
  exact ⟨h0.fr (h2 _ (by omega) (by omega)) hF, h1, h3, by rw [h2 _ (by omega) (by omega)]; exact h4, by rw [h2 _ (by omega) (by omega)]; exact h5, by rw [h2 _ (by omega) (by omega)]; exact h6⟩
def rng (lo hi c : Nat) : Bool := decide (lo ≤ c) && decide (c ≤ hi)
theorem rng_t {lo hi c : Nat} : rng lo hi c = true ↔ lo ≤ c ∧ c ≤ hi := by
  unfold rng
  rw [Bool.and_eq_true, decide_eq_true_eq, decide_eq_true_eq]
theorem n165 {c : Nat → Nat} {n lo hi k : Nat} (hl : lo < 256) (hh : hi < 256) (hk : k = 1 ∨ k = 2) {D0 : Dm} (hb : TKb D0 c n) (h3 : D0 1 3 = nI k) : ∀ (j q z : Nat) (D : Dm), q + j = n → Fr (fun j k => j = 1 ∧ k = 5) D0 D → D 1 5 = nI q → Y (f_X7_next_165 (j + 1 + z) (nI lo) (nI hi) D) (fun D' => Fr (fun j k => j = 1 ∧ k = 5) D0 D' ∧ D' 1 5 = nI (re (rng lo hi) c n q)) := by
  obtain ⟨n5, h2, hby⟩ := hb
  have k3 : ¬ nI k = 3 := by rcases hk with rfl | rfl <;> decide
  intro j
  induction j with
  | zero =>
    intro q z D hq hF h5
    rw [show 0 + 1 + z = z + 1 by omega]
    show Y (f_X7_next_165_b _ _ _ _) _
    unfold f_X7_next_165_b
    rw [hF 1 3 (by omega), h3, hF 1 2 (by omega), h2, h5]
    refine yNeg k3 (yPos (by rw [show q = n by omega]; exact nI_le (Nat.le_refl _) (by omega)) (yRet ⟨hF, ?_⟩))
    rw [re_stop (fun z => by omega)]; exact h5
  | succ j ih =>
    intro q z D hq hF h5
    rw [show j + 1 + 1 + z = (j + 1 + z) + 1 by omega]
    show Y (f_X7_next_165_b _ _ _ _) _
    unfold f_X7_next_165_b
    obtain ⟨b1, b2⟩ := hby q (by omega)
    rw [hF 1 3 (by omega), h3, hF 1 2 (by omega), h2, h5]
    refine yNeg k3 (yNeg (nI_nle2 (by omega) (by omega)) (yGd (inB_nI (by omega) (by omega)) ?_))
    rw [nI_clamp (by omega), hF 2 q (by omega), b2]
    have stop : rng lo hi (c q) ≠ true → D 1 5 = nI (re (rng lo hi) c n q) := fun h => by
      rw [re_stop (fun z => h z.2)]; exact h5
    by_cases c1 : c q < lo
    · exact yPos (nI_lt c1 (by omega)) (yRet ⟨hF, stop (fun h => by rw [rng_t] at h; omega)⟩)
    · refine yNeg (nI_nlt (by omega) (by omega)) (yGd (inB_nI (by omega) (by omega)) ?_)
      by_cases c2 : hi < c q
      · exact yPos (nI_lt c2 (by omega)) (yRet ⟨hF, stop (fun h => by rw [rng_t] at h; omega)⟩)
      · refine yNeg (nI_nlt (by omega) (by omega)) (yLt0 ?_)
        rw [nI_1, re_step (by omega) (rng_t.mpr ⟨by omega, by omega⟩)]
        exact ih (q + 1) z _ (by omega) (hF.ud ⟨rfl, rfl⟩) (by rw [ud_at, if_pos ⟨rfl, rfl⟩])
abbrev SNX (j k : Nat) : Prop := j = 1 ∧ (3 ≤ k ∧ k ≤ 5)
theorem isA_r {c : Nat} : isA c = rng 97 122 c := rfl
theorem isN_r {c : Nat} : isN c = rng 48 57 c := rfl
theorem n46 {D : Dm} {c : Nat → Nat} {n p : Nat} (hb : TKb D c n) (hp : p ≤ n) (hbl : blk c n p = p) (h4 : D 1 4 = nI p) : Y (f_X7_next_46 D) (fun D' => Fr SNX D D' ∧ TK D' c n p) := by
  obtain ⟨n5, h2, hby⟩ := id hb
  unfold f_X7_next_46
  refine yLt (fun D1 hD1 => ?_)
  have F1 : Fr SNX D D1 := by rw [hD1]; exact Fr.refl.ud ⟨rfl, by omega, by omega⟩
  have e14 : D1 1 4 = nI p := by rw [hD1, ud_at, if_neg (by omega), h4]
  have e12 : D1 1 2 = nI n := by rw [hD1, ud_at, if_neg (by omega), h2]
  have e15 : D1 1 5 = nI p := by rw [hD1, ud_at, if_pos ⟨rfl, rfl⟩, h4]
  rw [e14, e12]
  by_cases e : p < n
  · refine yPos (nI_lt e (by omega)) (yGd (inB_nI (by omega) (by omega)) (yLt0 (yLt (fun D7 hD7 => ?_))))
    obtain ⟨b1, b2⟩ := hby p e
    rw [nI_clamp (by omega), F1 2 p (by unfold SNX; omega), b2]
    have F7 : Fr SNX D D7 := by rw [hD7]; exact F1.ud ⟨rfl, by omega, by omega⟩
    have g5 : D7 1 5 = nI p := by rw [hD7, ud_at, if_neg (by omega), e15]
    have g4 : D7 1 4 = nI p := by rw [hD7, ud_at, if_neg (by omega), e14]
    have g3 : D7 1 3 = nI 3 := by rw [hD7, ud_at, if_pos ⟨rfl, rfl⟩]; rfl
    -- kinds 1 and 2
    have run : ∀ k lo hi, (k = 1 ∨ k = 2) → lo < 256 → hi < 256 → ∀ D2 : Dm, Fr SNX D D2 → D2 1 5 = nI p → D2 1 4 = nI p → D2 1 3 = nI k → kd c n p = k → te c n p = re (rng lo hi) c n (p + 1) → Y (f_X7_next_154 (nI lo) (nI hi) D2) (fun D' => Fr SNX D D' ∧ TK D' c n p) := by
      intro k lo hi hk hlo hhi D2 F2 i5 i4 i3 ek et
      unfold f_X7_next_154
      refine yLt (fun D3 hD3 => ?_)
      rw [i5, nI_1] at hD3
      have F3 : Fr SNX D D3 := by rw [hD3]; exact F2.ud ⟨rfl, by omega, by omega⟩
      have hb3 : TKb D3 c n := hb.fr (F3 _ _ (by unfold SNX; omega)) (fun k => F3 _ _ (by unfold SNX; omega))
      have j3 : D3 1 3 = nI k := by rw [hD3, ud_at, if_neg (by omega), i3]
      have j5 : D3 1 5 = nI (p + 1) := by rw [hD3, ud_at, if_pos ⟨rfl, rfl⟩]
      have j4 : D3 1 4 = nI p := by rw [hD3, ud_at, if_neg (by omega), i4]
      obtain ⟨z, hz⟩ := FUs (n - (p + 1)) (by omega)
      rw [hz]
      refine yMono (n165 hlo hhi hk hb3 j3 (n - (p + 1)) (p + 1) z D3 (by omega) Fr.refl j5) (fun D4 h4' => ?_)
      obtain ⟨F4, l5⟩ := h4'
      have F4' : Fr SNX D D4 := F3.tr (F4.mono (fun j k q => by unfold SNX; omega))
      exact ⟨F4', hb.fr (F4' _ _ (by unfold SNX; omega)) (fun k => F4' _ _ (by unfold SNX; omega)), hp, hbl, by rw [F4 _ _ (by omega), j4], by rw [l5, et], by rw [F4 _ _ (by omega), j3, ek]⟩
    have k3 : isA (c p) = false → isN (c p) = false → Y (f_X7_next_123 D7) (fun D' => Fr SNX D D' ∧ TK D' c n p) := by
      intro hA hN
      have n31 : ¬ D7 1 3 = 1 := by rw [g3]; decide
      unfold f_X7_next_123 f_X7_next_138 f_X7_next_154
      refine yNeg n31 (yNeg n31 (yLt (fun D3 hD3 => ?_)))
      rw [g5, nI_1] at hD3
      have F3 : Fr SNX D D3 := by rw [hD3]; exact F7.ud ⟨rfl, by omega, by omega⟩
      have i3 : D3 1 3 = nI 3 := by rw [hD3, ud_at, if_neg (by omega), g3]
      obtain ⟨z, hz⟩ := FUs 0 (by omega)
      rw [hz, show 0 + 1 + z = z + 1 by omega]
      show Y (f_X7_next_165_b _ _ _ _) _
      unfold f_X7_next_165_b
      refine yPos (by rw [i3]; rfl) (yRet ⟨F3, hb.fr (F3 _ _ (by unfold SNX; omega)) (fun k => F3 _ _ (by unfold SNX; omega)), hp, hbl, by rw [hD3, ud_at, if_neg (by omega), g4], ?_, ?_⟩)
      · rw [hD3, ud_at, if_pos ⟨rfl, rfl⟩]
        unfold te
        rw [if_pos e, hA, hN, if_neg (by decide), if_neg (by decide)]
      · rw [i3]
        unfold kd
        rw [if_pos e, hA, hN, if_neg (by decide), if_neg (by decide)]
    have k106 : isA (c p) = false → Y (f_X7_next_106 (nI (c p)) D7) (fun D' => Fr SNX D D' ∧ TK D' c n p) := by
      intro hA
      unfold f_X7_next_106
      by_cases c1 : c p < 48
      · exact yPos (nI_lt (a := c p) (b := 48) c1 (by omega)) (k3 hA (by rw [Bool.eq_false_iff]; intro h; rw [isN_r, rng_t] at h; omega))
      · refine yNeg (nI_nlt (a := c p) (b := 48) (by omega) (by omega)) ?_
        by_cases c2 : 57 < c p
        · exact yPos (nI_lt (a := 57) (b := c p) c2 (by omega)) (k3 hA (by rw [Bool.eq_false_iff]; intro h; rw [isN_r, rng_t] at h; omega))
        · refine yNeg (nI_nlt (a := 57) (b := c p) (by omega) (by omega)) (yLt (fun D8 hD8 => ?_))
          have hN : isN (c p) = true := by rw [isN_r, rng_t]; omega
          have i3 : D8 1 3 = nI 2 := by rw [hD8, ud_at, if_pos ⟨rfl, rfl⟩]; rfl
          have n31 : ¬ D8 1 3 = 1 := by rw [i3]; decide
          unfold f_X7_next_123 f_X7_next_138
          refine yNeg n31 (yNeg n31 ?_)
          refine run 2 48 57 (Or.inr rfl) (by omega) (by omega) D8 (by rw [hD8]; exact F7.ud ⟨rfl, by omega, by omega⟩) (by rw [hD8, ud_at, if_neg (by omega), g5]) (by rw [hD8, ud_at, if_neg (by omega), g4]) i3 ?_ ?_
          · unfold kd
            rw [if_pos e, hA, hN, if_neg (by decide), if_pos rfl]
          · unfold te
            rw [if_pos e, hA, hN, if_neg (by decide), if_pos rfl]
            rfl
    by_cases c1 : c p < 97
    · exact yPos (nI_lt (a := c p) (b := 97) c1 (by omega)) (k106 (by rw [Bool.eq_false_iff]; intro h; rw [isA_r, rng_t] at h; omega))
    · refine yNeg (nI_nlt (a := c p) (b := 97) (by omega) (by omega)) ?_
      by_cases c2 : 122 < c p
      · exact yPos (nI_lt (a := 122) (b := c p) c2 (by omega)) (k106 (by rw [Bool.eq_false_iff]; intro h; rw [isA_r, rng_t] at h; omega))
      · refine yNeg (nI_nlt (a := 122) (b := c p) (by omega) (by omega)) (yLt (fun D8 hD8 => ?_))
        have hA : isA (c p) = true := by rw [isA_r, rng_t]; omega
        have i3 : D8 1 3 = nI 1 := by rw [hD8, ud_at, if_pos ⟨rfl, rfl⟩]; rfl
        have n31 : D8 1 3 = 1 := by rw [i3]; rfl
        unfold f_X7_next_123 f_X7_next_138
        refine yPos n31 (yPos n31 ?_)
        refine run 1 97 122 (Or.inl rfl) (by omega) (by omega) D8 (by rw [hD8]; exact F7.ud ⟨rfl, by omega, by omega⟩) (by rw [hD8, ud_at, if_neg (by omega), g5]) (by rw [hD8, ud_at, if_neg (by omega), g4]) i3 ?_ ?_
        · unfold kd
          rw [if_pos e, hA, if_pos rfl]
        · unfold te
          rw [if_pos e, hA, if_pos rfl]
          rfl
  · have ep : p = n := by omega
    refine yNeg (nI_nlt (by omega) (by omega)) (yLt0 (yRet ?_))
    have F7 : Fr SNX D (ud D1 1 3 0) := F1.ud ⟨rfl, by omega, by omega⟩
    refine ⟨F7, hb.fr (F7 _ _ (by unfold SNX; omega)) (fun k => F7 _ _ (by unfold SNX; omega)), hp, hbl, by rw [ud_at, if_neg (by omega), e14], ?_, ?_⟩
    · rw [ud_at, if_neg (by omega), e15]
      unfold te
      rw [if_neg e]
    · rw [ud_at, if_pos ⟨rfl, rfl⟩]
      unfold kd
      rw [if_neg e]; rfl
theorem n8 {c : Nat → Nat} {n : Nat} {D0 : Dm} (hb : TKb D0 c n) : ∀ (j q z : Nat) (D : Dm), q + j = n → Fr SNX D0 D → D 1 4 = nI q → Y (f_X7_next_8 (j + 1 + z) D) (fun D' => Fr SNX D0 D' ∧ TK D' c n (blk c n q)) := by
  obtain ⟨n5, h2, hby⟩ := id hb
  have fin : ∀ (q : Nat) (D : Dm), q ≤ n → Fr SNX D0 D → D 1 4 = nI q → blk c n q = q → Y (f_X7_next_46 D) (fun D' => Fr SNX D0 D' ∧ TK D' c n (blk c n q)) := fun q D hq hF h4 e => by
    rw [e]
    exact yMono (n46 (hb.fr (hF _ _ (by unfold SNX; omega)) (fun k => hF _ _ (by unfold SNX; omega))) hq e h4) (fun D' h => ⟨hF.tr h.1, h.2⟩)
  intro j
  induction j with
  | zero =>
    intro q z D hq hF h4
    rw [show 0 + 1 + z = z + 1 by omega]
    show Y (f_X7_next_8_b _ _) _
    unfold f_X7_next_8_b
    refine yPos (by rw [hF 1 2 (by unfold SNX; omega), h2, h4, show q = n by omega]; exact nI_le (Nat.le_refl _) (by omega)) ?_
    exact fin q D (by omega) hF h4 (re_stop (fun z => by omega))
  | succ j ih =>
    intro q z D hq hF h4
    rw [show j + 1 + 1 + z = (j + 1 + z) + 1 by omega]
    show Y (f_X7_next_8_b _ _) _
    unfold f_X7_next_8_b
    obtain ⟨b1, b2⟩ := hby q (by omega)
    rw [h4]
    refine yNeg (by rw [hF 1 2 (by unfold SNX; omega), h2]; exact nI_nle2 (by omega) (by omega)) (yGd (inB_nI (by omega) (by omega)) ?_)
    rw [nI_clamp (by omega), hF 2 q (by unfold SNX; omega), b2]
    by_cases e : c q = 32
    · refine yPos (by rw [e]; rfl) (yLt0 ?_)
      rw [nI_1]
      have : blk c n q = blk c n (q + 1) := re_step (by omega) (by unfold isB; rw [decide_eq_true e])
      rw [this]
      exact ih (q + 1) z _ (by omega) (hF.ud ⟨rfl, by omega, by omega⟩) (by rw [ud_at, if_pos ⟨rfl, rfl⟩])
    · refine yNeg (fun h => e (nI_inj (by omega) (by omega) (show nI (c q) = nI 32 from h))) ?_
      exact fin q D (by omega) hF h4 (re_stop (fun z => by unfold isB at z; exact e (of_decide_eq_true z.2)))
theorem next_ok {D : Dm} {c : Nat → Nat} {n q : Nat} (hb : TKb D c n) (hq : q ≤ n) (h5 : D 1 5 = nI q) : Y (f_X7_next D) (fun D' => Fr SNX D D' ∧ TK D' c n (blk c n q)) := by
  unfold f_X7_next
  have n5 := hb.1
  obtain ⟨z, hz⟩ := FUs (n - q) (by omega)
  rw [lt_d, h5, hz]
  have F1 : Fr SNX D (ud D 1 4 (nI q)) := Fr.refl.ud ⟨rfl, by omega, by omega⟩
  exact n8 hb (n - q) q z _ (by omega) F1 (by rw [ud_at, if_pos ⟨rfl, rfl⟩])
