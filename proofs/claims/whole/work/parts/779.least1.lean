/-! ===== the least form, reference ===== -/
def ngI (v : Nat) : Int32 := -1 - nI v
theorem ngI_toInt {v : Nat} (h : v < 1000) : (ngI v).toInt = -1 - (v : Int) := by
  unfold ngI
  have h1 : (nI v).toInt = v := nI_toInt (by omega)
  rw [Int32.toInt_sub, h1, show (-1 : Int32).toInt = -1 from by decide]
  rw [Int.bmod_eq_of_le (by omega) (by omega)]
  try omega
theorem ngI_ng {v : Nat} (h : v < 1000) : ¬ (0 : Int32) ≤ ngI v := by
  rw [Int32.le_iff_toInt_le, ngI_toInt h, show (0 : Int32).toInt = 0 from by decide]; omega
theorem ngI_ne {v g : Nat} (h : v < 1000) (hg : g < 2000) : ¬ ngI v = nI g := by
  intro e
  have := congrArg Int32.toInt e
  rw [ngI_toInt h, nI_toInt (by omega)] at this
  omega
theorem ngI_back {v : Nat} (h : v < 1000) : (-1 : Int32) - ngI v = nI v := by
  apply Int32.toInt_inj.mp
  rw [Int32.toInt_sub, ngI_toInt h, nI_toInt (by omega), show (-1 : Int32).toInt = -1 from by decide]
  rw [Int.bmod_eq_of_le (by omega) (by omega)]
  try omega
theorem ngI_s {v : Nat} (h : v < 999) : ngI v + (-1) = ngI (v + 1) := by
  apply Int32.toInt_inj.mp
  rw [Int32.toInt_add, ngI_toInt (by omega), ngI_toInt (by omega), show (-1 : Int32).toInt = -1 from by decide]
  rw [Int.bmod_eq_of_le (by omega) (by omega)]
  try omega
theorem nI_nn {g : Nat} (h : g < 2000) : (0 : Int32) ≤ nI g := by
  rw [Int32.le_iff_toInt_le, nI_toInt (by omega), show (0 : Int32).toInt = 0 from by decide]; omega
theorem fi_lt {f : Nat → Int32} {x : Int32} {n j : Nat} (h : j < n) (e : f j = x) : fi f x n < n := by
  obtain ⟨a, b, c⟩ := fi_spec f x n
  by_cases q : fi f x n < n
  · exact q
  · exact absurd e (b j (by omega))
abbrev S3h (j k : Nat) : Prop := j = 300
def LI1 (D0 D : Dm) (f : Nat → Int32) (n p : Nat) : Prop := Fr S3h D0 D ∧ ∀ k, k < n → D 300 k = if fi f (f k) p < p then ngI (lsf f k) else f k
def LI2 (D0 D : Dm) (f : Nat → Int32) (n p i : Nat) : Prop := Fr S3h D0 D ∧ ∀ k, k < n → D 300 k = if fi f (f k) p < p then ngI (lsf f k) else if f k = f p ∧ k < i then ngI (dsf f p) else f k
section
variable {D0 : Dm} {f : Nat → Int32} {n : Nat}
theorem ls32 (hn : n ≤ 40) (h36 : D0 281 36 = nI n) (hf : ∀ k, k < n → ∃ g, g < 2000 ∧ f k = nI g) {k4 : Int32 → Int32 → Dm → Option Dm} {p : Nat} {Q : Dm → Prop} (hp : p < n) (hk : ∀ D', LI2 D0 D' f n p n → Y (k4 (ngI (dsf f p)) (nI (p + 1)) D') Q) : ∀ (j i z : Nat) (D : Dm), i + j = n → LI2 D0 D f n p i → Y (f_X12_leasts_32 k4 (j + 1 + z) (ngI (dsf f p)) (nI p) (f p) (nI i) D) Q := by
  intro j
  induction j with
  | zero =>
    intro i z D hi hI
    have hi : i = n := by omega
    subst hi
    rw [show 0 + 1 + z = z + 1 by omega]
    show Y (f_X12_leasts_32_b _ _ _ _ _ _ _) _
    unfold f_X12_leasts_32_b f_X12_leasts_66
    refine yPos (by rw [hI.1 281 36 (by omega), h36]; exact nI_le (Nat.le_refl _) (by omega)) ?_
    refine yLt0 ?_
    rw [nI_1]
    exact hk D hI
  | succ j ih =>
    intro i z D hi hI
    rw [show j + 1 + 1 + z = (j + 1 + z) + 1 by omega]
    show Y (f_X12_leasts_32_b _ _ _ _ _ _ _) _
    unfold f_X12_leasts_32_b f_X12_leasts_60
    refine yNeg (by rw [hI.1 281 36 (by omega), h36]; exact nI_nle2 (by omega) (by omega)) ?_
    refine yGd (inB_nI (by omega) (by omega)) ?_
    have dl : ∀ m, m ≤ n → dsf f m < 999 := fun m h => by have := dsf_le f m; omega
    have ll : ∀ k, k < n → lsf f k < 999 := fun k h => dl _ (by have := (fi_spec f (f k) k).1; omega)
    obtain ⟨g, hg, eg⟩ := hf i (by omega)
    obtain ⟨gp, hgp, egp⟩ := hf p hp
    rw [nI_clamp (by omega)]
    have hDi := hI.2 i (by omega)
    refine yIte (fun c => ?_) (fun c => ?_)
    · refine yGd (inB_nI (by omega) (by omega)) (yLt0 (yLt0 ?_))
      rw [nI_1]
      refine ih (i + 1) z _ (by omega) ⟨hI.1.ud rfl, fun k hk => ?_⟩
      have c1 : ¬ fi f (f i) p < p := fun h => by
        rw [if_pos h] at hDi
        rw [hDi, egp] at c
        exact ngI_ne (by have := ll i (by omega); omega) hgp c
      rw [if_neg c1, if_neg (fun h => absurd h.2 (by omega))] at hDi
      have c2 : f i = f p := by rw [← hDi]; exact c
      rw [ud_at]
      by_cases e : k = i
      · rw [if_pos ⟨rfl, e⟩, e, if_neg c1, if_pos ⟨c2, by omega⟩]
      · rw [if_neg (fun h => e h.2), hI.2 k hk]
        by_cases c3 : fi f (f k) p < p
        · rw [if_pos c3, if_pos c3]
        · rw [if_neg c3, if_neg c3]
          by_cases c4 : f k = f p ∧ k < i
          · rw [if_pos c4, if_pos ⟨c4.1, by omega⟩]
          · rw [if_neg c4, if_neg (fun h => c4 ⟨h.1, by omega⟩)]
    · refine yLt0 ?_
      rw [nI_1]
      refine ih (i + 1) z _ (by omega) ⟨hI.1, fun k hk => ?_⟩
      rw [hI.2 k hk]
      by_cases c3 : fi f (f k) p < p
      · rw [if_pos c3, if_pos c3]
      · rw [if_neg c3, if_neg c3]
        by_cases c4 : f k = f p ∧ k < i
        · rw [if_pos c4, if_pos ⟨c4.1, by omega⟩]
        · rw [if_neg c4, if_neg]
          intro h
          have e : k = i := by
            by_cases e : k < i
            · exact absurd ⟨h.1, e⟩ c4
            · omega
          rw [e] at h c3
          rw [if_neg c3, if_neg (fun q => absurd q.2 (by omega))] at hDi
          exact c (by rw [hDi]; exact h.1)
theorem ls74 (hn : n ≤ 40) (h36 : D0 281 36 = nI n) (hf : ∀ k, k < n → ∃ g, g < 2000 ∧ f k = nI g) : ∀ (j i z : Nat) (D : Dm), i + j = n → (Fr S3h D0 D ∧ ∀ k, k < n → D 300 k = if k < i then nI (lsf f k) else ngI (lsf f k)) → Y (f_X12_leasts_74 (j + 1 + z) (nI i) D) (fun D' => Fr S3h D0 D' ∧ ∀ k, k < n → D' 300 k = nI (lsf f k)) := by
  intro j
  induction j with
  | zero =>
    intro i z D hi hI
    have hi : i = n := by omega
    subst hi
    rw [show 0 + 1 + z = z + 1 by omega]
    show Y (f_X12_leasts_74_b _ _ _) _
    unfold f_X12_leasts_74_b
    refine yPos (by rw [hI.1 281 36 (by omega), h36]; exact nI_le (Nat.le_refl _) (by omega)) (yRet ⟨hI.1, fun k hk => ?_⟩)
    rw [hI.2 k hk, if_pos hk]
  | succ j ih =>
    intro i z D hi hI
    rw [show j + 1 + 1 + z = (j + 1 + z) + 1 by omega]
    show Y (f_X12_leasts_74_b _ _ _) _
    unfold f_X12_leasts_74_b
    refine yNeg (by rw [hI.1 281 36 (by omega), h36]; exact nI_nle2 (by omega) (by omega)) ?_
    refine yGd (inB_nI (by omega) (by omega)) (yGd (inB_nI (by omega) (by omega)) (yLt0 (yLt0 ?_)))
    rw [nI_1, nI_clamp (by omega)]
    refine ih (i + 1) z _ (by omega) ⟨hI.1.ud rfl, fun k hk => ?_⟩
    have dl : lsf f k < 999 := by
      have := dsf_le f (fi f (f k) k)
      have := (fi_spec f (f k) k).1
      unfold lsf; omega
    rw [ud_at]
    by_cases e : k = i
    · rw [if_pos ⟨rfl, e⟩, if_pos (by omega), ← e, hI.2 k hk, if_neg (by omega), ngI_back (by omega)]
    · rw [if_neg (fun h => e h.2), hI.2 k hk]
      by_cases c : k < i
      · rw [if_pos c, if_pos (by omega)]
      · rw [if_neg c, if_neg (by omega)]
theorem ls4 (hn : n ≤ 40) (h36 : D0 281 36 = nI n) (hf : ∀ k, k < n → ∃ g, g < 2000 ∧ f k = nI g) : ∀ (j p z : Nat) (D : Dm), p + j = n → LI1 D0 D f n p → Y (f_X12_leasts_4 (j + 1 + z) (ngI (dsf f p) + 1) (nI p) D) (fun D' => Fr S3h D0 D' ∧ ∀ k, k < n → D' 300 k = nI (lsf f k)) := by
  intro j
  induction j with
  | zero =>
    intro p z D hp hI
    have hp : p = n := by omega
    subst hp
    rw [show 0 + 1 + z = z + 1 by omega]
    show Y (f_X12_leasts_4_b _ _ _ _) _
    unfold f_X12_leasts_4_b
    refine yPos (by rw [hI.1 281 36 (by omega), h36]; exact nI_le (Nat.le_refl _) (by omega)) ?_
    obtain ⟨q, hq⟩ := FUs p (by omega)
    rw [hq, ← nI_0]
    refine ls74 hn h36 hf p 0 q D (by omega) ⟨hI.1, fun k hk => ?_⟩
    rw [hI.2 k hk, if_pos (fi_lt hk rfl), if_neg (by omega)]
  | succ j ih =>
    intro p z D hp hI
    rw [show j + 1 + 1 + z = (j + 1 + z) + 1 by omega]
    show Y (f_X12_leasts_4_b _ _ _ _) _
    unfold f_X12_leasts_4_b f_X12_leasts_66
    have dl : ∀ m, m ≤ n → dsf f m < 998 := fun m h => by have := dsf_le f m; omega
    have ll : ∀ k, k < n → lsf f k < 998 := fun k h => dl _ (by have := (fi_spec f (f k) k).1; omega)
    refine yNeg (by rw [hI.1 281 36 (by omega), h36]; exact nI_nle2 (by omega) (by omega)) ?_
    refine yGd (inB_nI (by omega) (by omega)) (yLt0 ?_)
    rw [nI_clamp (by omega)]
    have hDp := hI.2 p (by omega)
    obtain ⟨gp, hgp, egp⟩ := hf p (by omega)
    by_cases c : fi f (f p) p < p
    · rw [if_pos c] at hDp
      refine yNeg (by rw [hDp]; exact ngI_ng (by have := ll p (by omega); omega)) (yLt0 ?_)
      rw [nI_1]
      have ed : dsf f (p + 1) = dsf f p := by
        show dsf f p + _ = _
        rw [if_pos c, Nat.add_zero]
      rw [← ed]
      refine ih (p + 1) z D (by omega) ⟨hI.1, fun k hk => ?_⟩
      rw [hI.2 k hk]
      by_cases c2 : fi f (f k) p < p
      · rw [if_pos c2, if_pos (fi_lt (show fi f (f k) p < p + 1 by omega) ((fi_spec f (f k) p).2.2 c2))]
      · rw [if_neg c2, if_neg]
        intro h
        have h2 := (fi_spec f (f k) (p + 1)).2.2 h
        by_cases e : fi f (f k) (p + 1) = p
        · rw [e] at h2
          rw [h2] at c
          exact c2 c
        · exact c2 (fi_lt (show fi f (f k) (p + 1) < p by omega) h2)
    · rw [if_neg c] at hDp
      refine yPos (by rw [hDp, egp]; exact nI_nn hgp) (yLt0 ?_)
      obtain ⟨q, hq⟩ := FUs (n - p) (by omega)
      have ex : ngI (dsf f p) + 1 + (-1) = ngI (dsf f p) := by
        rw [Int32.add_assoc, show (1 : Int32) + (-1) = 0 from by decide, Int32.add_zero]
      have ed : dsf f (p + 1) = dsf f p + 1 := by
        show dsf f p + _ = _
        rw [if_neg c]
      rw [ex, hq, hDp]
      refine ls32 hn h36 hf (p := p) (by omega) (fun D' hD' => ?_) (n - p) p q D (by omega) ⟨hI.1, fun k hk => ?_⟩
      · have ex2 : ngI (dsf f p) = ngI (dsf f (p + 1)) + 1 := by
          rw [ed, ← ngI_s (by have := dl p (by omega); omega), Int32.add_assoc, show (-1 : Int32) + 1 = 0 from by decide, Int32.add_zero]
        rw [ex2]
        refine ih (p + 1) z D' (by omega) ⟨hD'.1, fun k hk => ?_⟩
        rw [hD'.2 k hk]
        by_cases c2 : fi f (f k) p < p
        · rw [if_pos c2, if_pos (fi_lt (show fi f (f k) p < p + 1 by omega) ((fi_spec f (f k) p).2.2 c2))]
        · rw [if_neg c2]
          by_cases c3 : f k = f p
          · have kp : p ≤ k := by
              by_cases q : p ≤ k
              · exact q
              · exact absurd (fi_lt (show k < p by omega) rfl) c2
            have ef : fi f (f k) k = p := by
              refine fi_uniq kp (fun j hj e => c2 (fi_lt hj e)) (fun _ => c3.symm)
            rw [if_pos ⟨c3, hk⟩, if_pos (fi_lt (show p < p + 1 by omega) c3.symm)]
            unfold lsf
            rw [ef]
          · rw [if_neg (fun h => c3 h.1), if_neg]
            intro h
            have h2 := (fi_spec f (f k) (p + 1)).2.2 h
            by_cases e : fi f (f k) (p + 1) = p
            · rw [e] at h2; exact c3 h2.symm
            · exact c2 (fi_lt (show fi f (f k) (p + 1) < p by omega) h2)
      · rw [hI.2 k hk]
        by_cases c2 : fi f (f k) p < p
        · rw [if_pos c2, if_pos c2]
        · rw [if_neg c2, if_neg c2]
          by_cases c3 : f k = f p ∧ k < p
          · exact absurd (fi_lt c3.2 rfl) c2
          · rw [if_neg c3]
theorem leasts_ok (hn : n ≤ 40) (h36 : D0 281 36 = nI n) (hf : ∀ k, k < n → ∃ g, g < 2000 ∧ f k = nI g) (h3 : ∀ k, k < n → D0 300 k = f k) : Y (f_X12_leasts D0) (fun D' => Fr S3h D0 D' ∧ ∀ k, k < n → D' 300 k = nI (lsf f k)) := by
  unfold f_X12_leasts
  obtain ⟨q, hq⟩ := FUs n (by omega)
  have e := ls4 hn h36 hf n 0 q D0 (by omega) ⟨Fr.refl, fun k hk => by rw [if_neg (Nat.not_lt_zero _), h3 k hk]⟩
  have e0 : ngI (dsf f 0) + 1 = 0 := by
    show (-1 - nI 0 : Int32) + 1 = 0
    rw [nI_0]; decide
  rw [e0, nI_0] at e
  rw [hq]
  exact e
end
