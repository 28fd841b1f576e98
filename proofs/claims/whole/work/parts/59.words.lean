/-- the first place below n that holds nm, else n -/
def fi (f : Nat → Int32) (nm : Int32) : Nat → Nat
  | 0 => 0
  | n + 1 => if fi f nm n < n then fi f nm n else if f n = nm then n else n + 1
theorem fi_spec (f : Nat → Int32) (nm : Int32) : ∀ n, fi f nm n ≤ n ∧ (∀ j, j < fi f nm n → f j ≠ nm) ∧ (fi f nm n < n → f (fi f nm n) = nm)
  | 0 => ⟨Nat.le_refl 0, fun j h => absurd h (Nat.not_lt_zero j), fun h => absurd h (Nat.lt_irrefl 0)⟩
  | n + 1 => by
    obtain ⟨a, b, c⟩ := fi_spec f nm n
    unfold fi
    by_cases h : fi f nm n < n
    · rw [if_pos h]
      exact ⟨by omega, b, fun _ => c h⟩
    · rw [if_neg h]
      have e : fi f nm n = n := by omega
      rw [e] at b
      by_cases h2 : f n = nm
      · rw [if_pos h2]
        exact ⟨by omega, b, fun _ => h2⟩
      · rw [if_neg h2]
        refine ⟨by omega, fun j hj => ?_, fun q => by omega⟩
        by_cases hjn : j = n
        · rw [hjn]; exact h2
        · exact b j (by omega)
theorem fi_uniq {f : Nat → Int32} {nm : Int32} {n i : Nat} (h1 : i ≤ n) (h2 : ∀ j, j < i → f j ≠ nm) (h3 : i < n → f i = nm) : fi f nm n = i := by
  obtain ⟨a, b, c⟩ := fi_spec f nm n
  by_cases h : fi f nm n < i
  · exact absurd (c (by omega)) (h2 _ h)
  · by_cases h4 : i < fi f nm n
    · exact absurd (h3 (by omega)) (b _ h4)
    · omega
theorem fi_congr {f g : Nat → Int32} {nm : Int32} {n : Nat} (h : ∀ k, k < n → f k = g k) : fi f nm n = fi g nm n := by
  obtain ⟨a, b, c⟩ := fi_spec g nm n
  refine fi_uniq a (fun j hj => ?_) (fun q => ?_)
  · rw [h j (by omega)]; exact b j hj
  · rw [h _ q]; exact c q
/-- how many distinct ones stand below n -/
def dsf (f : Nat → Int32) : Nat → Nat
  | 0 => 0
  | n + 1 => dsf f n + if fi f (f n) n < n then 0 else 1
theorem dsf_congr {f g : Nat → Int32} : ∀ {n : Nat}, (∀ k, k < n → f k = g k) → dsf f n = dsf g n
  | 0, _ => rfl
  | n + 1, h => by
    unfold dsf
    rw [dsf_congr (fun k hk => h k (by omega)), h n (by omega), fi_congr (fun k hk => h k (by omega))]
theorem dsf_le (f : Nat → Int32) : ∀ n, dsf f n ≤ n
  | 0 => Nat.le_refl 0
  | n + 1 => by
    have := dsf_le f n
    unfold dsf
    split <;> omega
theorem dsf_mono {f : Nat → Int32} {m : Nat} : ∀ n, m ≤ n → dsf f m ≤ dsf f n
  | 0, h => by rw [show m = 0 by omega]; exact Nat.le_refl _
  | n + 1, h => by
    by_cases e : m = n + 1
    · rw [e]; exact Nat.le_refl _
    · have := dsf_mono (f := f) n (show m ≤ n by omega)
      show dsf f m ≤ dsf f n + _
      omega
/-- the number of place k in the least form -/
def lsf (f : Nat → Int32) (k : Nat) : Nat := dsf f (fi f (f k) k)
theorem lsf_congr {f g : Nat → Int32} {k : Nat} (h : ∀ j, j ≤ k → f j = g j) : lsf f k = lsf g k := by
  unfold lsf
  rw [h k (by omega), fi_congr (fun j hj => h j (by omega))]
  exact dsf_congr (fun j hj => h j (by have := (fi_spec g (g k) k).1; omega))
theorem lsf_first {f : Nat → Int32} {k : Nat} (h : ∀ j, j < k → f j ≠ f k) : lsf f k = dsf f k := by
  unfold lsf
  rw [fi_uniq (Nat.le_refl k) h (fun q => absurd q (Nat.lt_irrefl k))]
/-- a word of the class with n letters -/
def isW (D : Dm) (w n : Nat) : Prop := n ≤ 20 ∧ D w 3 = nI n ∧ D w 4 = nI (dsf (D (w + 2)) n) ∧ ∀ k, k < n → D (w + 3) k = nI (lsf (D (w + 2)) k)
theorem isW_congr {D D' : Dm} {w n : Nat} (h : isW D w n) (h3 : D' w 3 = D w 3) (h4 : D' w 4 = D w 4) (hn : ∀ k, k < n → D' (w + 2) k = D (w + 2) k) (hl : ∀ k, k < n → D' (w + 3) k = D (w + 3) k) : isW D' w n := by
  obtain ⟨a, b, c, d⟩ := h
  refine ⟨a, by rw [h3, b], ?_, fun k hk => ?_⟩
  · rw [h4, c, dsf_congr hn]
  · rw [hl k hk, d k hk, lsf_congr (fun j hj => hn j (by omega))]
theorem lo_loop {D : Dm} {w n : Nat} {nm : Int32} (hW : isW D w n) : ∀ (j i m : Nat), i + j = n → (∀ q, q < i → D (w + 2) q ≠ nm) → f_X10_leastOf_2 (j + 1 + m) w nm (nI i) D = some (nI (dsf (D (w + 2)) (fi (D (w + 2)) nm n)), D) := by
  obtain ⟨hn, h3, h4, hl⟩ := hW
  intro j
  induction j with
  | zero =>
    intro i m hi hq
    have hi : i = n := by omega
    subst hi
    rw [show 0 + 1 + m = m + 1 by omega]
    show f_X10_leastOf_2_b _ _ _ _ _ = _
    unfold f_X10_leastOf_2_b
    rw [h3, if_pos (by rw [Int32.le_iff_toInt_le]; exact Int.le_refl _), h4, fi_uniq (Nat.le_refl i) hq (fun q => absurd q (Nat.lt_irrefl i))]
  | succ j ih =>
    intro i m hi hq
    rw [show j + 1 + 1 + m = (j + 1 + m) + 1 by omega]
    show f_X10_leastOf_2_b _ _ _ _ _ = _
    unfold f_X10_leastOf_2_b
    rw [h3, if_neg (nI_nle2 (by omega) (by omega)), gd_t (inB_nI (by omega) (by omega)), gd_t (inB_nI (by omega) (by omega)), nI_clamp (by omega), lt_d, nI_1]
    by_cases c : D (w + 2) i = nm
    · rw [if_pos c, hl i (by omega), lsf_first (fun q hq2 => by rw [c]; exact hq q hq2), fi_uniq (by omega) hq (fun _ => c)]
    · rw [if_neg c]
      refine ih (i + 1) m (by omega) (fun q hq2 => ?_)
      by_cases e : q = i
      · rw [e]; exact c
      · exact hq q (by omega)
theorem lo_ok {D : Dm} {w n : Nat} {nm : Int32} (hW : isW D w n) : f_X10_leastOf w nm D = some (nI (dsf (D (w + 2)) (fi (D (w + 2)) nm n)), D) := by
  unfold f_X10_leastOf
  obtain ⟨q, hq⟩ := FUs n (by have := hW.1; omega)
  have e := lo_loop (nm := nm) hW n 0 q (by omega) (fun q hq => absurd hq (Nat.not_lt_zero q))
  rw [nI_0] at e
  rw [hq]
  exact e
/-- what one more letter makes of a word's cells -/
def adD (D : Dm) (w n : Nat) (s nm : Int32) : Dm :=
  ud (ud (ud (ud (ud D (w + 1) n s) (w + 2) n nm) (w + 3) n (nI (dsf (D (w + 2)) (fi (D (w + 2)) nm n)))) w 4 (nI (dsf (D (w + 2)) n + if fi (D (w + 2)) nm n < n then 0 else 1))) w 3 (nI (n + 1))
theorem dsf_lt {f : Nat → Int32} {i n : Nat} (h : i < n) (hf : ∀ j, j < i → f j ≠ f i) : dsf f i < dsf f n := by
  have h1 := dsf_mono (f := f) (m := i + 1) n (by omega)
  have h2 : dsf f (i + 1) = dsf f i + 1 := by
    show dsf f i + _ = _
    rw [if_neg]
    rw [fi_uniq (Nat.le_refl i) hf (fun q => absurd q (Nat.lt_irrefl i))]
    exact Nat.lt_irrefl i
  omega
theorem nI_ne {a b : Nat} (h : a ≠ b) (ha : a < 2 ^ 31) (hb : b < 2 ^ 31) : nI a ≠ nI b := by
  intro e
  have := congrArg Int32.toInt e
  rw [nI_toInt ha, nI_toInt hb] at this
  omega
theorem add_ok {D : Dm} {w n : Nat} {s nm : Int32} (hW : isW D w n) (hn : n < 20) : f_X10_add w s nm D = some (adD D w n s nm) := by
  obtain ⟨-, h3, h4, hl⟩ := id hW
  have hW2 : isW (ud (ud D (w + 1) n s) (w + 2) n nm) w n := by
    refine isW_congr hW ?_ ?_ (fun k hk => ?_) (fun k hk => ?_) <;> (rw [ud_at, if_neg (by omega), ud_at, if_neg (by omega)])
  have ed : ∀ i, i ≤ n → dsf ((ud (ud D (w + 1) n s) (w + 2) n nm) (w + 2)) i = dsf (D (w + 2)) i := fun i hi => dsf_congr (fun k hk => by rw [ud_at, if_neg (by omega), ud_at, if_neg (by omega)])
  have ef : fi ((ud (ud D (w + 1) n s) (w + 2) n nm) (w + 2)) nm n = fi (D (w + 2)) nm n := fi_congr (fun k hk => by rw [ud_at, if_neg (by omega), ud_at, if_neg (by omega)])
  obtain ⟨a, b, c⟩ := fi_spec (D (w + 2)) nm n
  have u1 : ∀ v, (ud D (w + 1) n v) w 3 = nI n := fun v => by rw [ud_at, if_neg (by omega), h3]
  have u2 : (ud (ud D (w + 1) n s) (w + 2) n nm) w 3 = nI n := by rw [ud_at, if_neg (by omega), u1]
  have u3 : ∀ v, (ud (ud (ud D (w + 1) n s) (w + 2) n nm) (w + 3) n v) w 3 = nI n := fun v => by rw [ud_at, if_neg (by omega), u2]
  have u4 : ∀ v, (ud (ud (ud D (w + 1) n s) (w + 2) n nm) (w + 3) n v) w 4 = nI (dsf (D (w + 2)) n) := fun v => by rw [ud_at, if_neg (by omega), ud_at, if_neg (by omega), ud_at, if_neg (by omega), h4]
  have u5 : ∀ v, (ud (ud (ud D (w + 1) n s) (w + 2) n nm) (w + 3) n v) (w + 3) n = v := fun v => by rw [ud_at, if_pos ⟨rfl, rfl⟩]
  have dl := dsf_le (D (w + 2)) n
  unfold f_X10_add f_X10_add_70
  rw [h3, if_pos (by rw [show (20 : Int32) = nI 20 from rfl]; exact nI_lt (by omega) (by omega)), gd_t (inB_nI (by omega) (by omega)), lt_d, nI_clamp (by omega), u1, gd_t (inB_nI (by omega) (by omega)), lt_d, nI_clamp (by omega), lo_ok hW2, bI_d, u2, gd_t (inB_nI (by omega) (by omega)), lt_d, nI_clamp (by omega), u3, gd_t (inB_nI (by omega) (by omega)), nI_clamp (by omega), u4, u5, ef, ed _ a, lt_d, lt_d]
  by_cases hc : fi (D (w + 2)) nm n < n
  · have hlt : dsf (D (w + 2)) (fi (D (w + 2)) nm n) < dsf (D (w + 2)) n := dsf_lt hc (fun j hj => by rw [c hc]; exact b j hj)
    rw [if_neg (nI_ne (by omega) (by omega) (by omega)), lt_d, nI_1]
    unfold adD
    rw [if_pos hc, Nat.add_zero (dsf (D (w + 2)) n), ← u4 (nI (dsf (D (w + 2)) (fi (D (w + 2)) nm n))), ud_id]
  · have e : fi (D (w + 2)) nm n = n := by omega
    rw [e, if_pos rfl, ud_at, if_neg (by omega), u3, nI_1, nI_1]
    unfold adD
    rw [e, if_neg (Nat.lt_irrefl n)]
theorem adD_isW {D : Dm} {w n : Nat} {s nm : Int32} (hW : isW D w n) (hn : n < 20) : isW (adD D w n s nm) w (n + 1) := by
  obtain ⟨-, h3, h4, hl⟩ := hW
  have f2 : ∀ k, k < n → adD D w n s nm (w + 2) k = D (w + 2) k := fun k hk => by
    unfold adD
    rw [ud_at, if_neg (by omega), ud_at, if_neg (by omega), ud_at, if_neg (by omega), ud_at, if_neg (by omega), ud_at, if_neg (by omega)]
  have f2n : adD D w n s nm (w + 2) n = nm := by
    unfold adD
    rw [ud_at, if_neg (by omega), ud_at, if_neg (by omega), ud_at, if_neg (by omega), ud_at, if_pos ⟨rfl, rfl⟩]
  have fin : dsf (adD D w n s nm (w + 2)) (fi (adD D w n s nm (w + 2)) nm n) = dsf (D (w + 2)) (fi (D (w + 2)) nm n) := by
    rw [fi_congr f2]
    exact dsf_congr (fun k hk => f2 k (by have := (fi_spec (D (w + 2)) nm n).1; omega))
  refine ⟨by omega, ?_, ?_, fun k hk => ?_⟩
  · unfold adD
    rw [ud_at, if_pos ⟨rfl, rfl⟩]
  · show _ = nI (dsf _ n + _)
    rw [f2n, dsf_congr f2, fi_congr f2]
    unfold adD
    rw [ud_at, if_neg (by omega), ud_at, if_pos ⟨rfl, rfl⟩]
  · by_cases e : k = n
    · subst e
      unfold lsf
      rw [f2n, fin]
      unfold adD
      rw [ud_at, if_neg (by omega), ud_at, if_neg (by omega), ud_at, if_pos ⟨rfl, rfl⟩]
    · rw [lsf_congr (fun j hj => f2 j (by omega)), ← hl k (by omega)]
      unfold adD
      rw [ud_at, if_neg (by omega), ud_at, if_neg (by omega), ud_at, if_neg (by omega), ud_at, if_neg (by omega), ud_at, if_neg (by omega)]
theorem adD_ne {D : Dm} {w n : Nat} {s nm : Int32} {j k : Nat} (h : j < w ∨ w + 3 < j) : adD D w n s nm j k = D j k := by
  unfold adD
  rw [ud_at, if_neg (by omega), ud_at, if_neg (by omega), ud_at, if_neg (by omega), ud_at, if_neg (by omega), ud_at, if_neg (by omega)]
theorem adD_s {D : Dm} {w n : Nat} {s nm : Int32} {k : Nat} : adD D w n s nm (w + 1) k = if k = n then s else D (w + 1) k := by
  unfold adD
  rw [ud_at, if_neg (by omega), ud_at, if_neg (by omega), ud_at, if_neg (by omega), ud_at, if_neg (by omega), ud_at]
  by_cases h : k = n
  · rw [if_pos ⟨rfl, h⟩, if_pos h]
  · rw [if_neg (fun q => h q.2), if_neg h]
theorem adD_n {D : Dm} {w n : Nat} {s nm : Int32} {k : Nat} : adD D w n s nm (w + 2) k = if k = n then nm else D (w + 2) k := by
  unfold adD
  rw [ud_at, if_neg (by omega), ud_at, if_neg (by omega), ud_at, if_neg (by omega), ud_at]
  by_cases h : k = n
  · rw [if_pos ⟨rfl, h⟩, if_pos h]
  · rw [if_neg (fun q => h q.2), if_neg h, ud_at, if_neg (by omega)]
