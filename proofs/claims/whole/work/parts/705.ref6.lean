/-! ===== the reference: names of a set, words that are alike ===== -/
/-- the names of a set of bits -/
def bl (s : Nat) : List Nat := (List.range 4).filter (fun n => s.testBit n)
theorem bl_bts : ∀ M, M < 5 → ∀ l ∈ hss M, bl (bts l) = l ∧ bts l < 16 := by decide +kernel
def pNA : Nat → Int32 → Int32 → Int32 → Int32 → Option Int32
  | 0, _, _, _, _ => none
  | n + 1, x0, x1, x2, x3 => if 31 ≤ x3 then some (-1) else if ((x0 >>> (x3 &&& 31)) &&& 1) = 0 then pNA n x0 x1 x2 (x3 + 1) else if x2 = x1 then some x3 else pNA n x0 x1 (x2 + 1) (x3 + 1)
theorem pNA_ok {D : Dm} {v x0 x1 : Int32} : ∀ {n m : Nat} {x2 x3 : Int32}, pNA n x0 x1 x2 x3 = some v → f_X12_nameAt_4 (n + m) x0 x1 x2 x3 D = some (v, D)
  | 0, m, x2, x3, h => by cases h
  | n + 1, m, x2, x3, h => by
    rw [show n + 1 + m = (n + m) + 1 by omega]
    show f_X12_nameAt_4_b _ _ _ _ _ _ = _
    unfold f_X12_nameAt_4_b f_X12_nameAt_31
    unfold pNA at h
    simp only [lt_d]
    by_cases c1 : 31 ≤ x3
    · rw [if_pos c1] at h ⊢; cases h; rfl
    · rw [if_neg c1] at h ⊢
      by_cases c2 : ((x0 >>> (x3 &&& 31)) &&& 1) = 0
      · rw [if_pos c2] at h ⊢; exact pNA_ok h
      · rw [if_neg c2] at h ⊢
        by_cases c3 : x2 = x1
        · rw [if_pos c3] at h ⊢; cases h; rfl
        · rw [if_neg c3] at h ⊢; exact pNA_ok h
theorem pNA_d : ∀ s, s < 16 → ∀ i, i < 3 → pNA 32 (nI s) (nI i) 0 0 = some (oI ((bl s)[i]?)) := by decide +kernel
theorem nameAt_ok {D : Dm} {s i : Nat} (hs : s < 16) (hi : i < 3) : f_X12_nameAt (nI s) (nI i) D = some (oI ((bl s)[i]?), D) := by
  unfold f_X12_nameAt
  obtain ⟨q, hq⟩ := FUs 31 (by omega)
  rw [hq]
  exact pNA_ok (n := 32) (m := q) (pNA_d s hs i hi)
def bcE (x0 : Int32) : Int32 :=
  let y1 := x0 - ((iush x0 1) &&& 1431655765)
  let y3 := (y1 &&& 858993459) + ((iush y1 2) &&& 858993459)
  let y5 := (y3 + (iush y3 4)) &&& 252645135
  let y7 := y5 + (iush y5 8)
  let y9 := y7 + (iush y7 16)
  y9 &&& 63
theorem bc_d : ∀ s, s < 16 → bcE (nI s) = nI (bl s).length := by decide +kernel
theorem bits_ok {D : Dm} {s : Nat} (hs : s < 16) : f_X12_bits (nI s) D = some (nI (bl s).length, D) := by
  unfold f_X12_bits
  rw [show f_J6_bitCount_0f7a4 (nI s) D = some (bcE (nI s), D) from rfl, bI_d, bc_d s hs]
theorem bits_l {D : Dm} {M : Nat} {l : List Nat} (hM : M < 5) (hl : l ∈ hss M) : f_X12_bits (nI (bts l)) D = some (nI l.length, D) := by
  obtain ⟨e, h⟩ := bl_bts M hM l hl
  rw [bits_ok h, e]
theorem nameAt_l {D : Dm} {M i : Nat} {l : List Nat} (hM : M < 5) (hl : l ∈ hss M) (hi : i < 3) : f_X12_nameAt (nI (bts l)) (nI i) D = some (if i < l.length then lnm l i else -1, D) := by
  obtain ⟨e, h⟩ := bl_bts M hM l hl
  rw [nameAt_ok h hi, e]
  by_cases c : i < l.length
  · rw [if_pos c, List.getElem?_eq_getElem c]
    unfold lnm
    rw [List.getD_eq_getElem?_getD, List.getElem?_eq_getElem c]
    rfl
  · rw [if_neg c, List.getElem?_eq_none (by omega)]
    rfl
/-- the other list, as a way turns it -/
def wyr (way : Nat) (l : List Nat) : List Nat := if way = 0 then l else l.reverse
theorem setBy_ok {D : Dm} {M M' i way : Nat} {l l' : List Nat} (hM : M < 5) (hM' : M' < 5) (hl : l ∈ hss M) (hl' : l' ∈ hss M') (h47 : D 281 47 = nI (bts l)) (h48 : D 281 48 = nI (bts l')) (hlen : l.length = l'.length) (hi : i < l.length) (hw : way = 0 ∨ (way = 1 ∧ l.length = 2)) : f_X12_setBy (lnm l i) (nI way) D = some (lnm (wyr way l') i, D) := by
  have h2 := (hss_in M hM l hl).1
  have fin : f_X12_setBy_2_b (f_X12_setBy_2 (2 + 0)) (lnm l i) (nI way) (nI i) D = some (lnm (wyr way l') i, D) ∧ ∀ k, f_X12_setBy_2_b k (lnm l i) (nI way) (nI i) D = some (lnm (wyr way l') i, D) := by
    have : ∀ k, f_X12_setBy_2_b k (lnm l i) (nI way) (nI i) D = some (lnm (wyr way l') i, D) := by
      intro k
      unfold f_X12_setBy_2_b f_X12_setBy_35
      rw [h47, nameAt_l hM hl (by omega), bI_d, if_pos hi, if_pos rfl, h48]
      rcases hw with rfl | ⟨rfl, h3⟩
      · rw [if_pos nI_0, nameAt_l hM' hl' (by omega), bI_d, if_pos (by omega)]; rfl
      · rw [if_neg (by decide)]
        have h4 : l'.length = 2 := by omega
        have : i = 0 ∨ i = 1 := by omega
        rcases this with rfl | rfl
        · rw [show (1 : Int32) - nI 0 = nI 1 from by decide, nameAt_l hM' hl' (by omega), bI_d, if_pos (by omega)]
          show _ = some (lnm l'.reverse 0, D)
          rw [(lnm_rev h4).1]
        · rw [show (1 : Int32) - nI 1 = nI 0 from by decide, nameAt_l hM' hl' (by omega), bI_d, if_pos (by omega)]
          show _ = some (lnm l'.reverse 1, D)
          rw [(lnm_rev h4).2]
    exact ⟨this _, this⟩
  unfold f_X12_setBy
  obtain ⟨q, hq⟩ := FUs 2 (by omega)
  rw [hq, show 2 + 1 + q = (1 + q) + 1 + 1 by omega]
  show f_X12_setBy_2_b (f_X12_setBy_2 ((1 + q) + 1)) _ _ _ _ = _
  have : i = 0 ∨ i = 1 := by omega
  rcases this with rfl | rfl
  · have := fin.2 (f_X12_setBy_2 ((1 + q) + 1))
    rw [nI_0] at this
    exact this
  · unfold f_X12_setBy_2_b
    have n0 := nameAt_l (D := D) hM hl (i := 0) (by omega)
    rw [nI_0] at n0
    rw [h47, n0, bI_d, if_pos (show 0 < l.length by omega)]
    have hne : ¬ lnm l 0 = lnm l 1 := fun e => by
      have b1 : l.getD 0 0 < M := (hss_lt M hM l hl).1 1 (by omega) (by omega)
      have b2 : l.getD 1 0 < M := (hss_lt M hM l hl).1 2 (by omega) (by omega)
      have e2 := nI_inj (by omega) (by omega) e
      have := (hss_lt M hM l hl).2 1 (by omega) 2 (by omega) (by omega) (by omega) e2
      omega
    rw [if_neg hne, lt_d, show (0 : Int32) + 1 = nI 1 from rfl]
    exact fin.2 _
def asL (l p : List Nat) (i : Nat) : Int32 := dnm 100 (lnm l) (dig p i) i
theorem asL_app {l p s : List Nat} {i : Nat} (h : i < p.length) : asL l (p ++ s) i = asL l p i := by
  unfold asL
  rw [dig_app h]
theorem asL_eq {M : Nat} {l p : List Nat} {i n : Nat} (hM : M < 5) (hl : l ∈ hss M) (hn : n < l.length) (hd : dig p i ≤ l.length) (hi : i < 100) : asL l p i = lnm l n ↔ dig p i = n + 1 := by
  obtain ⟨b1, b2⟩ := hss_lt M hM l hl
  have q1 : l.getD n 0 < M := b1 (n + 1) (by omega) (by omega)
  unfold asL dnm
  by_cases h : dig p i = 0
  · rw [if_pos h, h]
    refine ⟨fun e => ?_, fun e => by omega⟩
    unfold lnm at e
    have := nI_inj (by omega) (by omega) e
    omega
  · rw [if_neg h]
    have q2 := b1 (dig p i) hd h
    refine ⟨fun e => ?_, fun e => by rw [e]; rfl⟩
    unfold lnm at e
    have := nI_inj (by omega) (by omega) e
    exact b2 _ hd (n + 1) (by omega) h (by omega) (by simpa using this)
abbrev SAA (j k : Nat) : Prop := j = 301 ∨ j = 302 ∨ (j = 281 ∧ (k = 3 ∨ k = 4 ∨ k = 5))
theorem aa110 {self : Int32 → Int32 → Int32 → Int32 → Dm → Option (Int32 × Dm)} {k76 : Int32 → Int32 → Int32 → Int32 → Int32 → Int32 → Dm → Option (Int32 × Dm)} {x1 x3 x4 x5 : Int32} {l p : List Nat} {n M : Nat} {D : Dm} (hM : M < 5) (hl : l ∈ hss M) (hp : p.length ≤ 3) (hn : n < l.length) (hd : ∀ i, i < p.length → dig p i ≤ l.length) (has : ∀ i, i < p.length → D 301 i = asL l p i) :
    ∀ (j i m : Nat), i + j = p.length → f_X12_areAlike_110 self k76 (j + 1 + m) x1 (nI p.length) x3 x4 x5 (nI n) (lnm l n) (b01 ((p.take i).contains (n + 1))) (nI i) D = if p.contains (n + 1) = true then f_X12_areAlike_189 self k76 x1 (nI p.length) x3 x4 x5 (nI n) D else gd (inB (nI p.length) 3) (lt (ud D 301 p.length (lnm l n)) fun D4 => bI (f_X12_setBy (lnm l n) x4 D4) fun y8 D6 => gd (inB (nI p.length) 3) (lt (ud D6 302 p.length y8) fun D10 => bI (self x1 (nI (p.length + 1)) x3 x4 D10) fun y14 D12 => f_X12_areAlike_189 self k76 x1 (nI p.length) x3 x4 y14 (nI n) D12)) := by
  have hl2 := (hss_in M hM l hl).1
  intro j
  induction j with
  | zero =>
    intro i m hi
    have hi : i = p.length := by omega
    rw [show 0 + 1 + m = m + 1 by omega]
    show f_X12_areAlike_110_b _ _ _ _ _ _ _ _ _ _ _ _ _ = _
    unfold f_X12_areAlike_110_b
    rw [hi, if_pos (nI_le (Nat.le_refl _) (by omega)), List.take_length, b01_if, nI_clamp (by omega), nI_1]
  | succ j ih =>
    intro i m hi
    rw [show j + 1 + 1 + m = (j + 1 + m) + 1 by omega]
    show f_X12_areAlike_110_b _ _ _ _ _ _ _ _ _ _ _ _ _ = _
    unfold f_X12_areAlike_110_b f_X12_areAlike_133 f_X12_areAlike_138
    rw [if_neg (nI_nle2 (by omega) (by omega)), b01_if, gd_t (inB_nI (by omega) (by omega)), nI_clamp (by omega), has i (by omega), lt_d, lt_d, nI_1]
    have ih := ih (i + 1) m (by omega)
    rw [take_c (by omega)] at ih
    rw [← ih]
    by_cases c : (p.take i).contains (n + 1) = true
    · rw [if_pos c, c]; rfl
    · have c' : (p.take i).contains (n + 1) = false := by simpa using c
      rw [if_neg c, c', Bool.false_or]
      have ee := asL_eq (M := M) (l := l) (p := p) (i := i) (n := n) hM hl hn (hd i (by omega)) (by omega)
      by_cases e : asL l p i = lnm l n
      · rw [if_pos e, decide_eq_true (ee.mp e).symm]; rfl
      · rw [if_neg e, decide_eq_false (fun q => e (ee.mpr q.symm))]; rfl
