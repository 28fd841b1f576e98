/-! ===== the reference: its machine, tests, the word that is looked at ===== -/
def MR (D : Dm) (m : Nat) (T : Tb) (acc : Int32) : Prop := wfT T ∧ (∀ k, k < 30 → rTo D m k = T.1 k ∧ rKe D m k = T.2.1 k ∧ rDr D m k = T.2.2 k) ∧ D 282 (94 * m + 3) = acc
theorem MR.fr {D D' : Dm} {m : Nat} {T : Tb} {acc : Int32} (h : MR D m T acc) (hF : ∀ k, D' 282 k = D 282 k) : MR D' m T acc := by
  refine ⟨h.1, fun k hk => ?_, by rw [hF]; exact h.2.2⟩
  have := h.2.1 k hk
  unfold rTo rKe rDr at this ⊢
  rw [hF, hF, hF]
  exact this
theorem MR.go {D : Dm} {m : Nat} {T : Tb} {acc x : Int32} (h : MR D m T acc) (hx : isMc x m) {y nm : Int32} (hs : okSt (D 281 3)) (hy : isSy y) : f_X12_goesBy x y nm D = some (setR D (step T (getR D) (y, nm))) := by
  obtain ⟨hT, he, -⟩ := h
  rw [goes_ok hx (fun k hk => by rw [(he k hk).2.1, (he k hk).2.2]; exact (hT k hk).2) hs hy]
  rw [mst_congr (to' := T.1) (keep' := T.2.1) (drop' := T.2.2) he (show okSt (getR D).1 from hs) hy]
  rfl
theorem MR.acc {D : Dm} {m : Nat} {T : Tb} {acc x : Int32} (h : MR D m T acc) (hx : isMc x m) : f_X12_accepts x D = some (b01 (tk acc (getR D)), D) := accepts_ok hx h.2.2
abbrev mc0 : isMc 0 0 := Or.inl ⟨rfl, rfl⟩
abbrev mc1 : isMc 1 1 := Or.inr ⟨rfl, rfl⟩
/-- one more than the greatest of the first n -/
def mxf (g : Nat → Nat) : Nat → Nat
  | 0 => 0
  | n + 1 => if mxf g n ≤ g n then g n + 1 else mxf g n
theorem mxf_congr {g h : Nat → Nat} : ∀ {n : Nat}, (∀ k, k < n → g k = h k) → mxf g n = mxf h n
  | 0, _ => rfl
  | n + 1, e => by
    unfold mxf
    rw [mxf_congr (fun k hk => e k (by omega)), e n (by omega)]
theorem mxf_gt {g : Nat → Nat} : ∀ {n k : Nat}, k < n → g k < mxf g n
  | 0, k, h => absurd h (Nat.not_lt_zero k)
  | n + 1, k, h => by
    unfold mxf
    by_cases e : k = n
    · rw [e]; split <;> omega
    · have := mxf_gt (g := g) (n := n) (k := k) (by omega)
      split <;> omega
theorem mxf_le {g : Nat → Nat} {M : Nat} : ∀ {n : Nat}, (∀ k, k < n → g k < M) → mxf g n ≤ M
  | 0, _ => Nat.zero_le _
  | n + 1, h => by
    unfold mxf
    have h1 := mxf_le (g := g) (M := M) (n := n) (fun k hk => h k (by omega))
    have h2 := h n (by omega)
    split <;> omega
theorem no_loop {D : Dm} {r1 n1 p n : Nat} {g : Nat → Nat} (hn1 : p + n ≤ n1) (h1 : n1 ≤ 100) (hg : ∀ k, k < n → g k < 1000 ∧ D r1 (p + k) = nI (g k)) : ∀ (j i m : Nat), i + j = n → f_X12_namesOf_6 (j + 1 + m) r1 n1 (nI p) (nI n) (nI (mxf g i)) (nI i) D = some (nI (mxf g n), D) := by
  have hb : ∀ i, i ≤ n → mxf g i ≤ 1000 := fun i hi => mxf_le (fun k hk => (hg k (by omega)).1)
  intro j
  induction j with
  | zero =>
    intro i m hi
    have hi : i = n := by omega
    rw [show 0 + 1 + m = m + 1 by omega]
    show f_X12_namesOf_6_b _ _ _ _ _ _ _ _ = _
    unfold f_X12_namesOf_6_b
    rw [hi, if_pos (nI_le (Nat.le_refl _) (by omega))]
  | succ j ih =>
    intro i m hi
    rw [show j + 1 + 1 + m = (j + 1 + m) + 1 by omega]
    show f_X12_namesOf_6_b _ _ _ _ _ _ _ _ = _
    unfold f_X12_namesOf_6_b f_X12_namesOf_36
    have q := hb i (by omega)
    obtain ⟨g1, g2⟩ := hg i (by omega)
    rw [if_neg (nI_nle2 (by omega) (by omega)), nI_add, gd_t (inB_nI (by omega) (by omega)), gd_t (inB_nI (by omega) (by omega)), nI_clamp (by omega), g2, lt_d, lt_d, nI_1, nI_1]
    have ih := ih (i + 1) m (by omega)
    unfold mxf at ih
    by_cases c : mxf g i ≤ g i
    · rw [if_pos c] at ih
      rw [if_neg (nI_nlt c (by omega))]
      refine ih.trans ?_
      cases n with
      | zero => omega
      | succ n => rfl
    · rw [if_neg c] at ih
      rw [if_pos (nI_lt (by omega) (by omega))]
      refine ih.trans ?_
      cases n with
      | zero => omega
      | succ n => rfl
theorem namesOf_ok {D : Dm} {r1 n1 p n : Nat} {g : Nat → Nat} (hn1 : p + n ≤ n1) (h1 : n1 ≤ 100) (hg : ∀ k, k < n → g k < 1000 ∧ D r1 (p + k) = nI (g k)) : f_X12_namesOf r1 n1 (nI p) (nI n) D = some (nI (mxf g n), D) := by
  unfold f_X12_namesOf
  obtain ⟨q, hq⟩ := FUs n (by omega)
  have := no_loop hn1 h1 hg n 0 q (by omega)
  rw [hq]
  have e0 : nI (mxf g 0) = 0 := nI_0
  rw [e0, nI_0] at this
  exact this
/-- the tests of the reference -/
def TR (D : Dm) (ts : Tst) (b : Nat) : Prop := b ≤ 10 ∧ D 281 28 = nI b ∧ ∀ t, t < b → ∃ n, n ≤ 6 ∧ D 292 t = nI n ∧ (ts t).1 = lts (fun k => D 293 (6 * t + k)) (fun k => D 294 (6 * t + k)) 0 n ∧ (ts t).2 ≤ 3 ∧ (∀ k, k < n → isSy (D 293 (6 * t + k)) ∧ ∃ j, j < (ts t).2 ∧ D 294 (6 * t + k) = nI j) ∧ (ts t).2 = mxf (fun k => (D 294 (6 * t + k)).toNatClampNeg) n
theorem TR.fr {D D' : Dm} {ts : Tst} {b : Nat} (h : TR D ts b) (h28 : D' 281 28 = D 281 28) (hF : ∀ j k, 292 ≤ j → j ≤ 294 → D' j k = D j k) : TR D' ts b := by
  obtain ⟨h1, h2, h3⟩ := h
  refine ⟨h1, by rw [h28, h2], fun t ht => ?_⟩
  have e2 : D' 292 = D 292 := funext (fun k => hF _ k (by omega) (by omega))
  have e3 : D' 293 = D 293 := funext (fun k => hF _ k (by omega) (by omega))
  have e4 : D' 294 = D 294 := funext (fun k => hF _ k (by omega) (by omega))
  rw [e2, e3, e4]
  exact h3 t ht
theorem TR.okT {D : Dm} {ts : Tst} {b : Nat} (h : TR D ts b) : okT ts b := by
  intro t ht
  obtain ⟨n, hn, -, e, hd, hs, -⟩ := h.2.2 t ht
  refine ⟨hd, fun a ha => ?_⟩
  rw [e] at ha
  obtain ⟨k, -, hk, rfl⟩ := lts_mem ha
  exact hs k (by omega)
theorem ownOf_ok {D : Dm} {ts : Tst} {b t : Nat} (h : TR D ts b) (ht : t < b) : f_X12_ownOf (nI t) D = some (nI (ts t).2, D) := by
  obtain ⟨hb, -, h3⟩ := h
  obtain ⟨n, hn, h292, -, hd, hs, hm⟩ := h3 t ht
  unfold f_X12_ownOf
  rw [gd_t (inB_nI (by omega) (by omega)), nI_clamp (by omega), h292, show (6 : Int32) = nI 6 from rfl, nI_mul]
  rw [namesOf_ok (g := fun k => (D 294 (6 * t + k)).toNatClampNeg) (by omega) (by omega) (fun k hk => ?_), bI_d, ← hm]
  obtain ⟨-, j, hj, e⟩ := hs k hk
  show (D 294 (6 * t + k)).toNatClampNeg < 1000 ∧ D 294 (6 * t + k) = nI (D 294 (6 * t + k)).toNatClampNeg
  rw [e, nI_clamp (by omega)]
  exact ⟨by omega, rfl⟩
/-- the word that is looked at -/
def LK (D : Dm) (l : List Lt) (M : Nat) : Prop := ∃ n, n ≤ 40 ∧ D 281 36 = nI n ∧ l = lts (D 299) (D 300) 0 n ∧ ∀ k, k < n → isSy (D 299 k) ∧ ∃ j, j < M ∧ D 300 k = nI j
theorem LK.fr {D D' : Dm} {l : List Lt} {M : Nat} (h : LK D l M) (h36 : D' 281 36 = D 281 36) (hF : ∀ j k, (j = 299 ∨ j = 300) → D' j k = D j k) : LK D' l M := by
  obtain ⟨n, h1, h2, h3, h4⟩ := h
  have e2 : D' 299 = D 299 := funext (fun k => hF _ k (by omega))
  have e3 : D' 300 = D 300 := funext (fun k => hF _ k (by omega))
  refine ⟨n, h1, by rw [h36, h2], ?_, ?_⟩
  · rw [e2, e3]; exact h3
  · rw [e2, e3]; exact h4
theorem runs_loop {D0 : Dm} {T : Tb} {acc : Int32} (hM : MR D0 0 T acc) {n : Nat} (hn : n ≤ 40) (h36 : D0 281 36 = nI n) (hy : ∀ k, k < n → isSy (D0 299 k)) :
    ∀ (j i m : Nat) (c : Cf), i + j = n → okSt c.1 → f_X12_runs_6 (j + 1 + m) (nI i) (setR D0 c) = some (setR D0 (run T c (lts (D0 299) (D0 300) i j))) := by
  have s0 : ∀ c, setR D0 c 281 36 = D0 281 36 := fun c => by rw [setR_at, if_neg (by omega), if_neg (by omega), if_neg (by omega)]
  have s1 : ∀ c, setR D0 c 299 = D0 299 := fun c => setR_ne (by decide)
  have s2 : ∀ c, setR D0 c 300 = D0 300 := fun c => setR_ne (by decide)
  have hM' : ∀ c, MR (setR D0 c) 0 T acc := fun c => hM.fr (fun k => by rw [setR_ne (by decide)])
  intro j
  induction j with
  | zero =>
    intro i m c hi hc
    have hi : i = n := by omega
    subst hi
    rw [show 0 + 1 + m = m + 1 by omega]
    show f_X12_runs_6_b _ _ _ = _
    unfold f_X12_runs_6_b
    rw [s0, h36, if_pos (nI_le (Nat.le_refl _) (by omega)), lts_zero, run_nil]
  | succ j ih =>
    intro i m c hi hc
    have hin : i < n := by omega
    rw [show j + 1 + 1 + m = (j + 1 + m) + 1 by omega]
    show f_X12_runs_6_b _ _ _ = _
    unfold f_X12_runs_6_b
    rw [s0, h36, if_neg (nI_nle2 (by omega) (by omega)), gd_t (inB_nI (by omega) (by omega)), gd_t (inB_nI (by omega) (by omega)), s1, s2, nI_clamp (by omega)]
    rw [(hM' c).go mc0 (by rw [show setR D0 c 281 3 = c.1 by simp [setR_at]]; exact hc) (hy i hin), bV_d, lt_d, getR_set, setR_set, nI_1]
    rw [ih (i + 1) m _ (by omega) (step_ok hM.1 hc (hy i hin)), lts_succ, run_cons]
theorem runs_ok {D : Dm} {T : Tb} {acc : Int32} (hM : MR D 0 T acc) {n : Nat} (hn : n ≤ 40) (h36 : D 281 36 = nI n) (hy : ∀ k, k < n → isSy (D 299 k)) : f_X12_runs D = some (setR D (run T c0 (lts (D 299) (D 300) 0 n))) := by
  unfold f_X12_runs
  rw [r_starts, bV_d]
  obtain ⟨q, hq⟩ := FUs n (by omega)
  have := runs_loop hM hn h36 hy n 0 q c0 (by omega) c0_ok
  rw [nI_0] at this
  rw [hq]
  exact this
def getO (D : Dm) : Cf := (D 281 37, D 281 38, D 281 39)
def getP (D : Dm) : Cf := (D 281 49, D 281 50, D 281 51)
abbrev SKO (j k : Nat) : Prop := j = 281 ∧ (k = 3 ∨ k = 4 ∨ k = 5 ∨ k = 37 ∨ k = 38 ∨ k = 39)
theorem keepsOne_ok {D : Dm} {T : Tb} {acc : Int32} {l : List Lt} {M : Nat} (hM : MR D 0 T acc) (hL : LK D l M) : Y (f_X12_keepsOne D) (fun D' => Fr SKO D D' ∧ getO D' = run T c0 l) := by
  obtain ⟨n, h1, h2, h3, h4⟩ := hL
  unfold f_X12_keepsOne
  rw [runs_ok hM h1 h2 (fun k hk => (h4 k hk).1), bV_d, ← h3]
  simp only [lt_d]
  refine yRet ⟨?_, ?_⟩
  · exact (((Fr.refl.r (by unfold SKO; omega) (by unfold SKO; omega) (by unfold SKO; omega)).ud (by unfold SKO; omega)).ud (by unfold SKO; omega)).ud (by unfold SKO; omega)
  · unfold getO
    simp [ud_at, setR_at]
theorem ra_loop {D0 : Dm} {T : Tb} {acc : Int32} {ts : Tst} {b t r5 : Nat} (hM : MR D0 0 T acc) (hT : TR D0 ts b) (ht : t < b) (hr : r5 = 301 ∨ r5 = 302) {n : Nat} (hn : n ≤ 6) (h292 : D0 292 t = nI n) (hs : ∀ k, k < n → isSy (D0 293 (6 * t + k)) ∧ ∃ j, j < 3 ∧ D0 294 (6 * t + k) = nI j) :
    ∀ (j i m : Nat) (c : Cf), i + j = n → okSt c.1 → f_X12_answers_11 (j + 1 + m) (nI t) r5 3 (nI i) (setR D0 c) = some (b01 (tk acc (run T c (ins (lts (fun k => D0 293 (6 * t + k)) (fun k => D0 294 (6 * t + k)) i j) (fun x => D0 r5 x.toNatClampNeg)))), setR D0 (run T c (ins (lts (fun k => D0 293 (6 * t + k)) (fun k => D0 294 (6 * t + k)) i j) (fun x => D0 r5 x.toNatClampNeg)))) := by
  have hb := hT.1
  have s0 : ∀ c, setR D0 c 292 = D0 292 := fun c => setR_ne (by decide)
  have s1 : ∀ c, setR D0 c 293 = D0 293 := fun c => setR_ne (by decide)
  have s2 : ∀ c, setR D0 c 294 = D0 294 := fun c => setR_ne (by decide)
  have s5 : ∀ c, setR D0 c r5 = D0 r5 := fun c => setR_ne (by omega)
  have hM' : ∀ c, MR (setR D0 c) 0 T acc := fun c => hM.fr (fun k => by rw [setR_ne (by decide)])
  have z01 : ∀ x, zbB (b01 x) = true := fun x => by cases x <;> rfl
  intro j
  induction j with
  | zero =>
    intro i m c hi hc
    have hi : i = n := by omega
    subst hi
    rw [show 0 + 1 + m = m + 1 by omega]
    show f_X12_answers_11_b _ _ _ _ _ _ = _
    unfold f_X12_answers_11_b
    rw [gd_t (inB_nI (by omega) (by omega)), s0, nI_clamp (by omega), h292, if_pos (nI_le (Nat.le_refl _) (by omega)), (hM' c).acc mc0, bI_d, gd_t (z01 _), getR_set]
    rfl
  | succ j ih =>
    intro i m c hi hc
    have hin : i < n := by omega
    obtain ⟨hy, q, hq, eq⟩ := hs i hin
    rw [show j + 1 + 1 + m = (j + 1 + m) + 1 by omega]
    show f_X12_answers_11_b _ _ _ _ _ _ = _
    unfold f_X12_answers_11_b
    rw [gd_t (inB_nI (by omega) (by omega)), s0, nI_clamp (by omega), h292, if_neg (nI_nle2 (by omega) (by omega)), show (6 : Int32) = nI 6 from rfl, nI_mul, nI_add, gd_t (inB_nI (by omega) (by omega)), gd_t (inB_nI (by omega) (by omega)), s1, s2, s5, nI_clamp (by omega), gd_t (by rw [eq]; exact inB_nI hq (by omega))]
    rw [(hM' c).go mc0 (by rw [show setR D0 c 281 3 = c.1 by simp [setR_at]]; exact hc) hy, bV_d, lt_d, getR_set, setR_set, nI_1]
    rw [ih (i + 1) m _ (by omega) (step_ok hM.1 hc hy), lts_succ]
    rfl
theorem ra_ok {D : Dm} {T : Tb} {acc : Int32} {ts : Tst} {b t r5 : Nat} {c : Cf} (hM : MR D 0 T acc) (hT : TR D ts b) (ht : t < b) (hr : r5 = 301 ∨ r5 = 302) (hc : okSt c.1) : Y (f_X12_answers (nI t) c.1 c.2.1 c.2.2 r5 3 D) (fun a => a.1 = b01 (ans T acc c (ts t).1 (fun x => D r5 x.toNatClampNeg)) ∧ ∃ c', a.2 = setR D c') := by
  obtain ⟨n, hn, h292, e, hd, hs, -⟩ := hT.2.2 t ht
  unfold f_X12_answers
  rw [r_stays, bV_d]
  obtain ⟨q, hq⟩ := FUs n (by omega)
  have := ra_loop hM hT ht hr hn h292 (fun k hk => ⟨(hs k hk).1, by obtain ⟨-, j, hj, e⟩ := hs k hk; exact ⟨j, by omega, e⟩⟩) n 0 q c (by omega) hc
  rw [nI_0] at this
  rw [hq, this]
  refine yRet ⟨?_, _, rfl⟩
  unfold ans
  rw [e]
theorem ra1_ok {D : Dm} {T : Tb} {acc : Int32} {ts : Tst} {b t : Nat} (hM : MR D 0 T acc) (hT : TR D ts b) (ht : t < b) (hc : okSt (getO D).1) : Y (f_X12_answersOne (nI t) D) (fun a => a.1 = b01 (ans T acc (getO D) (ts t).1 (fun x => D 301 x.toNatClampNeg)) ∧ ∃ c', a.2 = setR D c') := by
  unfold f_X12_answersOne
  refine yBI (ra_ok (r5 := 301) (c := getO D) hM hT ht (Or.inl rfl) hc) (fun r D1 h => ?_)
  dsimp only at h
  obtain ⟨e, c', e2⟩ := h
  refine yGd ?_ (yRet ⟨e, c', e2⟩)
  rw [e]
  cases ans T acc (getO D) (ts t).1 (fun x => D 301 x.toNatClampNeg) <;> rfl
