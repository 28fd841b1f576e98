/-! ===== the least form of a list of letters ===== -/
def lnms (l : List Lt) (k : Nat) : Int32 := (l.getD k (0, 0)).2
def lsym (l : List Lt) (k : Nat) : Int32 := (l.getD k (0, 0)).1
def lfm (l : List Lt) : List Lt := lts (lsym l) (fun k => nI (lsf (lnms l) k)) 0 l.length
def dsL (l : List Lt) : Nat := dsf (lnms l) l.length
theorem lfm_len {l : List Lt} : (lfm l).length = l.length := lts_len
theorem ltsD {f g : Nat → Int32} {n k : Nat} (h : k < n) : (lts f g 0 n).getD k (0, 0) = (f k, g k) := by
  rw [List.getD_eq_getElem?_getD, lts_get h]; rfl
theorem lts_self (l : List Lt) : l = lts (lsym l) (lnms l) 0 l.length := by
  apply List.ext_getElem?
  intro k
  by_cases h : k < l.length
  · rw [lts_get h]
    unfold lsym lnms
    rw [List.getD_eq_getElem?_getD, List.getElem?_eq_getElem h]; rfl
  · rw [List.getElem?_eq_none (by omega), List.getElem?_eq_none (by rw [lts_len]; omega)]
theorem lfm_lts {f g : Nat → Int32} {n : Nat} : lfm (lts f g 0 n) = lts f (fun k => nI (lsf g k)) 0 n := by
  unfold lfm
  rw [lts_len]
  refine lts_congr (fun k _ hk => ⟨?_, ?_⟩)
  · unfold lsym; rw [ltsD (by omega)]
  · rw [lsf_congr (g := g) (fun j hj => ?_)]
    unfold lnms; rw [ltsD (by omega)]
theorem dsL_lts {f g : Nat → Int32} {n : Nat} : dsL (lts f g 0 n) = dsf g n := by
  unfold dsL
  rw [lts_len]
  refine dsf_congr (fun k hk => ?_)
  unfold lnms; rw [ltsD hk]
theorem mxf_ls (f : Nat → Int32) : ∀ n, mxf (lsf f) n = dsf f n
  | 0 => rfl
  | n + 1 => by
    show (if mxf (lsf f) n ≤ lsf f n then lsf f n + 1 else mxf (lsf f) n) = dsf f n + if fi f (f n) n < n then 0 else 1
    rw [mxf_ls f n]
    obtain ⟨a, b, c⟩ := fi_spec f (f n) n
    by_cases h : fi f (f n) n < n
    · have : lsf f n < dsf f n := by
        unfold lsf
        exact dsf_lt h (fun j hj => by rw [c h]; exact b j hj)
      rw [if_neg (by omega), if_pos h]; rfl
    · have e : lsf f n = dsf f n := by
        unfold lsf
        rw [show fi f (f n) n = n by omega]
      rw [if_pos (by omega), if_neg h, e]
theorem dsL_mxf {l : List Lt} : dsL l = mxf (lsf (lnms l)) l.length := (mxf_ls _ _).symm
section
variable {f g : Nat → Int32} {n : Nat}
theorem fi_pat (h : ∀ i j, i < n → j < n → (f i = f j ↔ g i = g j)) {k : Nat} (hk : k < n) : fi f (f k) k = fi g (g k) k := by
  obtain ⟨a, b, c⟩ := fi_spec g (g k) k
  exact fi_uniq a (fun j hj e => b j hj ((h j k (by omega) hk).1 e)) (fun q => (h _ k (by omega) hk).2 (c q))
theorem dsf_pat (h : ∀ i j, i < n → j < n → (f i = f j ↔ g i = g j)) : ∀ {k : Nat}, k ≤ n → dsf f k = dsf g k
  | 0, _ => rfl
  | k + 1, hk => by
    unfold dsf
    rw [dsf_pat h (k := k) (by omega), fi_pat h (k := k) (by omega)]
theorem lsf_pat (h : ∀ i j, i < n → j < n → (f i = f j ↔ g i = g j)) {k : Nat} (hk : k < n) : lsf f k = lsf g k := by
  unfold lsf
  rw [fi_pat h hk]
  exact dsf_pat h (by have := (fi_spec g (g k) k).1; omega)
end
theorem SimW.len {R : Int32 → Int32 → Prop} : ∀ {v w : List Lt}, SimW R v w → v.length = w.length
  | [], [], _ => rfl
  | _ :: _, _ :: _, h => by rw [List.length_cons, List.length_cons, SimW.len h.2.2]
  | [], _ :: _, hw => absurd hw (by simp [SimW])
  | _ :: _, [], hw => absurd hw (by simp [SimW])
theorem SimW.get {R : Int32 → Int32 → Prop} : ∀ {v w : List Lt}, SimW R v w → ∀ k, k < v.length → lsym v k = lsym w k ∧ R (lnms v k) (lnms w k)
  | [], [], _, k, hk => absurd hk (Nat.not_lt_zero k)
  | _ :: _, _ :: _, h, 0, _ => ⟨h.1, h.2.1⟩
  | _ :: _, _ :: _, h, k + 1, hk => SimW.get h.2.2 k (by rw [List.length_cons] at hk; omega)
  | [], _ :: _, hw, _, _ => absurd hw (by simp [SimW])
  | _ :: _, [], hw, _, _ => absurd hw (by simp [SimW])
theorem lfm_sim {R : Int32 → Int32 → Prop} (hR : Bij R) {v w : List Lt} (h : SimW R v w) : lfm v = lfm w ∧ dsL v = dsL w := by
  have hl := h.len
  have hg := h.get
  have hp : ∀ i j, i < v.length → j < v.length → (lnms v i = lnms v j ↔ lnms w i = lnms w j) := fun i j hi hj => hR.2 _ _ _ _ (hg i hi).2 (hg j hj).2
  constructor
  · unfold lfm
    rw [← hl]
    refine lts_congr (fun k _ hk => ⟨(hg k (by omega)).1, ?_⟩)
    rw [lsf_pat hp (by omega)]
  · unfold dsL
    rw [← hl]
    exact dsf_pat hp (Nat.le_refl _)
theorem lsf_lfm {l : List Lt} {k : Nat} (hk : k < l.length) : lnms (lfm l) k = nI (lsf (lnms l) k) := by
  unfold lnms lfm; rw [ltsD hk]; rfl
theorem lfm_iff {l : List Lt} : lfm l = l ↔ ∀ k, k < l.length → lnms l k = nI (lsf (lnms l) k) := by
  constructor
  · intro h k hk
    have := lsf_lfm hk
    rw [h] at this
    exact this
  · intro h
    unfold lfm
    refine Eq.trans ?_ (lts_self l).symm
    exact lts_congr (fun k _ hk => ⟨rfl, (h k (by omega)).symm⟩)
theorem lnms_app {l : List Lt} {x : Lt} {k : Nat} : lnms (l ++ [x]) k = if k < l.length then lnms l k else if k = l.length then x.2 else 0 := by
  unfold lnms
  rw [List.getD_eq_getElem?_getD, List.getD_eq_getElem?_getD]
  by_cases h : k < l.length
  · rw [if_pos h, List.getElem?_append_left h]
  · rw [if_neg h, List.getElem?_append_right (by omega)]
    by_cases e : k = l.length
    · rw [if_pos e, e, Nat.sub_self]; rfl
    · rw [if_neg e, List.getElem?_eq_none (by rw [List.length_singleton]; omega)]; rfl
theorem lfm_snoc {l : List Lt} {s : Int32} {m : Nat} (hl : l.length ≤ 20) (h : lfm l = l) (hm : m ≤ dsL l) : lfm (l ++ [(s, nI m)]) = l ++ [(s, nI m)] := by
  rw [lfm_iff] at h ⊢
  have e1 : ∀ k, k < l.length → lnms (l ++ [(s, nI m)]) k = lnms l k := fun k hk => by rw [lnms_app, if_pos hk]
  have e2 : lnms (l ++ [(s, nI m)]) l.length = nI m := by rw [lnms_app, if_neg (Nat.lt_irrefl _), if_pos rfl]
  have e3 : ∀ k, k < l.length → lnms (l ++ [(s, nI m)]) k = nI (lsf (lnms (l ++ [(s, nI m)])) k) := fun k hk => by
    rw [e1 k hk, h k hk, lsf_congr (g := lnms l) (fun j hj => e1 j (by omega))]
  intro k hk
  rw [List.length_append, List.length_singleton] at hk
  by_cases e : k = l.length
  · rw [e, e2, lsf_app hl e3 e2]
    rw [dsf_congr e1]; exact hm
  · exact e3 k (by omega)
theorem dsL_snoc {l : List Lt} {s : Int32} {m : Nat} (hl : l.length ≤ 20) (h : lfm l = l) (hm : m ≤ dsL l) : dsL (l ++ [(s, nI m)]) = if m = dsL l then dsL l + 1 else dsL l := by
  have h2 := lfm_snoc (s := s) hl h hm
  have hd := dsf_le (lnms l) l.length
  rw [lfm_iff] at h2
  have e1 : ∀ k, k < l.length → lnms (l ++ [(s, nI m)]) k = lnms l k := fun k hk => by rw [lnms_app, if_pos hk]
  have e2 : lnms (l ++ [(s, nI m)]) l.length = nI m := by rw [lnms_app, if_neg (Nat.lt_irrefl _), if_pos rfl]
  have e5 := lsf_app (f := lnms (l ++ [(s, nI m)])) hl (fun k hk => h2 k (by rw [List.length_append, List.length_singleton]; omega)) e2 (by rw [dsf_congr e1]; exact hm)
  have : dsL (l ++ [(s, nI m)]) = mxf (lsf (lnms (l ++ [(s, nI m)]))) (l.length + 1) := by
    rw [dsL_mxf, List.length_append, List.length_singleton]
  rw [this]
  show (if mxf (lsf (lnms (l ++ [(s, nI m)]))) l.length ≤ lsf (lnms (l ++ [(s, nI m)])) l.length then lsf (lnms (l ++ [(s, nI m)])) l.length + 1 else mxf (lsf (lnms (l ++ [(s, nI m)]))) l.length) = _
  rw [mxf_ls, e5, dsf_congr e1]
  unfold dsL at hm ⊢
  by_cases c : m = dsf (lnms l) l.length
  · rw [if_pos (by omega), if_pos c, c]
  · rw [if_neg (by omega), if_neg c]
theorem fi_self {f : Nat → Int32} {k : Nat} : f (fi f (f k) k) = f k ∧ (∀ j, j < fi f (f k) k → f j ≠ f k) ∧ fi f (f k) k ≤ k := by
  obtain ⟨a, b, c⟩ := fi_spec f (f k) k
  refine ⟨?_, b, a⟩
  by_cases h : fi f (f k) k < k
  · exact c h
  · rw [show fi f (f k) k = k by omega]
theorem lsf_eq {f : Nat → Int32} {i j : Nat} : lsf f i = lsf f j ↔ f i = f j := by
  obtain ⟨a1, b1, c1⟩ := fi_self (f := f) (k := i)
  obtain ⟨a2, b2, c2⟩ := fi_self (f := f) (k := j)
  constructor
  · intro h
    unfold lsf at h
    rcases Nat.lt_trichotomy (fi f (f i) i) (fi f (f j) j) with q | q | q
    · have := dsf_lt (f := f) q (fun p hp => by rw [a1]; exact b1 p hp); omega
    · rw [← a1, q, a2]
    · have := dsf_lt (f := f) q (fun p hp => by rw [a2]; exact b2 p hp); omega
  · intro h
    have : fi f (f i) i = fi f (f j) j := by
      rcases Nat.lt_trichotomy (fi f (f i) i) (fi f (f j) j) with q | q | q
      · exact absurd (a1.trans h) (b2 _ q)
      · exact q
      · exact absurd (a2.trans h.symm) (b1 _ q)
    unfold lsf
    rw [this]
theorem lsf_le (f : Nat → Int32) (k : Nat) : lsf f k ≤ k := by
  have h1 := dsf_le f (fi f (f k) k)
  have h2 := (fi_spec f (f k) k).1
  unfold lsf; omega
theorem lsf_lsf {f : Nat → Int32} {n : Nat} (hn : n ≤ 1000) : (∀ k, k < n → lsf (fun k => nI (lsf f k)) k = lsf f k) ∧ dsf (fun k => nI (lsf f k)) n = dsf f n := by
  have hp : ∀ i j, i < n → j < n → ((fun k => nI (lsf f k)) i = (fun k => nI (lsf f k)) j ↔ f i = f j) := fun i j hi hj => by
    show nI (lsf f i) = nI (lsf f j) ↔ _
    exact ⟨fun h => lsf_eq.mp (nI_inj (by have := lsf_le f i; omega) (by have := lsf_le f j; omega) h), fun h => by rw [lsf_eq.mpr h]⟩
  exact ⟨fun k hk => lsf_pat hp hk, dsf_pat hp (Nat.le_refl _)⟩
theorem lfm_lfm {l : List Lt} (hl : l.length ≤ 1000) : lfm (lfm l) = lfm l ∧ dsL (lfm l) = dsL l := by
  obtain ⟨h1, h2⟩ := lsf_lsf (f := lnms l) hl
  constructor
  · conv => lhs; rw [show lfm l = lts (lsym l) (fun k => nI (lsf (lnms l) k)) 0 l.length from rfl]
    rw [lfm_lts]
    exact lts_congr (fun k _ hk => ⟨rfl, by rw [h1 k (by omega)]⟩)
  · rw [show lfm l = lts (lsym l) (fun k => nI (lsf (lnms l) k)) 0 l.length from rfl, dsL_lts, h2]; rfl
