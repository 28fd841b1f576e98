/-! rows for constructors: the layout grows -/
/-- a cell's numbers are all 0 -/
def zr (D : Dm) (n : Nat) : Dm := fun j => if j = n then (fun _ => 0) else D j
theorem mw_app {tA : Nat → ClassId} {z : Nat} {L : List Sh} {D : Dm} {sh : Sh} : mw tA z (L ++ [sh]) (zr D L.length) = mw tA z L D ++ [(z + L.length, cellOf tA z (fun _ => 0) sh)] := by
  apply List.ext_getElem?
  intro j
  rcases Nat.lt_trichotomy j L.length with h | h | h
  · rw [List.getElem?_append_left (by rw [mw_len]; exact h)]
    simp only [mw, List.getElem?_mapIdx, List.getElem?_append_left h]
    rw [show zr D L.length j = D j by simp [zr, Nat.ne_of_lt h]]
  · subst h
    rw [List.getElem?_append_right (by rw [mw_len]; exact Nat.le_refl _), mw_len, Nat.sub_self]
    simp [mw, List.getElem?_mapIdx, zr]
  · rw [List.getElem?_eq_none (by rw [mw_len, List.length_append]; simp; omega), List.getElem?_eq_none (by rw [List.length_append, mw_len]; simp; omega)]
theorem obj_setr {z : Nat} {fs : List Sf} {d : Nat → Int32} {k j : Nat} (hk : k < fs.length) : (fs.mapIdx (fun a o => sfv z d a o)).set k (.ref (z + j)) = (fs.set k (some (some j))).mapIdx (fun a o => sfv z d a o) := by
  apply List.ext_getElem?
  intro a
  by_cases ha : a = k
  · subst ha
    rw [List.getElem?_set_self (by rw [List.length_mapIdx]; exact hk)]
    rw [List.getElem?_mapIdx, List.getElem?_set_self hk]
    rfl
  · rw [List.getElem?_set_ne (Ne.symm ha), List.getElem?_mapIdx, List.getElem?_mapIdx, List.getElem?_set_ne (Ne.symm ha)]
/-- what the layout says, asked at run time -/
def gR (L : List Sh) (i ci k : Nat) : Option Nat := match L[i]? with
  | some (.inr (.inr q)) => if q.1 = ci then (match q.2[k]? with
    | some (some (some j)) => some j
    | _ => none) else none
  | _ => none
theorem gR_ok {L : List Sh} {i ci k j : Nat} (h : gR L i ci k = some j) : ∃ fs, L[i]? = some (.inr (.inr (ci, fs))) ∧ fs[k]? = some (some (some j)) := by
  unfold gR at h
  split at h
  · rename_i q hq
    split at h
    · rename_i hc
      split at h
      · rename_i j' hj
        cases h
        obtain ⟨c, fs⟩ := q
        cases hc
        exact ⟨fs, hq, hj⟩
      · cases h
    · cases h
  · cases h
def pR (L : List Sh) (i ci k j : Nat) : Option (List Sh) := match L[i]? with
  | some (.inr (.inr q)) => if q.1 = ci then (match q.2[k]? with
    | some (some _) => some (L.set i (.inr (.inr (ci, q.2.set k (some (some j))))))
    | _ => none) else none
  | _ => none
theorem pR_ok {L L1 : List Sh} {i ci k j : Nat} (h : pR L i ci k j = some L1) : ∃ fs o, L[i]? = some (.inr (.inr (ci, fs))) ∧ fs[k]? = some (some o) ∧ L1 = L.set i (.inr (.inr (ci, fs.set k (some (some j))))) := by
  unfold pR at h
  split at h
  · rename_i q hq
    split at h
    · rename_i hc
      split at h
      · rename_i o ho
        cases h
        obtain ⟨c, fs⟩ := q
        cases hc
        exact ⟨fs, o, hq, ho, rfl⟩
      · cases h
    · cases h
  · cases h
def cI (L : List Sh) (i ci k : Nat) : Bool := match L[i]? with
  | some (.inr (.inr q)) => decide (q.1 = ci) && (match q.2[k]? with
    | some none => true
    | _ => false)
  | _ => false
theorem cI_ok {L : List Sh} {i ci k : Nat} (h : cI L i ci k = true) : ∃ fs, L[i]? = some (.inr (.inr (ci, fs))) ∧ fs[k]? = some none := by
  unfold cI at h
  split at h
  · rename_i q hq
    obtain ⟨c, fs⟩ := q
    simp only [Bool.and_eq_true, decide_eq_true_eq] at h
    obtain ⟨rfl, h⟩ := h
    split at h
    · rename_i hn
      exact ⟨fs, hq, hn⟩
    · cases h
  · cases h
def cA (L : List Sh) (i t : Nat) : Option Nat := match L[i]? with
  | some (.inl q) => if q.1 = t then some q.2 else none
  | _ => none
theorem cA_ok {L : List Sh} {i t n : Nat} (h : cA L i t = some n) : L[i]? = some (.inl (t, n)) := by
  unfold cA at h
  split at h
  · rename_i q hq
    split at h
    · rename_i hc
      cases h
      obtain ⟨a, b⟩ := q
      cases hc
      exact hq
    · cases h
  · cases h
def cS (L : List Sh) (i ci : Nat) : Bool := match L[i]? with
  | some (.inr (.inr q)) => decide (q.1 = ci)
  | _ => false
theorem cS_ok {L : List Sh} {i ci : Nat} (h : cS L i ci = true) : ∃ fs, L[i]? = some (.inr (.inr (ci, fs))) := by
  unfold cS at h
  split at h
  · rename_i q hq
    obtain ⟨c, fs⟩ := q
    simp only [decide_eq_true_eq] at h
    subst h
    exact ⟨fs, hq⟩
  · cases h
def gA (L : List Sh) (i t k : Nat) : Option Nat := match L[i]? with
  | some (.inr (.inl q)) => if q.1 = t then (match q.2[k]? with
    | some (some j) => some j
    | _ => none) else none
  | _ => none
theorem gA_ok {L : List Sh} {i t k j : Nat} (h : gA L i t k = some j) : ∃ rs, L[i]? = some (.inr (.inl (t, rs))) ∧ rs[k]? = some (some j) := by
  unfold gA at h
  split at h
  · rename_i q hq
    split at h
    · rename_i hc
      split at h
      · rename_i j' hj
        cases h
        obtain ⟨c, fs⟩ := q
        cases hc
        exact ⟨fs, hq, hj⟩
      · cases h
    · cases h
  · cases h
def pA (L : List Sh) (i t k j : Nat) : Option (List Sh) := match L[i]? with
  | some (.inr (.inl q)) => if q.1 = t ∧ k < q.2.length then some (L.set i (.inr (.inl (t, q.2.set k (some j))))) else none
  | _ => none
theorem pA_ok {L L1 : List Sh} {i t k j : Nat} (h : pA L i t k j = some L1) : ∃ rs, L[i]? = some (.inr (.inl (t, rs))) ∧ k < rs.length ∧ L1 = L.set i (.inr (.inl (t, rs.set k (some j)))) := by
  unfold pA at h
  split at h
  · rename_i q hq
    split at h
    · rename_i hc
      cases h
      obtain ⟨c, rs⟩ := q
      obtain ⟨rfl, hk⟩ := hc
      exact ⟨rs, hq, hk, rfl⟩
    · cases h
  · cases h
/-- a blank object of a class -/
def NB (ci N : Nat) (ty : Nat → FieldType) (bl : List Sf) : Prop := bl.length = N ∧ ∀ z j, j < N → defaultValue (ty j) = vp_V (bl.mapIdx (fun k o => sfv z (fun _ => 0) k o)) j
section CTOR
variable {p : Program} {l : Launch} {e : Env} {R : Room} {s : State} {m : MethodId} {args : Array Value} {below : List Frame} {meth : Method} {c : Code} {H : Heap} {locs : List Loc} {cells slots : Nat} {Q : State → Prop}
variable {cc : ByteArray} {pc : Nat} {ls : Array Slot} {rest : List Value} {G : va_G} {tA : Nat → ClassId} {z : Nat} {E : Ex} {L : List Sh} {D : Dm} {own : String} {index nL : Nat}
theorem hp_push {sh : Sh} {H1 : Heap} (hH : Hp G tA z L D s.heap H locs) (z1 : H1.size = H.size + 1) (o1 : ∀ q : Nat, q < H.size → H1[q]? = H[q]?) (h : va_at G classes (z + L.length, cellOf tA z (fun _ => 0) sh) H1) : Hp G tA z (L ++ [sh]) (zr D L.length) s.heap H1 locs := by
  obtain ⟨hs, hP, hS⟩ := hH
  refine ⟨by rw [z1, hs, List.length_append]; simp; omega, ?_, ⟨Nat.le_trans hS.1 (by omega), fun x h1 h2 => (o1 x (Nat.lt_of_lt_of_le h1 hS.1)).trans (hS.2.1 x h1 h2), hS.2.2⟩⟩
  rw [mw_app]
  refine (hP.kept (fun k x hx => o1 x.1 ((hP k x hx).lt))).app (fun k x hx => ?_)
  have hz : k < 1 := (List.getElem?_eq_some_iff.mp hx).1
  rw [show k = 0 by omega] at hx
  cases hx
  exact h
theorem hc_new {C : String} {T : u_T} {N ci q : Nat} {ty : Nat → FieldType} {bl : List Sf} {L1 : List Sh} {D1 : Dm} (O : Ok G tA z E cc own nL p s m args c) (hH : Hp G tA z L D s.heap H locs) (cb : CB ci C T N ty) (nb : NB ci N ty bl) (hcl : Cond.classLink own index C ∈ WS) (hinst : Cond.instantiable C N ∈ WS) (hini : Cond.initialized C ∈ WS) (hcells : cells + 1 ≤ R.cells) (hslots : slots + N ≤ R.slots) (hq : q = L.length) (hL1 : L1 = L ++ [.inr (.inr (ci, bl))]) (hD1 : D1 = zr D L.length) (hdg : decode cc pc = .ok (.new index, 3))
    (kk : ∀ H1 : Heap, Hp G tA z L1 D1 s.heap H1 locs → W p l e R s m args below meth c H1 locs (cells + 1) (slots + N) Q (F0 m (pc + 3) ls (.ref (z + q) :: rest))) : W p l e R s m args below meth c H locs cells slots Q (F0 m pc ls rest) := by
  obtain ⟨hx, hb, -, hown, hts, hK, -⟩ := O
  obtain ⟨hc, hin, hty, -⟩ := cb
  have hKn := hK.1 ci _ hc
  refine W.newcK hx hb hown (hts _ hcl) (hts _ hinst) (hts _ hini) rfl hdg hcells hslots hKn.2.1 rfl fun H1 kC hkC e1 z1 o1 => ?_
  have hw := kk H1 (by
    rw [hL1, hD1]
    refine hp_push hH z1 o1 ⟨_, hc, ?_⟩
    rw [← hH.1]
    exact (u_born ty hts hin hKn hkC e1 hty).to (fun j hj => nb.2 z j hj))
  rw [hq, ← hH.1] at hw
  exact hw
theorem hc_newa {atype : ArrayType} {t q N' : Nat} {ty : FieldType} {n : Int32} {L1 : List Sh} {D1 : Dm} (O : Ok G tA z E cc own nL p s m args c) (hH : Hp G tA z L D s.heap H locs) (harr : Cond.arrayClass (newarray.typeOf atype) ∈ WS) (hty : newarray.typeOf atype = ty) (ht : (tys tA)[t]? = some (tA t, ty)) (hra : ∀ c, va_RA s c ty = (s.vm.findClass ("[" ++ ty.toString) = some c)) (hdv : defaultValue ty = .int 0) (hn : ¬ n < 0) (hN : n.toNatClampNeg = N') (hbytes : N' * componentBytes ty ≤ 536870912) (hcells : cells + 1 ≤ R.cells) (hslots : slots + N' ≤ R.slots) (hq : q = L.length) (hL1 : L1 = L ++ [.inl (t, N')]) (hD1 : D1 = zr D L.length) (hdg : decode cc pc = .ok (.newarray atype, 2))
    (kk : ∀ H1 : Heap, Hp G tA z L1 D1 s.heap H1 locs → W p l e R s m args below meth c H1 locs (cells + 1) (slots + N') Q (F0 m (pc + 2) ls (.ref (z + q) :: rest))) : W p l e R s m args below meth c H locs cells slots Q (F0 m pc ls (.int n :: rest)) := by
  obtain ⟨hx, hb, -, hown, hts, hK, -⟩ := O
  subst hty
  refine va_newaK hx hb (hts _ harr) rfl hdg rfl hn hN hbytes hcells hslots rfl fun H1 cA e1 z1 o1 hAr hNm => ?_
  have hra2 := (hK.2 t _ ht).2
  rw [hra] at hra2
  have hcA : cA = tA t := Option.some.inj (hNm.symm.trans hra2)
  have hw := kk H1 (by
    rw [hL1, hD1]
    refine hp_push hH z1 o1 ?_
    show H1[z + L.length]? = some (vp_cell (tA t) (N', .inl (fun _ => 0)))
    rw [← hH.1, vp_cell_i, ← hcA]
    rw [hdv] at e1
    exact e1)
  rw [hq, ← hH.1] at hw
  exact hw
theorem hc_anew {C : String} {t q N' : Nat} {n : Int32} {L1 : List Sh} {D1 : Dm} (O : Ok G tA z E cc own nL p s m args c) (hH : Hp G tA z L D s.heap H locs) (hcl : Cond.classLink own index C ∈ WS) (hov : C ∈ overs) (ht : (tys tA)[t]? = some (tA t, .object C)) (hn : ¬ n < 0) (hN : n.toNatClampNeg = N') (hbytes : N' * 4 ≤ 536870912) (hcells : cells + 1 ≤ R.cells) (hslots : slots + N' ≤ R.slots) (hq : q = L.length) (hL1 : L1 = L ++ [.inr (.inl (t, List.replicate N' none))]) (hD1 : D1 = zr D L.length) (hdg : decode cc pc = .ok (.anewarray index, 3))
    (kk : ∀ H1 : Heap, Hp G tA z L1 D1 s.heap H1 locs → W p l e R s m args below meth c H1 locs (cells + 1) (slots + N') Q (F0 m (pc + 3) ls (.ref (z + q) :: rest))) : W p l e R s m args below meth c H locs cells slots Q (F0 m pc ls (.int n :: rest)) := by
  obtain ⟨hx, hb, -, hown, hts, hK, hN0, -⟩ := O
  subst hN
  refine W.anew hx hb hown (hts _ hcl) (va_AO.use (hN0.2.1 C hov)) rfl hdg rfl hn hbytes hcells hslots fun cA kA comp f1 f2 f3 f4 => ?_
  obtain ⟨kA2, comp2, g1, g2, g3, g4⟩ := (hK.2 t _ ht).2
  have hcA : cA = tA t := Option.some.inj (f1.symm.trans g4)
  generalize hH1 : H.push ({ cls := cA, slots := Array.replicate n.toNatClampNeg .null, vm := .none } : Cell) = H1
  have z1 : H1.size = H.size + 1 := by rw [← hH1, Array.size_push]
  have e1 : H1[H.size]? = some (arrV cA n.toNatClampNeg (fun _ => .null)) := by rw [← hH1, Array.getElem?_push_size, ← arrV_new]
  have o1 : ∀ q : Nat, q < H.size → H1[q]? = H[q]? := fun q hq => by rw [← hH1, Array.getElem?_push, if_neg (Nat.ne_of_lt hq)]
  have hw := kk H1 (by
    rw [hL1, hD1]
    refine hp_push hH z1 o1 ?_
    show H1[z + L.length]? = some (vp_cell (tA t) ((List.replicate n.toNatClampNeg (none : Option Nat)).length, .inr (.inr (.inr (.inr (fun k => ((List.replicate n.toNatClampNeg (none : Option Nat)).getD k none).map (fun j => z + j)))))))
    have hf : (fun k => ((List.replicate n.toNatClampNeg (none : Option Nat)).getD k none).map (fun j => z + j)) = fun _ => none := by
      funext k
      rw [List.getD_eq_getElem?_getD, List.getElem?_replicate]
      split <;> rfl
    rw [hf, List.length_replicate, ← hH.1, vp_cell_q, ← hcA]
    exact e1)
  rw [hq, ← hH.1] at hw
  exact hw
/-- a reference is put into a final field, in a constructor -/
theorem hc_putr {i ci k j : Nat} {fs : List Sf} {o : Option Nat} {tg : FieldType} {L1 : List Sh} (O : Ok G tA z E cc own nL p s m args c) (hnm : meth.name = "<init>") (hH : Hp G tA z L D s.heap H locs) (hi : L[i]? = some (.inr (.inr (ci, fs)))) (hf : fs[k]? = some (some o)) (fl : FL own index ci k tg true) (hcl : ∀ C T N, classes[ci]? = some (C, T, N) → C = own) (hfit : ∀ v, narrow tg (.ref v) = .ref v ∧ fits tg (.ref v) = true) (hL1 : L1 = L.set i (.inr (.inr (ci, fs.set k (some (some j)))))) (hdg : decode cc pc = .ok (.putfield index, 3))
    (kk : ∀ (H1 : Heap) (locs1 : List Loc), Hp G tA z L1 D s.heap H1 locs1 → W p l e R s m args below meth c H1 locs1 cells slots Q (F0 m (pc + 3) ls rest)) : W p l e R s m args below meth c H locs cells slots Q (F0 m pc ls (.ref (z + j) :: .ref (z + i) :: rest)) := by
  obtain ⟨hx, hb, -, hown, hts, hK, -⟩ := O
  obtain ⟨C, T, N, ty, ⟨hc, hin, hty, hnm2⟩, hk, hlk, hd, hfin, hdC⟩ := fl
  have hCo : C = own := hcl C T N hc
  have hP := hH.2.1
  have hap := va_apart (own := own) hts hin ty hty hnm2 hK hc
  obtain ⟨r, h1, cell, q1, q2, q3, q4⟩ := hP i _ (mw_get hi)
  have hr : r = (C, T, N) := Option.some.inj (h1.symm.trans hc)
  subst hr
  obtain ⟨hS, hfc, kC, hkC, hkind⟩ := hK.1 ci _ hc
  obtain ⟨cf, kf, fi, f, hi2, hsl⟩ := hS k hk
  have hlay := hts _ (hin _ (u_in_lay hk))
  unfold u_lay at hlay
  rw [if_pos hfin] at hlay
  have hst := (u_facts hfc hkC (u_lays hts hin hk) hi2).1
  have hcf : m.cls = cf := by
    obtain ⟨_, _, c', _, _, _, -, -, hf', -, -, -, hown2, -⟩ := Cond.laysFinal_spec hlay
    have e1 : c' = cf := by have := hi2.symm.trans hf'; simp at this; exact this.1.symm
    rw [hdC, hCo] at hown2
    rw [← e1]; exact Option.some.inj (hown.symm.trans hown2)
  have h6 := u_fits (v := .ref (z + j)) hfc hkC hkind (Or.inr hlay) hi2 hd (hfit _).1 (hfit _).2
  have hlen : k < fs.length := (List.getElem?_eq_some_iff.mp hf).1
  refine W.putFinK hx hb hown (hts _ hlk) hi2 hst hcf hnm (by rw [q2]; exact h6) q1 q3 (by rw [hsl]; exact k2_hasslot (q4 k hk)) rfl rfl hdg fun H' e1 e2 e3 => ?_
  rw [hsl] at e1 ⊢
  refine kk H' _ ⟨by rw [e2, hH.1, hL1, List.length_set], ?_, hH.2.2.put e2 e3 (Nat.le_add_right z i)⟩
  have hset := hP.set (e := .inr (ci, (fs.mapIdx (fun k o => sfv z (D i) k o)).set k (.ref (z + j)))) mw_D (mw_get hi) ⟨_, hc, t_OB.to (V := updV (vp_V _) k (.ref (z + j))) ⟨_, e1, q2, q3, t_set q4 hap hk (.ref (z + j))⟩ (fun j' _ => vp_updV_set (by rw [List.length_mapIdx]; exact hlen) (.ref (z + j)) j')⟩ e3
  have he : (mw tA z L D).set i (z + i, .inr (ci, (fs.mapIdx (fun k o => sfv z (D i) k o)).set k (.ref (z + j)))) = mw tA z L1 D := by
    rw [hL1]
    apply List.ext_getElem?
    intro a
    have hil : i < L.length := (List.getElem?_eq_some_iff.mp hi).1
    by_cases ha : a = i
    · subst ha
      rw [List.getElem?_set_self (by rw [mw_len]; exact hil), mw_get (List.getElem?_set_self hil), obj_setr hlen]
      rfl
    · rw [List.getElem?_set_ne (Ne.symm ha)]
      simp only [mw, List.getElem?_mapIdx, List.getElem?_set_ne (Ne.symm ha)]
  rw [he] at hset
  exact hset
theorem hc_puti (O : Ok G tA z E cc own nL p s m args c) (hH : Hp G tA z L D s.heap H locs) {i ci k : Nat} {fs : List Sf} {v : Int32} {D1 : Dm} {tg : FieldType} (hi : L[i]? = some (.inr (.inr (ci, fs)))) (hf : fs[k]? = some none) (fl : FL own index ci k tg false) (hnar : narrow tg (.int v) = .int v) (hfit : fits tg (.int v) = true) (hD1 : D1 = ud D i k v) (hdg : decode cc pc = .ok (.putfield index, 3))
    (kk : ∀ (H1 : Heap) (locs1 : List Loc), Hp G tA z L D1 s.heap H1 locs1 → W p l e R s m args below meth c H1 locs1 cells slots Q (F0 m (pc + 3) ls rest)) : W p l e R s m args below meth c H locs cells slots Q (F0 m pc ls (.int v :: .ref (z + i) :: rest)) := by
  obtain ⟨hx, hb, -, hown, hts, hK, -⟩ := O
  obtain ⟨C, T, N, ty, ⟨hc, hin, hty, hnm2⟩, hk, hlk, hd, hfin, hdC⟩ := fl
  have hP := hH.2.1
  have hap := va_apart (own := own) hts hin ty hty hnm2 hK hc
  obtain ⟨r, h1, cell, q1, q2, q3, q4⟩ := hP i _ (mw_get hi)
  have hr : r = (C, T, N) := Option.some.inj (h1.symm.trans hc)
  subst hr
  obtain ⟨hS, hfc, kC, hkC, hkind⟩ := hK.1 ci _ hc
  obtain ⟨cf, kf, fi, f, hi2, hsl⟩ := hS k hk
  have hlay := hts _ (hin _ (u_in_lay hk))
  unfold u_lay at hlay
  rw [if_neg (by rw [hfin]; decide)] at hlay
  have hst := (u_facts hfc hkC (u_lays hts hin hk) hi2).1
  have h6 := u_store hfc hkC hkind hlay hi2 hd hnar hfit
  have hlen : k < fs.length := (List.getElem?_eq_some_iff.mp hf).1
  refine W.putK hx hb (f := f) ⟨hown, hts _ hlk, ⟨_, _, _, hi2⟩, hst⟩ (by rw [q2]; exact h6) q1 q3 (by rw [hsl]; exact k2_hasslot (q4 k hk)) rfl rfl hdg fun H' e1 e2 e3 => ?_
  rw [hsl] at e1 ⊢
  refine kk H' _ ⟨by rw [e2, hH.1], ?_, hH.2.2.put e2 e3 (Nat.le_add_right z i)⟩
  have hset := hP.set (e := .inr (ci, (fs.mapIdx (fun k o => sfv z (D i) k o)).set k (.int v))) mw_D (mw_get hi) ⟨_, hc, t_OB.to (V := updV (vp_V _) k (.int v)) ⟨_, e1, q2, q3, t_set q4 hap hk (.int v)⟩ (fun j' _ => vp_updV_set (by rw [List.length_mapIdx]; exact hlen) (.int v) j')⟩ e3
  rw [mw_set hi (D' := D1) (by rw [obj_set hf, hD1, ud_self]; rfl) (fun j hj => by rw [hD1, ud_ne hj])] at hset
  exact hset
theorem hc_iast (O : Ok G tA z E cc own nL p s m args c) (hH : Hp G tA z L D s.heap H locs) {i n : Nat} {j x : Int32} {D1 : Dm} (hi : L[i]? = some (.inl (0, n))) (hin : inB j n = true) (hD1 : D1 = ud D i j.toNatClampNeg x) (hdg : decode cc pc = .ok (.iastore, 1))
    (kk : ∀ (H1 : Heap) (locs1 : List Loc), Hp G tA z L D1 s.heap H1 locs1 → W p l e R s m args below meth c H1 locs1 cells slots Q (F0 m (pc + 1) ls rest)) : W p l e R s m args below meth c H locs cells slots Q (F0 m pc ls (.int x :: .int j :: .ref (z + i) :: rest)) := by
  have hP := hH.2.1
  have hi' := mw_get (tA := tA) (z := z) (D := D) hi
  refine W.iast O.1 O.2.1 (hP i _ hi') ((O.2.2.2.2.2.1.2 0 _ rfl).1 n (fun j => .int (D i j))) (fun q => by cases q) (by show ¬ (j < 0 ∨ (arrV _ _ _).slots.size ≤ _); rw [arrV_size]; exact inB_ok hin) rfl rfl hdg fun H1 e z1 oq => ?_
  refine kk H1 _ ⟨by rw [z1, hH.1], ?_, hH.2.2.put z1 oq (Nat.le_add_right z i)⟩
  have hset := hP.set (e := .inl (tA 0, n, .inl (upd (D i) j.toNatClampNeg x))) mw_D hi' (by
    show H1[z + i]? = some (vp_cell _ _)
    rw [e]
    show some ((vp_cell (tA 0) (n, .inl (D i))).setSlot _ _) = _
    rw [vp_cell_i, vp_cell_i, arrV_store]
    congr 2
    funext q
    by_cases hq : q = j.toNatClampNeg
    · subst hq
      simp [updV, upd]
    · simp [updV, upd, hq]) oq
  rw [mw_set hi (D' := D1) (by rw [hD1, ud_self]; rfl) (fun j hj => by rw [hD1, ud_ne hj])] at hset
  exact hset
/-- a reference comes into an array, in a constructor -/
theorem hc_aast {i t v ci : Nat} {rs : List (Option Nat)} {fs : List Sf} {C : String} {T : u_T} {N : Nat} {j : Int32} {L1 : List Sh} (O : Ok G tA z E cc own nL p s m args c) (hH : Hp G tA z L D s.heap H locs) (hi : L[i]? = some (.inr (.inl (t, rs)))) (ht : (tys tA)[t]? = some (tA t, .object C)) (hv : L[v]? = some (.inr (.inr (ci, fs)))) (hc : classes[ci]? = some (C, T, N)) (hk : j.toNatClampNeg < rs.length) (h0 : ¬ j < 0) (hL1 : L1 = L.set i (.inr (.inl (t, rs.set j.toNatClampNeg (some v))))) (hdg : decode cc pc = .ok (.aastore, 1))
    (kk : ∀ (H1 : Heap) (locs1 : List Loc), Hp G tA z L1 D s.heap H1 locs1 → W p l e R s m args below meth c H1 locs1 cells slots Q (F0 m (pc + 1) ls rest)) : W p l e R s m args below meth c H locs cells slots Q (F0 m pc ls (.ref (z + v) :: .int j :: .ref (z + i) :: rest)) := by
  obtain ⟨hx, hb, -, hown, hts, hK, -⟩ := O
  have hP := hH.2.1
  have hi' := mw_get (tA := tA) (z := z) (D := D) hi
  obtain ⟨r', hr', cellV, g1, g2, g3, -⟩ := hP v _ (mw_get hv)
  have hcls := (hK.1 ci _ hc).2
  obtain ⟨kA, comp, k1, k2, k3, -⟩ := (hK.2 t _ ht).2
  have hcomp : comp = G.1 ci := Option.some.inj (k3.symm.trans hcls.1)
  subst hcomp
  obtain ⟨kC, hkC, -⟩ := hcls.2
  refine W.aast hx hb (hP i _ hi') (fun q h => by cases h) (fun h => by cases h) k1 k2 rfl hkC ⟨h0, by show _ < (arrV _ _ _).slots.size; rw [arrV_size]; exact hk⟩ g1 (fun q h => by rw [g3] at h; cases h) (by rw [g2]; exact hkC) (by rw [g2]; exact va_assign hcls) rfl rfl hdg fun H1 e z1 oq => ?_
  refine kk H1 _ ⟨by rw [z1, hH.1, hL1, List.length_set], ?_, hH.2.2.put z1 oq (Nat.le_add_right z i)⟩
  have hil : i < L.length := (List.getElem?_eq_some_iff.mp hi).1
  have hset := hP.set (e := cellOf tA z (D i) (.inr (.inl (t, rs.set j.toNatClampNeg (some v))))) mw_D hi' (by
    show H1[z + i]? = some (vp_cell _ _)
    rw [e]
    show some ((vp_cell (tA t) (rs.length, .inr (.inr (.inr (.inr (fun k => (rs.getD k none).map (fun j => z + j))))))).setSlot _ _) = some (vp_cell (tA t) ((rs.set j.toNatClampNeg (some v)).length, .inr (.inr (.inr (.inr (fun k => ((rs.set j.toNatClampNeg (some v)).getD k none).map (fun j => z + j)))))))
    rw [vp_cell_q, vp_cell_q, arrV_store, List.length_set]
    congr 2
    funext q
    by_cases hq : q = j.toNatClampNeg
    · subst hq
      simp [updV, List.getD_eq_getElem?_getD, List.getElem?_set_self hk, va_rf]
    · simp [updV, hq, List.getD_eq_getElem?_getD, List.getElem?_set_ne (Ne.symm hq)]) oq
  have he : (mw tA z L D).set i (z + i, cellOf tA z (D i) (.inr (.inl (t, rs.set j.toNatClampNeg (some v))))) = mw tA z L1 D := by
    rw [hL1]
    apply List.ext_getElem?
    intro a
    by_cases ha : a = i
    · subst ha
      rw [List.getElem?_set_self (by rw [mw_len]; exact hil), mw_get (List.getElem?_set_self hil)]
    · rw [List.getElem?_set_ne (Ne.symm ha)]
      simp only [mw, List.getElem?_mapIdx, List.getElem?_set_ne (Ne.symm ha)]
  rw [he] at hset
  exact hset
/-- calls from a constructor: of a constructor of a nest mate; of another constructor; of a method -/
def MLN (own : String) (index : Nat) (y : MethodName) (cc : ByteArray) (mL n : Nat) : Prop := (own, index, y) ∈ nestM ∧ Cond.instanceMethod y ∈ WS ∧ Cond.initialized y.cls ∈ WS ∧ Cond.code y cc mL none ∈ WS ∧ y.name = "<init>" ∧ MD y n mL
def MLI (own : String) (index : Nat) (y : MethodName) (cc : ByteArray) (mL n : Nat) : Prop := Cond.methodLink own index y ∈ WS ∧ Cond.instanceMethod y ∈ WS ∧ Cond.initialized y.cls ∈ WS ∧ Cond.code y cc mL none ∈ WS ∧ y.name = "<init>" ∧ MD y n mL
theorem ws_cons {y : MethodName} {bytes : ByteArray} {mL : Nat} {rt : Option FieldType} (h : Cond.code y bytes mL rt ∈ WS) : GoodIn WS (.code y bytes mL rt :: WS) := by
  refine ws_goodIn ?_
  intro w hw
  rcases List.mem_cons.mp hw with rfl | hw
  · exact h
  · exact hw
theorem hc_callN {y : MethodName} {bytes : ByteArray} {mL n d mc ms i : Nat} {L1 : List Sh} {D1 : Dm} {As st : List Value} (O : Ok G tA z E cc own nL p s m args c) (hH : Hp G tA z L D s.heap H locs) (hM : CtV l y bytes mL G tA z E d mc ms (.ref (z + i) :: As) L D L1 D1) (ml : MLN own index y bytes mL n) (hn : As.length = n) (hsz : ls.size = nL) (hst : st = As.reverse ++ .ref (z + i) :: rest) (hR : d + 1 ≤ R.frames ∧ 64 * (d + 1) ≤ R.locals) (hrest : (rest.map fun v => v.category).sum ≤ 8) (hf : cells + mc ≤ R.cells ∧ slots + ms ≤ R.slots) (hdg : decode cc pc = .ok (.invokespecial index, 3))
    (kk : ∀ (H1 : Heap) (locs1 : List Loc), Hp G tA z L1 D1 s.heap H1 locs1 → W p l e R s m args below meth c H1 locs1 (cells + mc) (slots + ms) Q (F0 m (pc + 3) ls rest)) : W p l e R s m args below meth c H locs cells slots Q (F0 m pc ls st) := by
  subst hst
  have hts := O.2.2.2.2.1
  obtain ⟨h1, h2, h3, h4, h5, h6, h7⟩ := ml
  refine va_callv (va_runIN (As := As) (rest := rest) ⟨O.1, O.2.1, O.2.2.1, O.2.2.2.1, hts⟩ hM ⟨va_cnB (host := "WordLearner") n hts (ws_cons h4) rfl rfl rfl (O.2.2.2.2.2.2.1.1 _ h1) (hts _ h3) h6 ⟨hR.1, by show 8 + (mL + 11) + 64 * d ≤ _; omega⟩, h5, hts _ h2⟩ ⟨Wd_blind, fun U hU hW => ⟨rfl, hH.wd O hU hW⟩⟩ rfl hn hsz rfl (lv_room hrest) hdg hf) hH.2.2 (fun q _ h => h) (fun q h => h) (fun u t H1 locs1 ht hvm hw hB hz1 hk1 hS => ?_)
  obtain ⟨b1, b2, -, -⟩ := hB
  rw [ht] at b1 b2
  exact kk H1 locs1 ⟨b1, b2, hS⟩
theorem hc_callI {y : MethodName} {bytes : ByteArray} {mL n d mc ms i : Nat} {L1 : List Sh} {D1 : Dm} {As st : List Value} (O : Ok G tA z E cc own nL p s m args c) (hH : Hp G tA z L D s.heap H locs) (hM : CtV l y bytes mL G tA z E d mc ms (.ref (z + i) :: As) L D L1 D1) (ml : MLI own index y bytes mL n) (hn : As.length = n) (hsz : ls.size = nL) (hst : st = As.reverse ++ .ref (z + i) :: rest) (hR : d + 1 ≤ R.frames ∧ 64 * (d + 1) ≤ R.locals) (hrest : (rest.map fun v => v.category).sum ≤ 8) (hf : cells + mc ≤ R.cells ∧ slots + ms ≤ R.slots) (hdg : decode cc pc = .ok (.invokespecial index, 3))
    (kk : ∀ (H1 : Heap) (locs1 : List Loc), Hp G tA z L1 D1 s.heap H1 locs1 → W p l e R s m args below meth c H1 locs1 (cells + mc) (slots + ms) Q (F0 m (pc + 3) ls rest)) : W p l e R s m args below meth c H locs cells slots Q (F0 m pc ls st) := by
  subst hst
  have hts := O.2.2.2.2.1
  obtain ⟨h1, h2, h3, h4, h5, h6, h7⟩ := ml
  refine va_callv (va_runI (As := As) (rest := rest) ⟨O.1, O.2.1, O.2.2.1, O.2.2.2.1, hts⟩ hM (cwI n hts (ws_cons h4) rfl rfl rfl (hts _ h3) (hts _ h1) (hts _ h2) h5 h6 ⟨hR.1, by show 8 + (mL + 11) + 64 * d ≤ _; omega⟩) ⟨Wd_blind, fun U hU hW => ⟨rfl, hH.wd O hU hW⟩⟩ rfl hn hsz rfl (lv_room hrest) hdg hf) hH.2.2 (fun q _ h => h) (fun q h => h) (fun u t H1 locs1 ht hvm hw hB hz1 hk1 hS => ?_)
  obtain ⟨b1, b2, -, -⟩ := hB
  rw [ht] at b1 b2
  exact kk H1 locs1 ⟨b1, b2, hS⟩
theorem hc_callV {y : MethodName} {C : String} {bytes : ByteArray} {mL n d i ci : Nat} {D1 : Dm} {L1 : List Sh} {As st : List Value} {fs : List Sf} {T : u_T} {N : Nat} (O : Ok G tA z E cc own nL p s m args c) (hH : Hp G tA z L D s.heap H locs) (hM : CtV l y bytes mL G tA z E d 0 0 (.ref (z + i) :: As) L D L1 D1) (ml : MLV own index C y bytes mL none n) (hi : L[i]? = some (.inr (.inr (ci, fs)))) (hc : classes[ci]? = some (C, T, N)) (hn : As.length = n) (hsz : ls.size = nL) (hst : st = As.reverse ++ .ref (z + i) :: rest) (hR : d + 1 ≤ R.frames ∧ 64 * (d + 1) ≤ R.locals) (hrest : (rest.map fun v => v.category).sum ≤ 8) (hf : cells ≤ R.cells ∧ slots ≤ R.slots) (hdg : decode cc pc = .ok (.invokevirtual index, 3))
    (kk : ∀ (H1 : Heap) (locs1 : List Loc), Hp G tA z L1 D1 s.heap H1 locs1 → W p l e R s m args below meth c H1 locs1 cells slots Q (F0 m (pc + 3) ls rest)) : W p l e R s m args below meth c H locs cells slots Q (F0 m pc ls st) := by
  subst hst
  have hts := O.2.2.2.2.1
  refine va_callv (va_runV (As := As) (rest := rest) ⟨O.1, O.2.1, O.2.2.1, O.2.2.2.1, hts⟩ hM (ml.cw hts hR) ⟨Wd_blind, va_recv O.2.2.2.2.2.1 hH.2.1 hc (mw_get hi), fun U hU hW => ⟨rfl, hH.wd O hU hW⟩⟩ rfl hn hsz rfl (lv_room hrest) hdg hf) hH.2.2 (fun q _ h => h) (fun q h => h) (fun u t H1 locs1 ht hvm hw hB hz1 hk1 hS => ?_)
  obtain ⟨b1, b2, -, -⟩ := hB
  rw [ht] at b1 b2
  exact kk H1 locs1 ⟨b1, b2, hS⟩
theorem hc_callS {y : MethodName} {bytes : ByteArray} {mL n d : Nat} {D1 : Dm} {L1 : List Sh} {As st : List Value} (O : Ok G tA z E cc own nL p s m args c) (hH : Hp G tA z L D s.heap H locs) (hM : CtV l y bytes mL G tA z E d 0 0 As L D L1 D1) (ml : MLS own index y bytes mL none n) (hn : As.length = n) (hsz : ls.size = nL) (hst : st = As.reverse ++ rest) (hR : d + 1 ≤ R.frames ∧ 64 * (d + 1) ≤ R.locals) (hrest : (rest.map fun v => v.category).sum ≤ 8) (hf : cells ≤ R.cells ∧ slots ≤ R.slots) (hdg : decode cc pc = .ok (.invokestatic index, 3))
    (kk : ∀ (H1 : Heap) (locs1 : List Loc), Hp G tA z L1 D1 s.heap H1 locs1 → W p l e R s m args below meth c H1 locs1 cells slots Q (F0 m (pc + 3) ls rest)) : W p l e R s m args below meth c H locs cells slots Q (F0 m pc ls st) := by
  subst hst
  have hts := O.2.2.2.2.1
  refine va_callv (a := As.toArray) (va_runS (As := As) (rest := rest) ⟨O.1, O.2.1, O.2.2.1, O.2.2.2.1, hts⟩ hM (ml.cw hts hR) ⟨Wd_blind, fun U hU hW => ⟨rfl, hH.wd O hU hW⟩⟩ rfl hn hsz rfl (lv_room hrest) hdg hf) hH.2.2 (fun q _ h => h) (fun q h => h) (fun u t H1 locs1 ht hvm hw hB hz1 hk1 hS => ?_)
  obtain ⟨b1, b2, -, -⟩ := hB
  rw [ht] at b1 b2
  exact kk H1 locs1 ⟨b1, b2, hS⟩
theorem hc_oinit {a : Nat} (O : Ok G tA z E cc own nL p s m args c) (hsz : ls.size = nL) (hlk : Cond.methodLink own index Lib.objectInit ∈ WS) (hR : 1 ≤ R.frames ∧ 64 ≤ R.locals) (hrest : (rest.map fun v => v.category).sum ≤ 8) (hdg : decode cc pc = .ok (.invokespecial index, 3))
    (kk : W p l e R s m args below meth c H locs cells slots Q (F0 m (pc + 3) ls rest)) : W p l e R s m args below meth c H locs cells slots Q (F0 m pc ls (.ref a :: rest)) := by
  have hts := O.2.2.2.2.1
  refine W.objInit O.1 O.2.1 O.2.2.2.1 (hts _ hlk) (hts _ ww_28) (hts _ ww_29) rfl (hsz.trans O.2.2.1.symm) rfl hdg hR.1 ?_ kk
  show 2 * 0 + _ + 12 ≤ _
  omega
end CTOR
/-- a block of a constructor, or of a method that it calls -/
def BC (G : va_G) (tA : Nat → ClassId) (z : Nat) (E : Ex) (p : Program) (l : Launch) (e : Env) (R : Room) (s : State) (m : MethodId) (args : Array Value) (below : List Frame) (meth : Method) (c : Code) (cells slots mc ms : Nat) (L : List Sh) (D : Dm) (L' : List Sh) (D' : Dm) (nL pc : Nat) (lv : List (Nat × Value)) (st : List Value) : Prop :=
  ∀ (H : Heap) (locs : List Loc) (ls : Array Slot), Hp G tA z L D s.heap H locs → lv_has ls nL lv → W p l e R s m args below meth c H locs cells slots (MQ below (va_Qv (fun (_ : Unit) => True) (fun _ t => Wd G tA z E L' D' t) (fun q => z ≤ q)) args s mc ms (fun q => z ≤ q)) (F0 m pc ls st)
theorem ct_BC {l : Launch} {y : MethodName} {cc : ByteArray} {mL : Nat} {G : va_G} {tA : Nat → ClassId} {z : Nat} {E : Ex} {d mc ms : Nat} {av : List Value} {L L' : List Sh} {D D' : Dm} (hy : plainName y.cls = true) (hav : (lg_sl av).length ≤ mL)
    (body : ∀ p e s m args below meth c, Ok G tA z E cc y.cls mL p s m args c → meth.sig.returnType = none → meth.locks = false → meth.name = y.name → BC G tA z E p l e (rmC d mc ms) s m args below meth c 0 0 mc ms L D L' D' mL 0 (lv_args 0 av) []) : CtV l y cc mL G tA z E d mc ms av L D L' D' := by
  refine Met.ofW (cc := cc) (maxL := mL) (ret := none) hy rfl ?_
  intro p e s m args below meth c s₁ B hml hv
  obtain ⟨rfl, hsz, hP, hK, hB⟩ := hv
  have hts := atoms_spec (ws := .code y cc mL none :: WS) B.pre
  have hown : s.vm.findClass y.cls = some m.cls := findClass_of_methodNamed B.named
  have hl := lv_entry av (n := mL) hav
  rw [lg_entry_eq]
  exact body p e s m _ below meth c ⟨B.exec, B.bytes, hml, hown, fun w hw => hts w (List.mem_cons_of_mem _ hw), hK, hB, by omega⟩ B.returns B.notSynchronized (name_of_methodNamed B.named B.method).1 s.heap [] _ ⟨hsz, hP, va_S.rf⟩ hl
