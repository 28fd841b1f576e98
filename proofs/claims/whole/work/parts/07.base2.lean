theorem ret_i {a r : Int32} {b D' : Dm} (h : some (a, b) = some (r, D')) : r = a ∧ D' = b := by cases h; exact ⟨rfl, rfl⟩
theorem ret_v {b D' : Dm} (h : some b = some D') : D' = b := by cases h; rfl
theorem no_some {α : Type} {o : α} {P : Prop} (h : (none : Option α) = some o) : P := nomatch h
theorem lt_at {α β : Type} {x y : α} {f : α → β} {o : β} (e : y = x) (h : lt x f = o) : f y = o := by subst e; exact h
/-- how often a loop may turn, how deep a recursion may go -/
def FU : Nat := 100000
def RF : Nat := 16
def iush (x y : Int32) : Int32 := (x.toUInt32 >>> (y.toUInt32 &&& Int32.toUInt32 31)).toInt32
def i2b (x : Int32) : Int32 := x.toInt8.toInt32
def mxI (x y : Int32) : Int32 := if x < y then y else x
def mnI (x y : Int32) : Int32 := if y < x then y else x
def nanB (r : UInt32) : Bool := decide (r &&& 0x7fffffff ≤ 0x7f800000)
theorem nanB_ok {r : UInt32} (h : nanB r = true) : vf_n32 r := by
  show r &&& 0x7fffffff ≤ 0x7f800000
  exact of_decide_eq_true h
theorem ne_toInt {x y : Int32} {k : Int} (h : ¬ x = y) (hk : y.toInt = k) : x.toInt ≠ k := fun e => h (Int32.toInt_inj.mp (e.trans hk.symm))
/-- a row of numbers is laid over another one -/
def cpD (D : Dm) (i j n : Nat) : Dm := fun q => if q = j then va_cpy (D i) (D j) 0 0 n else D q
def tab0 (k : Nat) : Int32 := ([1, 3, 9, 27] : List Int32).getD k 0
def tab1 (k : Nat) : Int32 := ([1, 1, 2, 5, 15, 52] : List Int32).getD k 0
def MLU (own : String) (index : Nat) (C : String) (x y : MethodName) (cc : ByteArray) (mL : Nat) (rt : Option FieldType) (n : Nat) : Prop :=
  Cond.methodLink own index x ∈ WS ∧ Cond.sameMethod x.cls RX9 x.name x.desc ∈ WS ∧ Cond.selects C x y ∈ WS ∧ Cond.instanceMethod y ∈ WS ∧ Cond.initialized y.cls ∈ WS ∧ Cond.code y cc mL rt ∈ WS ∧ (⟨RX9, x.name, x.desc⟩ : MethodName) ∈ decls ∧ (parseMethodDescriptor x.desc).map (fun d => d.parameters.length) = some n ∧ mL ≤ 44
theorem ww_nat : Cond.native arraycopyName ∈ WS := ws_at 756 (by decide +kernel) (by decide +kernel)
section BASE2
variable {p : Program} {l : Launch} {e : Env} {R : Room} {s : State} {m : MethodId} {args : Array Value} {below : List Frame} {meth : Method} {c : Code} {H : Heap} {locs : List Loc} {cells slots : Nat} {Q : State → Prop}
variable {cc : ByteArray} {pc : Nat} {ls : Array Slot} {rest : List Value} {G : va_G} {tA : Nat → ClassId} {z : Nat} {E : Ex} {H0 : Heap} {L : List Sh} {D : Dm} {own : String} {index nL : Nat}
theorem h_max (O : Ok G tA z E cc own nL p s m args c) (hsz : ls.size = nL) (hlk : Cond.methodLink own index Lib.Math.max.name ∈ WS) (hR : 1 ≤ R.frames) (hR2 : 30 ≤ R.locals) {x y : Int32} (hdg : decode cc pc = .ok (.invokestatic index, 3))
    (kk : W p l e R s m args below meth c H locs 0 0 Q (F0 m (pc + 3) ls (.int (mxI x y) :: rest))) (hrest : (rest.map fun v => v.category).sum ≤ 8 := by exact Nat.le_of_ble_eq_true rfl) : W p l e R s m args below meth c H locs 0 0 Q (F0 m pc ls (.int y :: .int x :: rest)) :=
  va_mmax O.1 O.2.1 (O.2.2.1.trans hsz.symm) O.2.2.2.1 (O.2.2.2.2.1 _ hlk) (O.2.2.2.2.1 _ ww_794) (O.2.2.2.2.1 _ ww_15) (O.2.2.2.2.1 _ ww_795) hR (by omega) (Nat.zero_le _) (Nat.zero_le _) hdg kk
theorem h_min (O : Ok G tA z E cc own nL p s m args c) (hsz : ls.size = nL) (hlk : Cond.methodLink own index Lib.Math.min.name ∈ WS) (hR : 1 ≤ R.frames) (hR2 : 30 ≤ R.locals) {x y : Int32} (hdg : decode cc pc = .ok (.invokestatic index, 3))
    (kk : W p l e R s m args below meth c H locs 0 0 Q (F0 m (pc + 3) ls (.int (mnI x y) :: rest))) (hrest : (rest.map fun v => v.category).sum ≤ 8 := by exact Nat.le_of_ble_eq_true rfl) : W p l e R s m args below meth c H locs 0 0 Q (F0 m pc ls (.int y :: .int x :: rest)) :=
  va_mmin O.1 O.2.1 (O.2.2.1.trans hsz.symm) O.2.2.2.1 (O.2.2.2.2.1 _ hlk) (O.2.2.2.2.1 _ ww_507) (O.2.2.2.2.1 _ ww_15) (O.2.2.2.2.1 _ ww_508) hR (by omega) (Nat.zero_le _) (Nat.zero_le _) hdg kk
theorem h_ldcs {k : Nat} {tx : String} (O : Ok G tA z E cc own nL p s m args c) (hk : strs[k]? = some (own, index, tx)) (hdg : decode cc pc = .ok (.ldc index, 2))
    (kk : W p l e R s m args below meth c H locs cells slots Q (F0 m (pc + 2) ls (.ref (E.1 k) :: rest))) : W p l e R s m args below meth c H locs cells slots Q (F0 m pc ls rest) :=
  va_ldcS O.1 O.2.1 O.2.2.2.1 (O.2.2.2.2.2.2.1.2.2.2.2.2.1 k _ hk) hdg kk
theorem MLU.cw {C : String} {x y : MethodName} {bytes : ByteArray} {mL : Nat} {rt : Option FieldType} {n d mc ms : Nat} (ml : MLU own index C x y bytes mL rt n) (hts : ∀ w ∈ WS, w.before args s = true) (hz : NW z E s s.heap) (hR : d + 1 ≤ R.frames ∧ 64 * (d + 1) ≤ R.locals) : va_CU R s args own C RX9 index x y bytes mL rt (.code y bytes mL rt :: WS) (rmC d mc ms) mc ms n := by
  obtain ⟨h1, h2, h3, h4, h5, h6, h7, h8, h9⟩ := ml
  refine va_cwA n hts (ws_goodIn ?_) rfl rfl rfl (hz.2.2.1 _ h7) ⟨by decide, by decide, h8⟩ ⟨hR.1, by show 8 + (mL + 11) + 64 * d ≤ _; omega⟩
  intro w hw
  simp only [va_wsU, List.mem_append, List.mem_cons, List.not_mem_nil, or_false] at hw
  rcases hw with (rfl | rfl | rfl | rfl | rfl) | rfl | hw
  · exact h1
  · exact h2
  · exact h3
  · exact h4
  · exact h5
  · exact h6
  · exact hw
theorem h_callUi {x y : MethodName} {C : String} {bytes : ByteArray} {mL : Nat} {rt : Option FieldType} {n d i ci : Nat} {r : Int32} {D1 : Dm} {As st : List Value} {fs : List Sf} {T : u_T} {N : Nat} (O : Ok G tA z E cc own nL p s m args c) (hH : Hp G tA z L D s.heap H locs) (hM : CtI l y bytes mL rt G tA z E d 0 0 (.ref (z + i) :: As) L D r L D1) (ml : MLU own index C x y bytes mL rt n) (hi : L[i]? = some (.inr (.inr (ci, fs)))) (hc : classes[ci]? = some (C, T, N)) (hn : As.length = n) (hsz : ls.size = nL) (hst : st = As.reverse ++ .ref (z + i) :: rest) (hR : d + 1 ≤ R.frames ∧ 64 * (d + 1) ≤ R.locals) (hrest : (rest.map fun v => v.category).sum ≤ 8) (hdg : decode cc pc = .ok (.invokevirtual index, 3))
    (kk : ∀ (H1 : Heap) (locs1 : List Loc), Hp G tA z L D1 s.heap H1 locs1 → W p l e R s m args below meth c H1 locs1 0 0 Q (F0 m (pc + 3) ls (.int r :: rest))) : W p l e R s m args below meth c H locs 0 0 Q (F0 m pc ls st) := by
  subst hst
  have hts := O.2.2.2.2.1
  refine va_calli (va_runU (As := As) (rest := rest) ⟨O.1, O.2.1, O.2.2.1, O.2.2.2.1, hts⟩ hM (ml.cw hts O.2.2.2.2.2.2.1 hR) ⟨Wd_blind, va_recv O.2.2.2.2.2.1 hH.2.1 hc (mw_get hi), fun U hU hW => ⟨rfl, hH.wd O hU hW⟩⟩ rfl hn hsz rfl (lv_room hrest) hdg ⟨Nat.zero_le _, Nat.zero_le _⟩) hH.2.2 (fun q _ h => h) (fun q h => h) (fun r1 u t H1 locs1 ht hvm hw hB hz1 hk1 hS => ?_)
  subst hw
  obtain ⟨b1, b2, -, -⟩ := hB
  rw [ht] at b1 b2
  exact kk H1 locs1 ⟨b1, b2, hS⟩
theorem h_callUv {x y : MethodName} {C : String} {bytes : ByteArray} {mL : Nat} {n d i ci : Nat} {D1 : Dm} {As st : List Value} {fs : List Sf} {T : u_T} {N : Nat} (O : Ok G tA z E cc own nL p s m args c) (hH : Hp G tA z L D s.heap H locs) (hM : CtV l y bytes mL G tA z E d 0 0 (.ref (z + i) :: As) L D L D1) (ml : MLU own index C x y bytes mL none n) (hi : L[i]? = some (.inr (.inr (ci, fs)))) (hc : classes[ci]? = some (C, T, N)) (hn : As.length = n) (hsz : ls.size = nL) (hst : st = As.reverse ++ .ref (z + i) :: rest) (hR : d + 1 ≤ R.frames ∧ 64 * (d + 1) ≤ R.locals) (hrest : (rest.map fun v => v.category).sum ≤ 8) (hdg : decode cc pc = .ok (.invokevirtual index, 3))
    (kk : ∀ (H1 : Heap) (locs1 : List Loc), Hp G tA z L D1 s.heap H1 locs1 → W p l e R s m args below meth c H1 locs1 0 0 Q (F0 m (pc + 3) ls rest)) : W p l e R s m args below meth c H locs 0 0 Q (F0 m pc ls st) := by
  subst hst
  have hts := O.2.2.2.2.1
  refine va_callv (va_runU (As := As) (rest := rest) ⟨O.1, O.2.1, O.2.2.1, O.2.2.2.1, hts⟩ hM (ml.cw hts O.2.2.2.2.2.2.1 hR) ⟨Wd_blind, va_recv O.2.2.2.2.2.1 hH.2.1 hc (mw_get hi), fun U hU hW => ⟨rfl, hH.wd O hU hW⟩⟩ rfl hn hsz rfl (lv_room hrest) hdg ⟨Nat.zero_le _, Nat.zero_le _⟩) hH.2.2 (fun q _ h => h) (fun q h => h) (fun u t H1 locs1 ht hvm hw hB hz1 hk1 hS => ?_)
  obtain ⟨b1, b2, -, -⟩ := hB
  rw [ht] at b1 b2
  exact kk H1 locs1 ⟨b1, b2, hS⟩
theorem h_copy {i j k n0 n1 : Nat} {kI : Int32} {D1 : Dm} (O : Ok G tA z E cc own nL p s m args c) (hH : Hp G tA z L D s.heap H locs) (hsz : ls.size = nL) (hi : L[i]? = some (.inl (0, n0))) (hj : L[j]? = some (.inl (0, n1))) (hlk : Cond.methodLink own index arraycopyName ∈ WS) (h3 : ¬ kI < 0) (hk : kI.toNatClampNeg = k) (h4 : k ≤ n0) (h5 : k ≤ n1) (hR : 2 ≤ R.frames ∧ 64 ≤ R.locals) (hD1 : D1 = cpD D i j k) (hdg : decode cc pc = .ok (.invokestatic index, 3))
    (kk : ∀ (H1 : Heap) (locs1 : List Loc), Hp G tA z L D1 s.heap H1 locs1 → W p l e R s m args below meth c H1 locs1 0 0 Q (F0 m (pc + 3) ls rest)) (hrest : (rest.map fun v => v.category).sum ≤ 8 := by exact Nat.le_of_ble_eq_true rfl) : W p l e R s m args below meth c H locs 0 0 Q (F0 m pc ls (.int kI :: .int 0 :: .ref (z + j) :: .int 0 :: .ref (z + i) :: rest)) := by
  have hts := O.2.2.2.2.1
  subst hk
  refine W.sized hH.2.2.1 (fun e0 => ?_)
  refine va_copyi O.1 O.2.1 (O.2.2.1.trans hsz.symm) O.2.2.2.1 (hts _ hlk) (hts _ ww_nat) (hts _ ww_641) (hts _ ww_20) O.2.2.2.2.2.1 hH.2.1 mw_D hH.2.2 i j 0 0 (mw_get hi) (mw_get hj) rfl rfl rfl (by decide) (by decide) h3 (by show 0 + _ ≤ _; omega) (by show 0 + _ ≤ _; omega) (fun _ _ => rfl) (by omega) ?_ hdg (fun H1 locs1 h1 _ hs => ?_)
  · have hnf : nativeFrameWords "java/lang/System" "arraycopy" 5 + 11 ≤ 40 := by decide
    omega
  · refine W.sized hs.1 (fun e1 => ?_)
    refine kk H1 locs1 ⟨by rw [e1, ← e0]; exact hH.1, ?_, hs⟩
    rw [mw_set hj (D' := D1) (by rw [hD1]; simp [cpD, cellOf]) (fun q hq => by rw [hD1]; simp [cpD, hq])] at h1
    exact h1
theorem inB_of {j : Int32} {k n : Nat} (h0 : ¬ j < 0) (hk : j.toNatClampNeg = k) (hn : k < n) : inB j n = true := by
  simp only [inB, Bool.and_eq_true, decide_eq_true_eq]
  exact ⟨Int32.not_lt.mp h0, by omega⟩
theorem h_ialdk {i n k : Nat} {j : Int32} (O : Ok G tA z E cc own nL p s m args c) (hH : Hp G tA z L D H0 H locs) (hi : L[i]? = some (.inl (0, n))) (h0 : ¬ j < 0) (hk : j.toNatClampNeg = k) (hn : k < n) (hdg : decode cc pc = .ok (.iaload, 1))
    (kk : W p l e R s m args below meth c H locs cells slots Q (F0 m (pc + 1) ls (.int (D i k) :: rest))) : W p l e R s m args below meth c H locs cells slots Q (F0 m pc ls (.int j :: .ref (z + i) :: rest)) :=
  h_iald O hH hi (inB_of h0 hk hn) hdg (by rw [hk]; exact kk)
theorem h_iastk {i n k : Nat} {j x : Int32} {D1 : Dm} (O : Ok G tA z E cc own nL p s m args c) (hH : Hp G tA z L D s.heap H locs) (hi : L[i]? = some (.inl (0, n))) (h0 : ¬ j < 0) (hk : j.toNatClampNeg = k) (hn : k < n) (hD1 : D1 = ud D i k x) (hdg : decode cc pc = .ok (.iastore, 1))
    (kk : ∀ (H1 : Heap) (locs1 : List Loc), Hp G tA z L D1 s.heap H1 locs1 → W p l e R s m args below meth c H1 locs1 0 slots Q (F0 m (pc + 1) ls rest)) : W p l e R s m args below meth c H locs 0 slots Q (F0 m pc ls (.int x :: .int j :: .ref (z + i) :: rest)) :=
  h_iast O hH hi (inB_of h0 hk hn) (by rw [hk]; exact hD1) hdg kk
end BASE2
