theorem dX9_walk_0 : decode cX9_walk 0 = .ok (.aload_n 1, 1) := by decide +kernel
theorem dX9_walk_1 : decode cX9_walk 1 = .ok (.invokevirtual 7, 3) := by decide +kernel
theorem dX9_walk_4 : decode cX9_walk 4 = .ok (.iconst 0, 1) := by decide +kernel
theorem dX9_walk_5 : decode cX9_walk 5 = .ok (.istore 4, 2) := by decide +kernel
theorem dX9_walk_7 : decode cX9_walk 7 = .ok (.iload 4, 2) := by decide +kernel
theorem dX9_walk_9 : decode cX9_walk 9 = .ok (.iload_n 3, 1) := by decide +kernel
theorem dX9_walk_10 : decode cX9_walk 10 = .ok (.if_icmp .ge 37, 3) := by decide +kernel
theorem dX9_walk_13 : decode cX9_walk 13 = .ok (.iload 4, 2) := by decide +kernel
theorem dX9_walk_15 : decode cX9_walk 15 = .ok (.aload_n 2, 1) := by decide +kernel
theorem dX9_walk_16 : decode cX9_walk 16 = .ok (.getfield 12, 3) := by decide +kernel
theorem dX9_walk_19 : decode cX9_walk 19 = .ok (.if_icmp .ge 28, 3) := by decide +kernel
theorem dX9_walk_22 : decode cX9_walk 22 = .ok (.aload_n 0, 1) := by decide +kernel
theorem dX9_walk_23 : decode cX9_walk 23 = .ok (.aload_n 1, 1) := by decide +kernel
theorem dX9_walk_24 : decode cX9_walk 24 = .ok (.aload_n 2, 1) := by decide +kernel
theorem dX9_walk_25 : decode cX9_walk 25 = .ok (.getfield 18, 3) := by decide +kernel
theorem dX9_walk_28 : decode cX9_walk 28 = .ok (.iload 4, 2) := by decide +kernel
theorem dX9_walk_30 : decode cX9_walk 30 = .ok (.iaload, 1) := by decide +kernel
theorem dX9_walk_31 : decode cX9_walk 31 = .ok (.aload_n 2, 1) := by decide +kernel
theorem dX9_walk_32 : decode cX9_walk 32 = .ok (.getfield 22, 3) := by decide +kernel
theorem dX9_walk_35 : decode cX9_walk 35 = .ok (.iload 4, 2) := by decide +kernel
theorem dX9_walk_37 : decode cX9_walk 37 = .ok (.iaload, 1) := by decide +kernel
theorem dX9_walk_38 : decode cX9_walk 38 = .ok (.invokevirtual 25, 3) := by decide +kernel
theorem dX9_walk_41 : decode cX9_walk 41 = .ok (.iinc 4 1, 3) := by decide +kernel
theorem dX9_walk_44 : decode cX9_walk 44 = .ok (.goto (-37), 3) := by decide +kernel
theorem dX9_walk_47 : decode cX9_walk 47 = .ok (.return_, 1) := by decide +kernel
def f_X9_walk_m_7_b (k7 : Nat → Nat → Nat → Int32 → Int32 → Dm → Option Dm) (r0 : Nat) (r1 : Nat) (r2 : Nat) (x3 : Int32) (x4 : Int32) (D : Dm) : Option Dm := if x3 ≤ x4 then (some D) else (if (D r2 3) ≤ x4 then (some D) else (gd (inB x4 20) (gd (inB x4 20) (bV (f_X4_advance r0 r1 (D (r2 + 1) (Int32.toNatClampNeg x4)) (D (r2 + 2) (Int32.toNatClampNeg x4)) D) fun D5 => lt (x4 + 1) fun y7 => k7 r0 r1 r2 x3 y7 D5))))
def f_X9_walk_m_7 : Nat → Nat → Nat → Nat → Int32 → Int32 → Dm → Option Dm
  | 0, _, _, _, _, _, _ => none
  | n + 1, r0, r1, r2, x3, x4, D => f_X9_walk_m_7_b (f_X9_walk_m_7 n) r0 r1 r2 x3 x4 D
def f_X9_walk_m (r0 : Nat) (r1 : Nat) (r2 : Nat) (x3 : Int32) (D : Dm) : Option Dm := bV (f_X1_start r1 D) fun D1 => f_X9_walk_m_7 FU r0 r1 r2 x3 0 D1
def f_X9_walk_h_7_b (k7 : Nat → Nat → Int32 → Int32 → Dm → Option Dm) (r1 : Nat) (r2 : Nat) (x3 : Int32) (x4 : Int32) (D : Dm) : Option Dm := if x3 ≤ x4 then (some D) else (if (D r2 3) ≤ x4 then (some D) else (gd (inB x4 20) (gd (inB x4 20) (bV (f_X2_advance r1 (D (r2 + 1) (Int32.toNatClampNeg x4)) (D (r2 + 2) (Int32.toNatClampNeg x4)) D) fun D5 => lt (x4 + 1) fun y7 => k7 r1 r2 x3 y7 D5))))
def f_X9_walk_h_7 : Nat → Nat → Nat → Int32 → Int32 → Dm → Option Dm
  | 0, _, _, _, _, _ => none
  | n + 1, r1, r2, x3, x4, D => f_X9_walk_h_7_b (f_X9_walk_h_7 n) r1 r2 x3 x4 D
def f_X9_walk_h (r1 : Nat) (r2 : Nat) (x3 : Int32) (D : Dm) : Option Dm := bV (f_X1_start r1 D) fun D1 => f_X9_walk_h_7 FU r1 r2 x3 0 D1
set_option maxHeartbeats 4000000 in
theorem w_X9_walk_m_7_b {G : va_G} {tA : Nat → ClassId} {z : Nat} {E : Ex} {p : Program} {l : Launch} {e : Env} {s : State} {m : MethodId} {args : Array Value} {below : List Frame} {meth : Method} {c : Code} {D' : Dm} (O : Ok G tA z E cX9_walk RX9 5 p s m args c) (hr : meth.sig.returnType = none) (hlk : meth.locks = false) {k7 : Nat → Nat → Nat → Int32 → Int32 → Dm → Option Dm} (hk7 : ∀ (r0 : Nat) (r1 : Nat) (r2 : Nat) (x3 : Int32) (x4 : Int32) (h0 : isC4 r0) (h1 : isC1 r1) (h2 : isC10 r2) (D : Dm), k7 r0 r1 r2 x3 x4 D = some D' → BV G tA z E p l e (rmC 3 0 0) s m args below meth c LAY D D' 5 7 [(0, .ref (z + r0)), (1, .ref (z + r1)), (2, .ref (z + r2)), (3, .int x3), (4, .int x4)] []) (r0 : Nat) (r1 : Nat) (r2 : Nat) (x3 : Int32) (x4 : Int32) (h0 : isC4 r0) (h1 : isC1 r1) (h2 : isC10 r2) (D : Dm) (h : f_X9_walk_m_7_b k7 r0 r1 r2 x3 x4 D = some D') : BV G tA z E p l e (rmC 3 0 0) s m args below meth c LAY D D' 5 7 [(0, .ref (z + r0)), (1, .ref (z + r1)), (2, .ref (z + r2)), (3, .int x3), (4, .int x4)] [] := by
  obtain ⟨hx, hb, -, hown, hts, -⟩ := id O
  unfold f_X9_walk_m_7_b at h
  intro H locs ls hH hl
  refine lv_iload hx hb dX9_walk_7 (lv_at hl 4 rfl) ?_
  refine lv_iload_n hx hb dX9_walk_9 rfl (lv_at hl 3 rfl) ?_
  refine lv_icmp_ge (tgt := 47) hx hb dX9_walk_10 (by decide) (fun c1 => ?_) (fun c1 => ?_)
  · have h := it_pos h c1
    obtain rfl := ret_v h
    exact h_vret O hr hlk hH dX9_walk_47
  · have h := it_neg h c1
    refine lv_iload hx hb dX9_walk_13 (lv_at hl 4 rfl) ?_
    refine lv_aload_n hx hb dX9_walk_15 rfl (lv_at hl 2 rfl) ?_
    refine h_geti O hH h2.1 rfl fl_X9_12 dX9_walk_16 ?_
    refine lv_icmp_ge (tgt := 47) hx hb dX9_walk_19 (by decide) (fun c2 => ?_) (fun c2 => ?_)
    · have h := it_pos h c2
      obtain rfl := ret_v h
      exact h_vret O hr hlk hH dX9_walk_47
    · have h := it_neg h c2
      refine lv_aload_n hx hb dX9_walk_22 rfl (lv_at hl 0 rfl) ?_
      refine lv_aload_n hx hb dX9_walk_23 rfl (lv_at hl 1 rfl) ?_
      refine lv_aload_n hx hb dX9_walk_24 rfl (lv_at hl 2 rfl) ?_
      refine h_getr O hH h2.1 rfl fl_X9_18 dX9_walk_25 ?_
      refine lv_iload hx hb dX9_walk_28 (lv_at hl 4 rfl) ?_
      obtain ⟨g3, h⟩ := gd_some h
      refine h_iald O hH h2.2.1 g3 dX9_walk_30 ?_
      refine lv_aload_n hx hb dX9_walk_31 rfl (lv_at hl 2 rfl) ?_
      refine h_getr O hH h2.1 rfl fl_X9_22 dX9_walk_32 ?_
      refine lv_iload hx hb dX9_walk_35 (lv_at hl 4 rfl) ?_
      obtain ⟨g4, h⟩ := gd_some h
      refine h_iald O hH h2.2.2.1 g4 dX9_walk_37 ?_
      obtain ⟨D5, hc6, h⟩ := bV_some h
      refine h_callUv (As := [.ref (z + r1), .int (D (r2 + 1) (Int32.toNatClampNeg x4)), .int (D (r2 + 2) (Int32.toNatClampNeg x4))]) (rest := []) O hH (c_X4_advance h0 h1 hc6) mu_X9_25_4 h0.1 rfl rfl hl.1 rfl ⟨Nat.le_of_ble_eq_true rfl, Nat.le_of_ble_eq_true rfl⟩ (Nat.le_of_ble_eq_true rfl) dX9_walk_38 (fun H locs hH => ?_)
      obtain ⟨y7, e8, h⟩ := lt_some h
      refine lv_iinc (v := y7) (lv' := [(4, .int y7), (0, .ref (z + r0)), (1, .ref (z + r1)), (2, .ref (z + r2)), (3, .int x3)]) hx hb dX9_walk_41 hl (k := 4) rfl (by rw [e8]; rfl) (by decide) rfl (fun ls hl => ?_)
      refine lv_goto (tgt := 7) hx hb dX9_walk_44 (by decide) ?_
      exact hk7 _ _ _ _ _ h0 h1 h2 _ h _ _ _ hH (lv_sub hl [1, 2, 3, 4, 0] rfl)
set_option maxHeartbeats 4000000 in
theorem w_X9_walk_m_7 {G : va_G} {tA : Nat → ClassId} {z : Nat} {E : Ex} {p : Program} {l : Launch} {e : Env} {s : State} {m : MethodId} {args : Array Value} {below : List Frame} {meth : Method} {c : Code} {D' : Dm} (O : Ok G tA z E cX9_walk RX9 5 p s m args c) (hr : meth.sig.returnType = none) (hlk : meth.locks = false) : ∀ (n : Nat) (r0 : Nat) (r1 : Nat) (r2 : Nat) (x3 : Int32) (x4 : Int32) (h0 : isC4 r0) (h1 : isC1 r1) (h2 : isC10 r2) (D : Dm) (h : f_X9_walk_m_7 n r0 r1 r2 x3 x4 D = some D'), BV G tA z E p l e (rmC 3 0 0) s m args below meth c LAY D D' 5 7 [(0, .ref (z + r0)), (1, .ref (z + r1)), (2, .ref (z + r2)), (3, .int x3), (4, .int x4)] [] := by
  intro n
  induction n with
  | zero => intro r0 r1 r2 x3 x4 h0 h1 h2 D h; exact no_some h
  | succ n ih => intro r0 r1 r2 x3 x4 h0 h1 h2 D h; exact w_X9_walk_m_7_b O hr hlk (fun r0 r1 r2 x3 x4 h0 h1 h2 D h => ih r0 r1 r2 x3 x4 h0 h1 h2 D h) r0 r1 r2 x3 x4 h0 h1 h2 D h
set_option maxHeartbeats 4000000 in
theorem w_X9_walk_m {G : va_G} {tA : Nat → ClassId} {z : Nat} {E : Ex} {p : Program} {l : Launch} {e : Env} {s : State} {m : MethodId} {args : Array Value} {below : List Frame} {meth : Method} {c : Code} {D' : Dm} (O : Ok G tA z E cX9_walk RX9 5 p s m args c) (hr : meth.sig.returnType = none) (hlk : meth.locks = false) (r0 : Nat) (r1 : Nat) (r2 : Nat) (x3 : Int32) (h0 : isC4 r0) (h1 : isC1 r1) (h2 : isC10 r2) (D : Dm) (h : f_X9_walk_m r0 r1 r2 x3 D = some D') : BV G tA z E p l e (rmC 3 0 0) s m args below meth c LAY D D' 5 0 [(0, .ref (z + r0)), (1, .ref (z + r1)), (2, .ref (z + r2)), (3, .int x3)] [] := by
  obtain ⟨hx, hb, -, hown, hts, -⟩ := id O
  unfold f_X9_walk_m at h
  intro H locs ls hH hl
  refine lv_aload_n hx hb dX9_walk_0 rfl (lv_at hl 1 rfl) ?_
  obtain ⟨D1, hc2, h⟩ := bV_some h
  refine h_callVv (As := []) (rest := []) O hH (c_X1_start h1 hc2) ml_X9_7 h1.1 rfl rfl hl.1 rfl ⟨Nat.le_of_ble_eq_true rfl, Nat.le_of_ble_eq_true rfl⟩ (Nat.le_of_ble_eq_true rfl) dX9_walk_1 (fun H locs hH => ?_)
  refine lv_iconst (v := 0) hx hb dX9_walk_4 (by decide) ?_
  refine lv_istore (lv' := [(4, .int 0), (0, .ref (z + r0)), (1, .ref (z + r1)), (2, .ref (z + r2)), (3, .int x3)]) hx hb dX9_walk_5 hl (by decide) rfl (fun ls hl => ?_)
  exact w_X9_walk_m_7 O hr hlk FU _ _ _ _ _ h0 h1 h2 _ h _ _ _ hH (lv_sub hl [1, 2, 3, 4, 0] rfl)
set_option maxHeartbeats 4000000 in
theorem c_X9_walk_m {l : Launch} {G : va_G} {tA : Nat → ClassId} {z : Nat} {E : Ex} {r0 : Nat} {r1 : Nat} {r2 : Nat} {x3 : Int32} (h0 : isC4 r0) (h1 : isC1 r1) (h2 : isC10 r2) {D D' : Dm} (h : f_X9_walk_m r0 r1 r2 x3 D = some D') : CtV l yX9_walk cX9_walk 5 G tA z E 3 0 0 [.ref (z + r0), .ref (z + r1), .ref (z + r2), .int x3] LAY D LAY D' :=
  ct_BV (by decide +kernel) (Nat.le_of_ble_eq_true rfl) (fun _ _ _ _ _ _ _ _ O hr hlk => w_X9_walk_m O hr hlk _ _ _ _ h0 h1 h2 _ h)
set_option maxHeartbeats 4000000 in
theorem w_X9_walk_h_7_b {G : va_G} {tA : Nat → ClassId} {z : Nat} {E : Ex} {p : Program} {l : Launch} {e : Env} {s : State} {m : MethodId} {args : Array Value} {below : List Frame} {meth : Method} {c : Code} {D' : Dm} (O : Ok G tA z E cX9_walk RX9 5 p s m args c) (hr : meth.sig.returnType = none) (hlk : meth.locks = false) {k7 : Nat → Nat → Int32 → Int32 → Dm → Option Dm} (hk7 : ∀ (r1 : Nat) (r2 : Nat) (x3 : Int32) (x4 : Int32) (h1 : isC1 r1) (h2 : isC10 r2) (D : Dm), k7 r1 r2 x3 x4 D = some D' → BV G tA z E p l e (rmC 3 0 0) s m args below meth c LAY D D' 5 7 [(0, .ref (z + 56)), (1, .ref (z + r1)), (2, .ref (z + r2)), (3, .int x3), (4, .int x4)] []) (r1 : Nat) (r2 : Nat) (x3 : Int32) (x4 : Int32) (h1 : isC1 r1) (h2 : isC10 r2) (D : Dm) (h : f_X9_walk_h_7_b k7 r1 r2 x3 x4 D = some D') : BV G tA z E p l e (rmC 3 0 0) s m args below meth c LAY D D' 5 7 [(0, .ref (z + 56)), (1, .ref (z + r1)), (2, .ref (z + r2)), (3, .int x3), (4, .int x4)] [] := by
  obtain ⟨hx, hb, -, hown, hts, -⟩ := id O
  unfold f_X9_walk_h_7_b at h
  intro H locs ls hH hl
  refine lv_iload hx hb dX9_walk_7 (lv_at hl 4 rfl) ?_
  refine lv_iload_n hx hb dX9_walk_9 rfl (lv_at hl 3 rfl) ?_
  refine lv_icmp_ge (tgt := 47) hx hb dX9_walk_10 (by decide) (fun c1 => ?_) (fun c1 => ?_)
  · have h := it_pos h c1
    obtain rfl := ret_v h
    exact h_vret O hr hlk hH dX9_walk_47
  · have h := it_neg h c1
    refine lv_iload hx hb dX9_walk_13 (lv_at hl 4 rfl) ?_
    refine lv_aload_n hx hb dX9_walk_15 rfl (lv_at hl 2 rfl) ?_
    refine h_geti O hH h2.1 rfl fl_X9_12 dX9_walk_16 ?_
    refine lv_icmp_ge (tgt := 47) hx hb dX9_walk_19 (by decide) (fun c2 => ?_) (fun c2 => ?_)
    · have h := it_pos h c2
      obtain rfl := ret_v h
      exact h_vret O hr hlk hH dX9_walk_47
    · have h := it_neg h c2
      refine lv_aload_n hx hb dX9_walk_22 rfl (lv_at hl 0 rfl) ?_
      refine lv_aload_n hx hb dX9_walk_23 rfl (lv_at hl 1 rfl) ?_
      refine lv_aload_n hx hb dX9_walk_24 rfl (lv_at hl 2 rfl) ?_
      refine h_getr O hH h2.1 rfl fl_X9_18 dX9_walk_25 ?_
      refine lv_iload hx hb dX9_walk_28 (lv_at hl 4 rfl) ?_
      obtain ⟨g3, h⟩ := gd_some h
      refine h_iald O hH h2.2.1 g3 dX9_walk_30 ?_
      refine lv_aload_n hx hb dX9_walk_31 rfl (lv_at hl 2 rfl) ?_
      refine h_getr O hH h2.1 rfl fl_X9_22 dX9_walk_32 ?_
      refine lv_iload hx hb dX9_walk_35 (lv_at hl 4 rfl) ?_
      obtain ⟨g4, h⟩ := gd_some h
      refine h_iald O hH h2.2.2.1 g4 dX9_walk_37 ?_
      obtain ⟨D5, hc6, h⟩ := bV_some h
      refine h_callUv (As := [.ref (z + r1), .int (D (r2 + 1) (Int32.toNatClampNeg x4)), .int (D (r2 + 2) (Int32.toNatClampNeg x4))]) (rest := []) O hH (c_X2_advance h1 hc6) mu_X9_25_2 ly_56 rfl rfl hl.1 rfl ⟨Nat.le_of_ble_eq_true rfl, Nat.le_of_ble_eq_true rfl⟩ (Nat.le_of_ble_eq_true rfl) dX9_walk_38 (fun H locs hH => ?_)
      obtain ⟨y7, e8, h⟩ := lt_some h
      refine lv_iinc (v := y7) (lv' := [(4, .int y7), (0, .ref (z + 56)), (1, .ref (z + r1)), (2, .ref (z + r2)), (3, .int x3)]) hx hb dX9_walk_41 hl (k := 4) rfl (by rw [e8]; rfl) (by decide) rfl (fun ls hl => ?_)
      refine lv_goto (tgt := 7) hx hb dX9_walk_44 (by decide) ?_
      exact hk7 _ _ _ _ h1 h2 _ h _ _ _ hH (lv_sub hl [1, 2, 3, 4, 0] rfl)
set_option maxHeartbeats 4000000 in
theorem w_X9_walk_h_7 {G : va_G} {tA : Nat → ClassId} {z : Nat} {E : Ex} {p : Program} {l : Launch} {e : Env} {s : State} {m : MethodId} {args : Array Value} {below : List Frame} {meth : Method} {c : Code} {D' : Dm} (O : Ok G tA z E cX9_walk RX9 5 p s m args c) (hr : meth.sig.returnType = none) (hlk : meth.locks = false) : ∀ (n : Nat) (r1 : Nat) (r2 : Nat) (x3 : Int32) (x4 : Int32) (h1 : isC1 r1) (h2 : isC10 r2) (D : Dm) (h : f_X9_walk_h_7 n r1 r2 x3 x4 D = some D'), BV G tA z E p l e (rmC 3 0 0) s m args below meth c LAY D D' 5 7 [(0, .ref (z + 56)), (1, .ref (z + r1)), (2, .ref (z + r2)), (3, .int x3), (4, .int x4)] [] := by
  intro n
  induction n with
  | zero => intro r1 r2 x3 x4 h1 h2 D h; exact no_some h
  | succ n ih => intro r1 r2 x3 x4 h1 h2 D h; exact w_X9_walk_h_7_b O hr hlk (fun r1 r2 x3 x4 h1 h2 D h => ih r1 r2 x3 x4 h1 h2 D h) r1 r2 x3 x4 h1 h2 D h
set_option maxHeartbeats 4000000 in
theorem w_X9_walk_h {G : va_G} {tA : Nat → ClassId} {z : Nat} {E : Ex} {p : Program} {l : Launch} {e : Env} {s : State} {m : MethodId} {args : Array Value} {below : List Frame} {meth : Method} {c : Code} {D' : Dm} (O : Ok G tA z E cX9_walk RX9 5 p s m args c) (hr : meth.sig.returnType = none) (hlk : meth.locks = false) (r1 : Nat) (r2 : Nat) (x3 : Int32) (h1 : isC1 r1) (h2 : isC10 r2) (D : Dm) (h : f_X9_walk_h r1 r2 x3 D = some D') : BV G tA z E p l e (rmC 3 0 0) s m args below meth c LAY D D' 5 0 [(0, .ref (z + 56)), (1, .ref (z + r1)), (2, .ref (z + r2)), (3, .int x3)] [] := by
  obtain ⟨hx, hb, -, hown, hts, -⟩ := id O
  unfold f_X9_walk_h at h
  intro H locs ls hH hl
  refine lv_aload_n hx hb dX9_walk_0 rfl (lv_at hl 1 rfl) ?_
  obtain ⟨D1, hc2, h⟩ := bV_some h
  refine h_callVv (As := []) (rest := []) O hH (c_X1_start h1 hc2) ml_X9_7 h1.1 rfl rfl hl.1 rfl ⟨Nat.le_of_ble_eq_true rfl, Nat.le_of_ble_eq_true rfl⟩ (Nat.le_of_ble_eq_true rfl) dX9_walk_1 (fun H locs hH => ?_)
  refine lv_iconst (v := 0) hx hb dX9_walk_4 (by decide) ?_
  refine lv_istore (lv' := [(4, .int 0), (0, .ref (z + 56)), (1, .ref (z + r1)), (2, .ref (z + r2)), (3, .int x3)]) hx hb dX9_walk_5 hl (by decide) rfl (fun ls hl => ?_)
  exact w_X9_walk_h_7 O hr hlk FU _ _ _ _ h1 h2 _ h _ _ _ hH (lv_sub hl [1, 2, 3, 4, 0] rfl)
set_option maxHeartbeats 4000000 in
theorem c_X9_walk_h {l : Launch} {G : va_G} {tA : Nat → ClassId} {z : Nat} {E : Ex} {r1 : Nat} {r2 : Nat} {x3 : Int32} (h1 : isC1 r1) (h2 : isC10 r2) {D D' : Dm} (h : f_X9_walk_h r1 r2 x3 D = some D') : CtV l yX9_walk cX9_walk 5 G tA z E 3 0 0 [.ref (z + 56), .ref (z + r1), .ref (z + r2), .int x3] LAY D LAY D' :=
  ct_BV (by decide +kernel) (Nat.le_of_ble_eq_true rfl) (fun _ _ _ _ _ _ _ _ O hr hlk => w_X9_walk_h O hr hlk _ _ _ h1 h2 _ h)
