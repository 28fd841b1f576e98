theorem dJ7_fill_53178_0 : decode cJ7_fill_53178 0 = .ok (.iconst 0, 1) := by decide +kernel
theorem dJ7_fill_53178_1 : decode cJ7_fill_53178 1 = .ok (.istore_n 2, 1) := by decide +kernel
theorem dJ7_fill_53178_2 : decode cJ7_fill_53178 2 = .ok (.aload_n 0, 1) := by decide +kernel
theorem dJ7_fill_53178_3 : decode cJ7_fill_53178 3 = .ok (.arraylength, 1) := by decide +kernel
theorem dJ7_fill_53178_4 : decode cJ7_fill_53178 4 = .ok (.istore_n 3, 1) := by decide +kernel
theorem dJ7_fill_53178_5 : decode cJ7_fill_53178 5 = .ok (.iload_n 2, 1) := by decide +kernel
theorem dJ7_fill_53178_6 : decode cJ7_fill_53178 6 = .ok (.iload_n 3, 1) := by decide +kernel
theorem dJ7_fill_53178_7 : decode cJ7_fill_53178 7 = .ok (.if_icmp .ge 13, 3) := by decide +kernel
theorem dJ7_fill_53178_10 : decode cJ7_fill_53178 10 = .ok (.aload_n 0, 1) := by decide +kernel
theorem dJ7_fill_53178_11 : decode cJ7_fill_53178 11 = .ok (.iload_n 2, 1) := by decide +kernel
theorem dJ7_fill_53178_12 : decode cJ7_fill_53178 12 = .ok (.iload_n 1, 1) := by decide +kernel
theorem dJ7_fill_53178_13 : decode cJ7_fill_53178 13 = .ok (.iastore, 1) := by decide +kernel
theorem dJ7_fill_53178_14 : decode cJ7_fill_53178 14 = .ok (.iinc 2 1, 3) := by decide +kernel
theorem dJ7_fill_53178_17 : decode cJ7_fill_53178 17 = .ok (.goto (-12), 3) := by decide +kernel
theorem dJ7_fill_53178_20 : decode cJ7_fill_53178 20 = .ok (.return_, 1) := by decide +kernel
def f_J7_fill_53178_5_b (k5 : Nat → Nat → Int32 → Int32 → Int32 → Dm → Option Dm) (r0 : Nat) (n0 : Nat) (x1 : Int32) (x2 : Int32) (x3 : Int32) (D : Dm) : Option Dm := if x3 ≤ x2 then (some D) else (gd (inB x2 n0) (lt (ud D r0 (Int32.toNatClampNeg x2) x1) fun D3 => lt (x2 + 1) fun y5 => k5 r0 n0 x1 y5 x3 D3))
def f_J7_fill_53178_5 : Nat → Nat → Nat → Int32 → Int32 → Int32 → Dm → Option Dm
  | 0, _, _, _, _, _, _ => none
  | n + 1, r0, n0, x1, x2, x3, D => f_J7_fill_53178_5_b (f_J7_fill_53178_5 n) r0 n0 x1 x2 x3 D
def f_J7_fill_53178 (r0 : Nat) (n0 : Nat) (x1 : Int32) (D : Dm) : Option Dm := lt (Int32.ofNat n0) fun y1 => f_J7_fill_53178_5 FU r0 n0 x1 0 y1 D
set_option maxHeartbeats 4000000 in
theorem w_J7_fill_53178_5_b {G : va_G} {tA : Nat → ClassId} {z : Nat} {E : Ex} {p : Program} {l : Launch} {e : Env} {s : State} {m : MethodId} {args : Array Value} {below : List Frame} {meth : Method} {c : Code} {D' : Dm} (O : Ok G tA z E cJ7_fill_53178 RJ7 4 p s m args c) (hr : meth.sig.returnType = none) (hlk : meth.locks = false) {k5 : Nat → Nat → Int32 → Int32 → Int32 → Dm → Option Dm} (hk5 : ∀ (r0 : Nat) (n0 : Nat) (x1 : Int32) (x2 : Int32) (x3 : Int32) (h0 : LAY[r0]? = some (.inl (0, n0))) (D : Dm), k5 r0 n0 x1 x2 x3 D = some D' → BV G tA z E p l e (rmC 1 0 0) s m args below meth c LAY D D' 4 5 [(0, .ref (z + r0)), (1, .int x1), (2, .int x2), (3, .int x3)] []) (r0 : Nat) (n0 : Nat) (x1 : Int32) (x2 : Int32) (x3 : Int32) (h0 : LAY[r0]? = some (.inl (0, n0))) (D : Dm) (h : f_J7_fill_53178_5_b k5 r0 n0 x1 x2 x3 D = some D') : BV G tA z E p l e (rmC 1 0 0) s m args below meth c LAY D D' 4 5 [(0, .ref (z + r0)), (1, .int x1), (2, .int x2), (3, .int x3)] [] := by
  obtain ⟨hx, hb, -, hown, hts, -⟩ := id O
  unfold f_J7_fill_53178_5_b at h
  intro H locs ls hH hl
  refine lv_iload_n hx hb dJ7_fill_53178_5 rfl (lv_at hl 2 rfl) ?_
  refine lv_iload_n hx hb dJ7_fill_53178_6 rfl (lv_at hl 3 rfl) ?_
  refine lv_icmp_ge (tgt := 20) hx hb dJ7_fill_53178_7 (by decide) (fun c1 => ?_) (fun c1 => ?_)
  · have h := it_pos h c1
    obtain rfl := ret_v h
    exact h_vret O hr hlk hH dJ7_fill_53178_20
  · have h := it_neg h c1
    refine lv_aload_n hx hb dJ7_fill_53178_10 rfl (lv_at hl 0 rfl) ?_
    refine lv_iload_n hx hb dJ7_fill_53178_11 rfl (lv_at hl 2 rfl) ?_
    refine lv_iload_n hx hb dJ7_fill_53178_12 rfl (lv_at hl 1 rfl) ?_
    obtain ⟨g2, h⟩ := gd_some h
    obtain ⟨D3, e4, h⟩ := lt_some h
    refine h_iast O hH h0 g2 e4 dJ7_fill_53178_13 (fun H locs hH => ?_)
    obtain ⟨y5, e6, h⟩ := lt_some h
    refine lv_iinc (v := y5) (lv' := [(2, .int y5), (0, .ref (z + r0)), (1, .int x1), (3, .int x3)]) hx hb dJ7_fill_53178_14 hl (k := 2) rfl (by rw [e6]; rfl) (by decide) rfl (fun ls hl => ?_)
    refine lv_goto (tgt := 5) hx hb dJ7_fill_53178_17 (by decide) ?_
    exact hk5 _ _ _ _ _ h0 _ h _ _ _ hH (lv_sub hl [1, 2, 0, 3] rfl)
set_option maxHeartbeats 4000000 in
theorem w_J7_fill_53178_5 {G : va_G} {tA : Nat → ClassId} {z : Nat} {E : Ex} {p : Program} {l : Launch} {e : Env} {s : State} {m : MethodId} {args : Array Value} {below : List Frame} {meth : Method} {c : Code} {D' : Dm} (O : Ok G tA z E cJ7_fill_53178 RJ7 4 p s m args c) (hr : meth.sig.returnType = none) (hlk : meth.locks = false) : ∀ (n : Nat) (r0 : Nat) (n0 : Nat) (x1 : Int32) (x2 : Int32) (x3 : Int32) (h0 : LAY[r0]? = some (.inl (0, n0))) (D : Dm) (h : f_J7_fill_53178_5 n r0 n0 x1 x2 x3 D = some D'), BV G tA z E p l e (rmC 1 0 0) s m args below meth c LAY D D' 4 5 [(0, .ref (z + r0)), (1, .int x1), (2, .int x2), (3, .int x3)] [] := by
  intro n
  induction n with
  | zero => intro r0 n0 x1 x2 x3 h0 D h; exact no_some h
  | succ n ih => intro r0 n0 x1 x2 x3 h0 D h; exact w_J7_fill_53178_5_b O hr hlk (fun r0 n0 x1 x2 x3 h0 D h => ih r0 n0 x1 x2 x3 h0 D h) r0 n0 x1 x2 x3 h0 D h
set_option maxHeartbeats 4000000 in
theorem w_J7_fill_53178 {G : va_G} {tA : Nat → ClassId} {z : Nat} {E : Ex} {p : Program} {l : Launch} {e : Env} {s : State} {m : MethodId} {args : Array Value} {below : List Frame} {meth : Method} {c : Code} {D' : Dm} (O : Ok G tA z E cJ7_fill_53178 RJ7 4 p s m args c) (hr : meth.sig.returnType = none) (hlk : meth.locks = false) (r0 : Nat) (n0 : Nat) (x1 : Int32) (h0 : LAY[r0]? = some (.inl (0, n0))) (D : Dm) (h : f_J7_fill_53178 r0 n0 x1 D = some D') : BV G tA z E p l e (rmC 1 0 0) s m args below meth c LAY D D' 4 0 [(0, .ref (z + r0)), (1, .int x1)] [] := by
  obtain ⟨hx, hb, -, hown, hts, -⟩ := id O
  unfold f_J7_fill_53178 at h
  intro H locs ls hH hl
  refine lv_iconst (v := 0) hx hb dJ7_fill_53178_0 (by decide) ?_
  refine lv_istore_n (lv' := [(2, .int 0), (0, .ref (z + r0)), (1, .int x1)]) hx hb dJ7_fill_53178_1 rfl hl (by decide) rfl (fun ls hl => ?_)
  refine lv_aload_n hx hb dJ7_fill_53178_2 rfl (lv_at hl 1 rfl) ?_
  refine h_alen O hH h0 rfl rfl dJ7_fill_53178_3 ?_
  refine lv_topi (fun y1 e2 => ?_)
  have h := lt_at e2 h
  refine lv_istore_n (lv' := [(3, .int y1), (2, .int 0), (0, .ref (z + r0)), (1, .int x1)]) hx hb dJ7_fill_53178_4 rfl hl (by decide) rfl (fun ls hl => ?_)
  exact w_J7_fill_53178_5 O hr hlk FU _ _ _ _ _ h0 _ h _ _ _ hH (lv_sub hl [2, 3, 1, 0] rfl)
set_option maxHeartbeats 4000000 in
theorem c_J7_fill_53178 {l : Launch} {G : va_G} {tA : Nat → ClassId} {z : Nat} {E : Ex} {r0 : Nat} {n0 : Nat} {x1 : Int32} (h0 : LAY[r0]? = some (.inl (0, n0))) {D D' : Dm} (h : f_J7_fill_53178 r0 n0 x1 D = some D') : CtV l yJ7_fill_53178 cJ7_fill_53178 4 G tA z E 1 0 0 [.ref (z + r0), .int x1] LAY D LAY D' :=
  ct_BV (by decide +kernel) (Nat.le_of_ble_eq_true rfl) (fun _ _ _ _ _ _ _ _ O hr hlk => w_J7_fill_53178 O hr hlk _ _ _ h0 _ h)
