theorem dX1_copy_0 : decode cX1_copy 0 = .ok (.aload_n 0, 1) := by decide +kernel
theorem dX1_copy_1 : decode cX1_copy 1 = .ok (.aload_n 1, 1) := by decide +kernel
theorem dX1_copy_2 : decode cX1_copy 2 = .ok (.getfield 15, 3) := by decide +kernel
theorem dX1_copy_5 : decode cX1_copy 5 = .ok (.putfield 15, 3) := by decide +kernel
theorem dX1_copy_8 : decode cX1_copy 8 = .ok (.aload_n 0, 1) := by decide +kernel
theorem dX1_copy_9 : decode cX1_copy 9 = .ok (.getfield 9, 3) := by decide +kernel
theorem dX1_copy_12 : decode cX1_copy 12 = .ok (.iconst 0, 1) := by decide +kernel
theorem dX1_copy_13 : decode cX1_copy 13 = .ok (.aload_n 1, 1) := by decide +kernel
theorem dX1_copy_14 : decode cX1_copy 14 = .ok (.getfield 9, 3) := by decide +kernel
theorem dX1_copy_17 : decode cX1_copy 17 = .ok (.iconst 0, 1) := by decide +kernel
theorem dX1_copy_18 : decode cX1_copy 18 = .ok (.iaload, 1) := by decide +kernel
theorem dX1_copy_19 : decode cX1_copy 19 = .ok (.iastore, 1) := by decide +kernel
theorem dX1_copy_20 : decode cX1_copy 20 = .ok (.aload_n 0, 1) := by decide +kernel
theorem dX1_copy_21 : decode cX1_copy 21 = .ok (.getfield 9, 3) := by decide +kernel
theorem dX1_copy_24 : decode cX1_copy 24 = .ok (.iconst 1, 1) := by decide +kernel
theorem dX1_copy_25 : decode cX1_copy 25 = .ok (.aload_n 1, 1) := by decide +kernel
theorem dX1_copy_26 : decode cX1_copy 26 = .ok (.getfield 9, 3) := by decide +kernel
theorem dX1_copy_29 : decode cX1_copy 29 = .ok (.iconst 1, 1) := by decide +kernel
theorem dX1_copy_30 : decode cX1_copy 30 = .ok (.iaload, 1) := by decide +kernel
theorem dX1_copy_31 : decode cX1_copy 31 = .ok (.iastore, 1) := by decide +kernel
theorem dX1_copy_32 : decode cX1_copy 32 = .ok (.return_, 1) := by decide +kernel
theorem dX1_lose_0 : decode cX1_lose 0 = .ok (.aload_n 0, 1) := by decide +kernel
theorem dX1_lose_1 : decode cX1_lose 1 = .ok (.iconst (-1), 1) := by decide +kernel
theorem dX1_lose_2 : decode cX1_lose 2 = .ok (.putfield 15, 3) := by decide +kernel
theorem dX1_lose_5 : decode cX1_lose 5 = .ok (.aload_n 0, 1) := by decide +kernel
theorem dX1_lose_6 : decode cX1_lose 6 = .ok (.getfield 9, 3) := by decide +kernel
theorem dX1_lose_9 : decode cX1_lose 9 = .ok (.iconst 0, 1) := by decide +kernel
theorem dX1_lose_10 : decode cX1_lose 10 = .ok (.iconst (-1), 1) := by decide +kernel
theorem dX1_lose_11 : decode cX1_lose 11 = .ok (.iastore, 1) := by decide +kernel
theorem dX1_lose_12 : decode cX1_lose 12 = .ok (.aload_n 0, 1) := by decide +kernel
theorem dX1_lose_13 : decode cX1_lose 13 = .ok (.getfield 9, 3) := by decide +kernel
theorem dX1_lose_16 : decode cX1_lose 16 = .ok (.iconst 1, 1) := by decide +kernel
theorem dX1_lose_17 : decode cX1_lose 17 = .ok (.iconst (-1), 1) := by decide +kernel
theorem dX1_lose_18 : decode cX1_lose 18 = .ok (.iastore, 1) := by decide +kernel
theorem dX1_lose_19 : decode cX1_lose 19 = .ok (.return_, 1) := by decide +kernel
theorem dX1_start_0 : decode cX1_start 0 = .ok (.aload_n 0, 1) := by decide +kernel
theorem dX1_start_1 : decode cX1_start 1 = .ok (.iconst 0, 1) := by decide +kernel
theorem dX1_start_2 : decode cX1_start 2 = .ok (.putfield 15, 3) := by decide +kernel
theorem dX1_start_5 : decode cX1_start 5 = .ok (.aload_n 0, 1) := by decide +kernel
theorem dX1_start_6 : decode cX1_start 6 = .ok (.getfield 9, 3) := by decide +kernel
theorem dX1_start_9 : decode cX1_start 9 = .ok (.iconst 0, 1) := by decide +kernel
theorem dX1_start_10 : decode cX1_start 10 = .ok (.iconst (-1), 1) := by decide +kernel
theorem dX1_start_11 : decode cX1_start 11 = .ok (.iastore, 1) := by decide +kernel
theorem dX1_start_12 : decode cX1_start 12 = .ok (.aload_n 0, 1) := by decide +kernel
theorem dX1_start_13 : decode cX1_start 13 = .ok (.getfield 9, 3) := by decide +kernel
theorem dX1_start_16 : decode cX1_start 16 = .ok (.iconst 1, 1) := by decide +kernel
theorem dX1_start_17 : decode cX1_start 17 = .ok (.iconst (-1), 1) := by decide +kernel
theorem dX1_start_18 : decode cX1_start 18 = .ok (.iastore, 1) := by decide +kernel
theorem dX1_start_19 : decode cX1_start 19 = .ok (.return_, 1) := by decide +kernel
theorem dX1_told_0 : decode cX1_told 0 = .ok (.iload_n 1, 1) := by decide +kernel
theorem dX1_told_1 : decode cX1_told 1 = .ok (.ifCond .ne 8, 3) := by decide +kernel
theorem dX1_told_4 : decode cX1_told 4 = .ok (.aload_n 0, 1) := by decide +kernel
theorem dX1_told_5 : decode cX1_told 5 = .ok (.getfield 15, 3) := by decide +kernel
theorem dX1_told_8 : decode cX1_told 8 = .ok (.ireturn, 1) := by decide +kernel
theorem dX1_told_9 : decode cX1_told 9 = .ok (.iload_n 1, 1) := by decide +kernel
theorem dX1_told_10 : decode cX1_told 10 = .ok (.iconst 1, 1) := by decide +kernel
theorem dX1_told_11 : decode cX1_told 11 = .ok (.if_icmp .ne 12, 3) := by decide +kernel
theorem dX1_told_14 : decode cX1_told 14 = .ok (.aload_n 0, 1) := by decide +kernel
theorem dX1_told_15 : decode cX1_told 15 = .ok (.getfield 9, 3) := by decide +kernel
theorem dX1_told_18 : decode cX1_told 18 = .ok (.iconst 0, 1) := by decide +kernel
theorem dX1_told_19 : decode cX1_told 19 = .ok (.iaload, 1) := by decide +kernel
theorem dX1_told_20 : decode cX1_told 20 = .ok (.goto 9, 3) := by decide +kernel
theorem dX1_told_23 : decode cX1_told 23 = .ok (.aload_n 0, 1) := by decide +kernel
theorem dX1_told_24 : decode cX1_told 24 = .ok (.getfield 9, 3) := by decide +kernel
theorem dX1_told_27 : decode cX1_told 27 = .ok (.iconst 1, 1) := by decide +kernel
theorem dX1_told_28 : decode cX1_told 28 = .ok (.iaload, 1) := by decide +kernel
theorem dX1_told_29 : decode cX1_told 29 = .ok (.ireturn, 1) := by decide +kernel
def f_X1_copy (r0 : Nat) (r1 : Nat) (D : Dm) : Option Dm := lt (ud D r0 0 (D r1 0)) fun D1 => lt (ud D1 (r0 + 1) 0 (D1 (r1 + 1) 0)) fun D5 => lt (ud D5 (r0 + 1) 1 (D5 (r1 + 1) 1)) fun D9 => some D9
def f_X1_lose (r0 : Nat) (D : Dm) : Option Dm := lt (ud D r0 0 (-1)) fun D1 => lt (ud D1 (r0 + 1) 0 (-1)) fun D4 => lt (ud D4 (r0 + 1) 1 (-1)) fun D7 => some D7
def f_X1_start (r0 : Nat) (D : Dm) : Option Dm := lt (ud D r0 0 0) fun D1 => lt (ud D1 (r0 + 1) 0 (-1)) fun D4 => lt (ud D4 (r0 + 1) 1 (-1)) fun D7 => some D7
def f_X1_told (r0 : Nat) (x1 : Int32) (D : Dm) : Option (Int32 × Dm) := if x1 = 0 then (some ((D r0 0), D)) else (if x1 = 1 then (some ((D (r0 + 1) 0), D)) else (some ((D (r0 + 1) 1), D)))
set_option maxHeartbeats 4000000 in
theorem w_X1_copy {G : va_G} {tA : Nat → ClassId} {z : Nat} {E : Ex} {p : Program} {l : Launch} {e : Env} {s : State} {m : MethodId} {args : Array Value} {below : List Frame} {meth : Method} {c : Code} {D' : Dm} (O : Ok G tA z E cX1_copy RX1 2 p s m args c) (hr : meth.sig.returnType = none) (hlk : meth.locks = false) (r0 : Nat) (r1 : Nat) (h0 : isC1 r0) (h1 : isC1 r1) (D : Dm) (h : f_X1_copy r0 r1 D = some D') : BV G tA z E p l e (rmC 1 0 0) s m args below meth c LAY D D' 2 0 [(0, .ref (z + r0)), (1, .ref (z + r1))] [] := by
  obtain ⟨hx, hb, -, hown, hts, -⟩ := id O
  unfold f_X1_copy at h
  intro H locs ls hH hl
  refine lv_aload_n hx hb dX1_copy_0 rfl (lv_at hl 0 rfl) ?_
  refine lv_aload_n hx hb dX1_copy_1 rfl (lv_at hl 1 rfl) ?_
  refine h_geti O hH h1.1 rfl fl_X1_15 dX1_copy_2 ?_
  obtain ⟨D1, e2, h⟩ := lt_some h
  refine h_puti O hH h0.1 rfl fl_X1_15 e2 dX1_copy_5 (fun H locs hH => ?_)
  refine lv_aload_n hx hb dX1_copy_8 rfl (lv_at hl 0 rfl) ?_
  refine h_getr O hH h0.1 rfl fl_X1_9 dX1_copy_9 ?_
  refine lv_iconst (v := 0) hx hb dX1_copy_12 (by decide) ?_
  refine lv_aload_n hx hb dX1_copy_13 rfl (lv_at hl 1 rfl) ?_
  refine h_getr O hH h1.1 rfl fl_X1_9 dX1_copy_14 ?_
  refine lv_iconst (v := 0) hx hb dX1_copy_17 (by decide) ?_
  refine h_ialdk (k := 0) O hH h1.2 (by decide) (by decide) (by decide) dX1_copy_18 ?_
  obtain ⟨D5, e6, h⟩ := lt_some h
  refine h_iastk (k := 0) O hH h0.2 (by decide) (by decide) (by decide) e6 dX1_copy_19 (fun H locs hH => ?_)
  refine lv_aload_n hx hb dX1_copy_20 rfl (lv_at hl 0 rfl) ?_
  refine h_getr O hH h0.1 rfl fl_X1_9 dX1_copy_21 ?_
  refine lv_iconst (v := 1) hx hb dX1_copy_24 (by decide) ?_
  refine lv_aload_n hx hb dX1_copy_25 rfl (lv_at hl 1 rfl) ?_
  refine h_getr O hH h1.1 rfl fl_X1_9 dX1_copy_26 ?_
  refine lv_iconst (v := 1) hx hb dX1_copy_29 (by decide) ?_
  refine h_ialdk (k := 1) O hH h1.2 (by decide) (by decide) (by decide) dX1_copy_30 ?_
  obtain ⟨D9, e10, h⟩ := lt_some h
  refine h_iastk (k := 1) O hH h0.2 (by decide) (by decide) (by decide) e10 dX1_copy_31 (fun H locs hH => ?_)
  obtain rfl := ret_v h
  exact h_vret O hr hlk hH dX1_copy_32
set_option maxHeartbeats 4000000 in
theorem c_X1_copy {l : Launch} {G : va_G} {tA : Nat → ClassId} {z : Nat} {E : Ex} {r0 : Nat} {r1 : Nat} (h0 : isC1 r0) (h1 : isC1 r1) {D D' : Dm} (h : f_X1_copy r0 r1 D = some D') : CtV l yX1_copy cX1_copy 2 G tA z E 1 0 0 [.ref (z + r0), .ref (z + r1)] LAY D LAY D' :=
  ct_BV (by decide +kernel) (Nat.le_of_ble_eq_true rfl) (fun _ _ _ _ _ _ _ _ O hr hlk => w_X1_copy O hr hlk _ _ h0 h1 _ h)
set_option maxHeartbeats 4000000 in
theorem w_X1_lose {G : va_G} {tA : Nat → ClassId} {z : Nat} {E : Ex} {p : Program} {l : Launch} {e : Env} {s : State} {m : MethodId} {args : Array Value} {below : List Frame} {meth : Method} {c : Code} {D' : Dm} (O : Ok G tA z E cX1_lose RX1 1 p s m args c) (hr : meth.sig.returnType = none) (hlk : meth.locks = false) (r0 : Nat) (h0 : isC1 r0) (D : Dm) (h : f_X1_lose r0 D = some D') : BV G tA z E p l e (rmC 1 0 0) s m args below meth c LAY D D' 1 0 [(0, .ref (z + r0))] [] := by
  obtain ⟨hx, hb, -, hown, hts, -⟩ := id O
  unfold f_X1_lose at h
  intro H locs ls hH hl
  refine lv_aload_n hx hb dX1_lose_0 rfl (lv_at hl 0 rfl) ?_
  refine lv_iconst (v := (-1)) hx hb dX1_lose_1 (by decide) ?_
  obtain ⟨D1, e2, h⟩ := lt_some h
  refine h_puti O hH h0.1 rfl fl_X1_15 e2 dX1_lose_2 (fun H locs hH => ?_)
  refine lv_aload_n hx hb dX1_lose_5 rfl (lv_at hl 0 rfl) ?_
  refine h_getr O hH h0.1 rfl fl_X1_9 dX1_lose_6 ?_
  refine lv_iconst (v := 0) hx hb dX1_lose_9 (by decide) ?_
  refine lv_iconst (v := (-1)) hx hb dX1_lose_10 (by decide) ?_
  obtain ⟨D4, e5, h⟩ := lt_some h
  refine h_iastk (k := 0) O hH h0.2 (by decide) (by decide) (by decide) e5 dX1_lose_11 (fun H locs hH => ?_)
  refine lv_aload_n hx hb dX1_lose_12 rfl (lv_at hl 0 rfl) ?_
  refine h_getr O hH h0.1 rfl fl_X1_9 dX1_lose_13 ?_
  refine lv_iconst (v := 1) hx hb dX1_lose_16 (by decide) ?_
  refine lv_iconst (v := (-1)) hx hb dX1_lose_17 (by decide) ?_
  obtain ⟨D7, e8, h⟩ := lt_some h
  refine h_iastk (k := 1) O hH h0.2 (by decide) (by decide) (by decide) e8 dX1_lose_18 (fun H locs hH => ?_)
  obtain rfl := ret_v h
  exact h_vret O hr hlk hH dX1_lose_19
set_option maxHeartbeats 4000000 in
theorem c_X1_lose {l : Launch} {G : va_G} {tA : Nat → ClassId} {z : Nat} {E : Ex} {r0 : Nat} (h0 : isC1 r0) {D D' : Dm} (h : f_X1_lose r0 D = some D') : CtV l yX1_lose cX1_lose 1 G tA z E 1 0 0 [.ref (z + r0)] LAY D LAY D' :=
  ct_BV (by decide +kernel) (Nat.le_of_ble_eq_true rfl) (fun _ _ _ _ _ _ _ _ O hr hlk => w_X1_lose O hr hlk _ h0 _ h)
set_option maxHeartbeats 4000000 in
theorem w_X1_start {G : va_G} {tA : Nat → ClassId} {z : Nat} {E : Ex} {p : Program} {l : Launch} {e : Env} {s : State} {m : MethodId} {args : Array Value} {below : List Frame} {meth : Method} {c : Code} {D' : Dm} (O : Ok G tA z E cX1_start RX1 1 p s m args c) (hr : meth.sig.returnType = none) (hlk : meth.locks = false) (r0 : Nat) (h0 : isC1 r0) (D : Dm) (h : f_X1_start r0 D = some D') : BV G tA z E p l e (rmC 1 0 0) s m args below meth c LAY D D' 1 0 [(0, .ref (z + r0))] [] := by
  obtain ⟨hx, hb, -, hown, hts, -⟩ := id O
  unfold f_X1_start at h
  intro H locs ls hH hl
  refine lv_aload_n hx hb dX1_start_0 rfl (lv_at hl 0 rfl) ?_
  refine lv_iconst (v := 0) hx hb dX1_start_1 (by decide) ?_
  obtain ⟨D1, e2, h⟩ := lt_some h
  refine h_puti O hH h0.1 rfl fl_X1_15 e2 dX1_start_2 (fun H locs hH => ?_)
  refine lv_aload_n hx hb dX1_start_5 rfl (lv_at hl 0 rfl) ?_
  refine h_getr O hH h0.1 rfl fl_X1_9 dX1_start_6 ?_
  refine lv_iconst (v := 0) hx hb dX1_start_9 (by decide) ?_
  refine lv_iconst (v := (-1)) hx hb dX1_start_10 (by decide) ?_
  obtain ⟨D4, e5, h⟩ := lt_some h
  refine h_iastk (k := 0) O hH h0.2 (by decide) (by decide) (by decide) e5 dX1_start_11 (fun H locs hH => ?_)
  refine lv_aload_n hx hb dX1_start_12 rfl (lv_at hl 0 rfl) ?_
  refine h_getr O hH h0.1 rfl fl_X1_9 dX1_start_13 ?_
  refine lv_iconst (v := 1) hx hb dX1_start_16 (by decide) ?_
  refine lv_iconst (v := (-1)) hx hb dX1_start_17 (by decide) ?_
  obtain ⟨D7, e8, h⟩ := lt_some h
  refine h_iastk (k := 1) O hH h0.2 (by decide) (by decide) (by decide) e8 dX1_start_18 (fun H locs hH => ?_)
  obtain rfl := ret_v h
  exact h_vret O hr hlk hH dX1_start_19
set_option maxHeartbeats 4000000 in
theorem c_X1_start {l : Launch} {G : va_G} {tA : Nat → ClassId} {z : Nat} {E : Ex} {r0 : Nat} (h0 : isC1 r0) {D D' : Dm} (h : f_X1_start r0 D = some D') : CtV l yX1_start cX1_start 1 G tA z E 1 0 0 [.ref (z + r0)] LAY D LAY D' :=
  ct_BV (by decide +kernel) (Nat.le_of_ble_eq_true rfl) (fun _ _ _ _ _ _ _ _ O hr hlk => w_X1_start O hr hlk _ h0 _ h)
set_option maxHeartbeats 4000000 in
theorem w_X1_told {G : va_G} {tA : Nat → ClassId} {z : Nat} {E : Ex} {p : Program} {l : Launch} {e : Env} {s : State} {m : MethodId} {args : Array Value} {below : List Frame} {meth : Method} {c : Code} {r : Int32} {D' : Dm} (O : Ok G tA z E cX1_told RX1 2 p s m args c) (hr : meth.sig.returnType = some .int) (hlk : meth.locks = false) (r0 : Nat) (x1 : Int32) (h0 : isC1 r0) (D : Dm) (h : f_X1_told r0 x1 D = some (r, D')) : BI G tA z E p l e (rmC 1 0 0) s m args below meth c LAY D r D' 2 0 [(0, .ref (z + r0)), (1, .int x1)] [] := by
  obtain ⟨hx, hb, -, hown, hts, -⟩ := id O
  unfold f_X1_told at h
  intro H locs ls hH hl
  refine lv_iload_n hx hb dX1_told_0 rfl (lv_at hl 1 rfl) ?_
  refine lv_if_ne (tgt := 9) hx hb dX1_told_1 (by decide) (fun c1 => ?_) (fun c1 => ?_)
  · have h := it_neg h c1
    refine lv_iload_n hx hb dX1_told_9 rfl (lv_at hl 1 rfl) ?_
    refine lv_iconst (v := 1) hx hb dX1_told_10 (by decide) ?_
    refine lv_icmp_ne (tgt := 23) hx hb dX1_told_11 (by decide) (fun c2 => ?_) (fun c2 => ?_)
    · have h := it_neg h c2
      refine lv_aload_n hx hb dX1_told_23 rfl (lv_at hl 0 rfl) ?_
      refine h_getr O hH h0.1 rfl fl_X1_9 dX1_told_24 ?_
      refine lv_iconst (v := 1) hx hb dX1_told_27 (by decide) ?_
      refine h_ialdk (k := 1) O hH h0.2 (by decide) (by decide) (by decide) dX1_told_28 ?_
      obtain ⟨rfl, rfl⟩ := ret_i h
      exact h_iret O hr hlk hH dX1_told_29
    · have h := it_pos h c2
      refine lv_aload_n hx hb dX1_told_14 rfl (lv_at hl 0 rfl) ?_
      refine h_getr O hH h0.1 rfl fl_X1_9 dX1_told_15 ?_
      refine lv_iconst (v := 0) hx hb dX1_told_18 (by decide) ?_
      refine h_ialdk (k := 0) O hH h0.2 (by decide) (by decide) (by decide) dX1_told_19 ?_
      refine lv_goto (tgt := 29) hx hb dX1_told_20 (by decide) ?_
      obtain ⟨rfl, rfl⟩ := ret_i h
      exact h_iret O hr hlk hH dX1_told_29
  · have h := it_pos h c1
    refine lv_aload_n hx hb dX1_told_4 rfl (lv_at hl 0 rfl) ?_
    refine h_geti O hH h0.1 rfl fl_X1_15 dX1_told_5 ?_
    obtain ⟨rfl, rfl⟩ := ret_i h
    exact h_iret O hr hlk hH dX1_told_8
set_option maxHeartbeats 4000000 in
theorem c_X1_told {l : Launch} {G : va_G} {tA : Nat → ClassId} {z : Nat} {E : Ex} {r0 : Nat} {x1 : Int32} (h0 : isC1 r0) {D D' : Dm} {r : Int32} (h : f_X1_told r0 x1 D = some (r, D')) : CtI l yX1_told cX1_told 2 (some .int) G tA z E 1 0 0 [.ref (z + r0), .int x1] LAY D r LAY D' :=
  ct_BI (by decide +kernel) (Nat.le_of_ble_eq_true rfl) (fun _ _ _ _ _ _ _ _ O hr hlk => w_X1_told O hr hlk _ _ h0 _ h)
