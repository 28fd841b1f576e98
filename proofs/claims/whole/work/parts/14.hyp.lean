theorem dX2_clear_0 : decode cX2_clear 0 = .ok (.aload_n 0, 1) := by decide +kernel
theorem dX2_clear_1 : decode cX2_clear 1 = .ok (.getfield 11, 3) := by decide +kernel
theorem dX2_clear_4 : decode cX2_clear 4 = .ok (.iconst (-1), 1) := by decide +kernel
theorem dX2_clear_5 : decode cX2_clear 5 = .ok (.invokestatic 21, 3) := by decide +kernel
theorem dX2_clear_8 : decode cX2_clear 8 = .ok (.aload_n 0, 1) := by decide +kernel
theorem dX2_clear_9 : decode cX2_clear 9 = .ok (.iconst 0, 1) := by decide +kernel
theorem dX2_clear_10 : decode cX2_clear 10 = .ok (.putfield 27, 3) := by decide +kernel
theorem dX2_clear_13 : decode cX2_clear 13 = .ok (.return_, 1) := by decide +kernel
theorem dX2_put_0 : decode cX2_put 0 = .ok (.aload_n 0, 1) := by decide +kernel
theorem dX2_put_1 : decode cX2_put 1 = .ok (.getfield 11, 3) := by decide +kernel
theorem dX2_put_4 : decode cX2_put 4 = .ok (.iload_n 1, 1) := by decide +kernel
theorem dX2_put_5 : decode cX2_put 5 = .ok (.iload_n 2, 1) := by decide +kernel
theorem dX2_put_6 : decode cX2_put 6 = .ok (.iastore, 1) := by decide +kernel
theorem dX2_put_7 : decode cX2_put 7 = .ok (.aload_n 0, 1) := by decide +kernel
theorem dX2_put_8 : decode cX2_put 8 = .ok (.getfield 15, 3) := by decide +kernel
theorem dX2_put_11 : decode cX2_put 11 = .ok (.iload_n 1, 1) := by decide +kernel
theorem dX2_put_12 : decode cX2_put 12 = .ok (.iload_n 3, 1) := by decide +kernel
theorem dX2_put_13 : decode cX2_put 13 = .ok (.iastore, 1) := by decide +kernel
theorem dX2_put_14 : decode cX2_put 14 = .ok (.aload_n 0, 1) := by decide +kernel
theorem dX2_put_15 : decode cX2_put 15 = .ok (.getfield 18, 3) := by decide +kernel
theorem dX2_put_18 : decode cX2_put 18 = .ok (.iload_n 1, 1) := by decide +kernel
theorem dX2_put_19 : decode cX2_put 19 = .ok (.iload 4, 2) := by decide +kernel
theorem dX2_put_21 : decode cX2_put 21 = .ok (.iastore, 1) := by decide +kernel
theorem dX2_put_22 : decode cX2_put 22 = .ok (.return_, 1) := by decide +kernel
theorem dX2_takeAt_0 : decode cX2_takeAt 0 = .ok (.aload_n 0, 1) := by decide +kernel
theorem dX2_takeAt_1 : decode cX2_takeAt 1 = .ok (.dup, 1) := by decide +kernel
theorem dX2_takeAt_2 : decode cX2_takeAt 2 = .ok (.getfield 27, 3) := by decide +kernel
theorem dX2_takeAt_5 : decode cX2_takeAt 5 = .ok (.iconst 1, 1) := by decide +kernel
theorem dX2_takeAt_6 : decode cX2_takeAt 6 = .ok (.iload_n 1, 1) := by decide +kernel
theorem dX2_takeAt_7 : decode cX2_takeAt 7 = .ok (.ishl, 1) := by decide +kernel
theorem dX2_takeAt_8 : decode cX2_takeAt 8 = .ok (.ior, 1) := by decide +kernel
theorem dX2_takeAt_9 : decode cX2_takeAt 9 = .ok (.putfield 27, 3) := by decide +kernel
theorem dX2_takeAt_12 : decode cX2_takeAt 12 = .ok (.return_, 1) := by decide +kernel
theorem dX2_guardFor_0 : decode cX2_guardFor 0 = .ok (.aload_n 0, 1) := by decide +kernel
theorem dX2_guardFor_1 : decode cX2_guardFor 1 = .ok (.getfield 53, 3) := by decide +kernel
theorem dX2_guardFor_4 : decode cX2_guardFor 4 = .ok (.iconst 0, 1) := by decide +kernel
theorem dX2_guardFor_5 : decode cX2_guardFor 5 = .ok (.iaload, 1) := by decide +kernel
theorem dX2_guardFor_6 : decode cX2_guardFor 6 = .ok (.iload_n 1, 1) := by decide +kernel
theorem dX2_guardFor_7 : decode cX2_guardFor 7 = .ok (.if_icmp .ne 5, 3) := by decide +kernel
theorem dX2_guardFor_10 : decode cX2_guardFor 10 = .ok (.iconst 0, 1) := by decide +kernel
theorem dX2_guardFor_11 : decode cX2_guardFor 11 = .ok (.ireturn, 1) := by decide +kernel
theorem dX2_guardFor_12 : decode cX2_guardFor 12 = .ok (.aload_n 0, 1) := by decide +kernel
theorem dX2_guardFor_13 : decode cX2_guardFor 13 = .ok (.getfield 53, 3) := by decide +kernel
theorem dX2_guardFor_16 : decode cX2_guardFor 16 = .ok (.iconst 1, 1) := by decide +kernel
theorem dX2_guardFor_17 : decode cX2_guardFor 17 = .ok (.iaload, 1) := by decide +kernel
theorem dX2_guardFor_18 : decode cX2_guardFor 18 = .ok (.iload_n 1, 1) := by decide +kernel
theorem dX2_guardFor_19 : decode cX2_guardFor 19 = .ok (.if_icmp .ne 7, 3) := by decide +kernel
theorem dX2_guardFor_22 : decode cX2_guardFor 22 = .ok (.iconst 1, 1) := by decide +kernel
theorem dX2_guardFor_23 : decode cX2_guardFor 23 = .ok (.goto 4, 3) := by decide +kernel
theorem dX2_guardFor_26 : decode cX2_guardFor 26 = .ok (.iconst 2, 1) := by decide +kernel
theorem dX2_guardFor_27 : decode cX2_guardFor 27 = .ok (.ireturn, 1) := by decide +kernel
theorem dX2_pick_0 : decode cX2_pick 0 = .ok (.iload_n 0, 1) := by decide +kernel
theorem dX2_pick_1 : decode cX2_pick 1 = .ok (.iconst (-1), 1) := by decide +kernel
theorem dX2_pick_2 : decode cX2_pick 2 = .ok (.if_icmp .ne 5, 3) := by decide +kernel
theorem dX2_pick_5 : decode cX2_pick 5 = .ok (.iconst (-1), 1) := by decide +kernel
theorem dX2_pick_6 : decode cX2_pick 6 = .ok (.ireturn, 1) := by decide +kernel
theorem dX2_pick_7 : decode cX2_pick 7 = .ok (.iload_n 0, 1) := by decide +kernel
theorem dX2_pick_8 : decode cX2_pick 8 = .ok (.iconst 2, 1) := by decide +kernel
theorem dX2_pick_9 : decode cX2_pick 9 = .ok (.if_icmp .ne 5, 3) := by decide +kernel
theorem dX2_pick_12 : decode cX2_pick 12 = .ok (.iload_n 2, 1) := by decide +kernel
theorem dX2_pick_13 : decode cX2_pick 13 = .ok (.ireturn, 1) := by decide +kernel
theorem dX2_pick_14 : decode cX2_pick 14 = .ok (.iload_n 0, 1) := by decide +kernel
theorem dX2_pick_15 : decode cX2_pick 15 = .ok (.ifCond .ne 12, 3) := by decide +kernel
theorem dX2_pick_18 : decode cX2_pick 18 = .ok (.aload_n 1, 1) := by decide +kernel
theorem dX2_pick_19 : decode cX2_pick 19 = .ok (.getfield 53, 3) := by decide +kernel
theorem dX2_pick_22 : decode cX2_pick 22 = .ok (.iconst 0, 1) := by decide +kernel
theorem dX2_pick_23 : decode cX2_pick 23 = .ok (.iaload, 1) := by decide +kernel
theorem dX2_pick_24 : decode cX2_pick 24 = .ok (.goto 9, 3) := by decide +kernel
theorem dX2_pick_27 : decode cX2_pick 27 = .ok (.aload_n 1, 1) := by decide +kernel
theorem dX2_pick_28 : decode cX2_pick 28 = .ok (.getfield 53, 3) := by decide +kernel
theorem dX2_pick_31 : decode cX2_pick 31 = .ok (.iconst 1, 1) := by decide +kernel
theorem dX2_pick_32 : decode cX2_pick 32 = .ok (.iaload, 1) := by decide +kernel
theorem dX2_pick_33 : decode cX2_pick 33 = .ok (.ireturn, 1) := by decide +kernel
theorem dX2_advance_0 : decode cX2_advance 0 = .ok (.aload_n 1, 1) := by decide +kernel
theorem dX2_advance_1 : decode cX2_advance 1 = .ok (.getfield 31, 3) := by decide +kernel
theorem dX2_advance_4 : decode cX2_advance 4 = .ok (.iconst (-1), 1) := by decide +kernel
theorem dX2_advance_5 : decode cX2_advance 5 = .ok (.if_icmp .ne 4, 3) := by decide +kernel
theorem dX2_advance_8 : decode cX2_advance 8 = .ok (.return_, 1) := by decide +kernel
theorem dX2_advance_9 : decode cX2_advance 9 = .ok (.aload_n 1, 1) := by decide +kernel
theorem dX2_advance_10 : decode cX2_advance 10 = .ok (.getfield 31, 3) := by decide +kernel
theorem dX2_advance_13 : decode cX2_advance 13 = .ok (.iload_n 2, 1) := by decide +kernel
theorem dX2_advance_14 : decode cX2_advance 14 = .ok (.aload_n 1, 1) := by decide +kernel
theorem dX2_advance_15 : decode cX2_advance 15 = .ok (.iload_n 3, 1) := by decide +kernel
theorem dX2_advance_16 : decode cX2_advance 16 = .ok (.invokestatic 36, 3) := by decide +kernel
theorem dX2_advance_19 : decode cX2_advance 19 = .ok (.invokestatic 40, 3) := by decide +kernel
theorem dX2_advance_22 : decode cX2_advance 22 = .ok (.istore 4, 2) := by decide +kernel
theorem dX2_advance_24 : decode cX2_advance 24 = .ok (.aload_n 0, 1) := by decide +kernel
theorem dX2_advance_25 : decode cX2_advance 25 = .ok (.getfield 11, 3) := by decide +kernel
theorem dX2_advance_28 : decode cX2_advance 28 = .ok (.iload 4, 2) := by decide +kernel
theorem dX2_advance_30 : decode cX2_advance 30 = .ok (.iaload, 1) := by decide +kernel
theorem dX2_advance_31 : decode cX2_advance 31 = .ok (.iconst (-1), 1) := by decide +kernel
theorem dX2_advance_32 : decode cX2_advance 32 = .ok (.if_icmp .ne 8, 3) := by decide +kernel
theorem dX2_advance_35 : decode cX2_advance 35 = .ok (.aload_n 1, 1) := by decide +kernel
theorem dX2_advance_36 : decode cX2_advance 36 = .ok (.invokevirtual 46, 3) := by decide +kernel
theorem dX2_advance_39 : decode cX2_advance 39 = .ok (.return_, 1) := by decide +kernel
theorem dX2_advance_40 : decode cX2_advance 40 = .ok (.aload_n 0, 1) := by decide +kernel
theorem dX2_advance_41 : decode cX2_advance 41 = .ok (.getfield 15, 3) := by decide +kernel
theorem dX2_advance_44 : decode cX2_advance 44 = .ok (.iload 4, 2) := by decide +kernel
theorem dX2_advance_46 : decode cX2_advance 46 = .ok (.iaload, 1) := by decide +kernel
theorem dX2_advance_47 : decode cX2_advance 47 = .ok (.aload_n 1, 1) := by decide +kernel
theorem dX2_advance_48 : decode cX2_advance 48 = .ok (.iload_n 3, 1) := by decide +kernel
theorem dX2_advance_49 : decode cX2_advance 49 = .ok (.invokestatic 49, 3) := by decide +kernel
theorem dX2_advance_52 : decode cX2_advance 52 = .ok (.istore 5, 2) := by decide +kernel
theorem dX2_advance_54 : decode cX2_advance 54 = .ok (.aload_n 0, 1) := by decide +kernel
theorem dX2_advance_55 : decode cX2_advance 55 = .ok (.getfield 18, 3) := by decide +kernel
theorem dX2_advance_58 : decode cX2_advance 58 = .ok (.iload 4, 2) := by decide +kernel
theorem dX2_advance_60 : decode cX2_advance 60 = .ok (.iaload, 1) := by decide +kernel
theorem dX2_advance_61 : decode cX2_advance 61 = .ok (.aload_n 1, 1) := by decide +kernel
theorem dX2_advance_62 : decode cX2_advance 62 = .ok (.iload_n 3, 1) := by decide +kernel
theorem dX2_advance_63 : decode cX2_advance 63 = .ok (.invokestatic 49, 3) := by decide +kernel
theorem dX2_advance_66 : decode cX2_advance 66 = .ok (.istore 6, 2) := by decide +kernel
theorem dX2_advance_68 : decode cX2_advance 68 = .ok (.aload_n 1, 1) := by decide +kernel
theorem dX2_advance_69 : decode cX2_advance 69 = .ok (.aload_n 0, 1) := by decide +kernel
theorem dX2_advance_70 : decode cX2_advance 70 = .ok (.getfield 11, 3) := by decide +kernel
theorem dX2_advance_73 : decode cX2_advance 73 = .ok (.iload 4, 2) := by decide +kernel
theorem dX2_advance_75 : decode cX2_advance 75 = .ok (.iaload, 1) := by decide +kernel
theorem dX2_advance_76 : decode cX2_advance 76 = .ok (.putfield 31, 3) := by decide +kernel
theorem dX2_advance_79 : decode cX2_advance 79 = .ok (.aload_n 1, 1) := by decide +kernel
theorem dX2_advance_80 : decode cX2_advance 80 = .ok (.getfield 53, 3) := by decide +kernel
theorem dX2_advance_83 : decode cX2_advance 83 = .ok (.iconst 0, 1) := by decide +kernel
theorem dX2_advance_84 : decode cX2_advance 84 = .ok (.iload 5, 2) := by decide +kernel
theorem dX2_advance_86 : decode cX2_advance 86 = .ok (.iastore, 1) := by decide +kernel
theorem dX2_advance_87 : decode cX2_advance 87 = .ok (.aload_n 1, 1) := by decide +kernel
theorem dX2_advance_88 : decode cX2_advance 88 = .ok (.getfield 53, 3) := by decide +kernel
theorem dX2_advance_91 : decode cX2_advance 91 = .ok (.iconst 1, 1) := by decide +kernel
theorem dX2_advance_92 : decode cX2_advance 92 = .ok (.iload 6, 2) := by decide +kernel
theorem dX2_advance_94 : decode cX2_advance 94 = .ok (.iastore, 1) := by decide +kernel
theorem dX2_advance_95 : decode cX2_advance 95 = .ok (.return_, 1) := by decide +kernel
theorem dX2_takes_0 : decode cX2_takes 0 = .ok (.aload_n 1, 1) := by decide +kernel
theorem dX2_takes_1 : decode cX2_takes 1 = .ok (.getfield 31, 3) := by decide +kernel
theorem dX2_takes_4 : decode cX2_takes 4 = .ok (.iconst (-1), 1) := by decide +kernel
theorem dX2_takes_5 : decode cX2_takes 5 = .ok (.if_icmp .eq 21, 3) := by decide +kernel
theorem dX2_takes_8 : decode cX2_takes 8 = .ok (.aload_n 0, 1) := by decide +kernel
theorem dX2_takes_9 : decode cX2_takes 9 = .ok (.getfield 27, 3) := by decide +kernel
theorem dX2_takes_12 : decode cX2_takes 12 = .ok (.aload_n 1, 1) := by decide +kernel
theorem dX2_takes_13 : decode cX2_takes 13 = .ok (.getfield 31, 3) := by decide +kernel
theorem dX2_takes_16 : decode cX2_takes 16 = .ok (.ishr, 1) := by decide +kernel
theorem dX2_takes_17 : decode cX2_takes 17 = .ok (.iconst 1, 1) := by decide +kernel
theorem dX2_takes_18 : decode cX2_takes 18 = .ok (.iand, 1) := by decide +kernel
theorem dX2_takes_19 : decode cX2_takes 19 = .ok (.ifCond .eq 7, 3) := by decide +kernel
theorem dX2_takes_22 : decode cX2_takes 22 = .ok (.iconst 1, 1) := by decide +kernel
theorem dX2_takes_23 : decode cX2_takes 23 = .ok (.goto 4, 3) := by decide +kernel
theorem dX2_takes_26 : decode cX2_takes 26 = .ok (.iconst 0, 1) := by decide +kernel
theorem dX2_takes_27 : decode cX2_takes 27 = .ok (.ireturn, 1) := by decide +kernel
def f_X2_clear  (D : Dm) : Option Dm := bV (f_J7_fill_53178 57 60 (-1) D) fun D1 => lt (ud D1 56 3 0) fun D3 => some D3
def f_X2_put (x1 : Int32) (x2 : Int32) (x3 : Int32) (x4 : Int32) (D : Dm) : Option Dm := gd (inB x1 60) (lt (ud D 57 (Int32.toNatClampNeg x1) x2) fun D2 => gd (inB x1 60) (lt (ud D2 58 (Int32.toNatClampNeg x1) x3) fun D5 => gd (inB x1 60) (lt (ud D5 59 (Int32.toNatClampNeg x1) x4) fun D8 => some D8)))
def f_X2_takeAt (x1 : Int32) (D : Dm) : Option Dm := lt (ud D 56 3 ((D 56 3) ||| (1 <<< (x1 &&& 31)))) fun D1 => some D1
def f_X2_guardFor (r0 : Nat) (x1 : Int32) (D : Dm) : Option (Int32 × Dm) := if (D (r0 + 1) 0) = x1 then (some (0, D)) else (if (D (r0 + 1) 1) = x1 then (some (1, D)) else (some (2, D)))
def f_X2_pick (x0 : Int32) (r1 : Nat) (x2 : Int32) (D : Dm) : Option (Int32 × Dm) := if x0 = (-1) then (some ((-1), D)) else (if x0 = 2 then (some (x2, D)) else (if x0 = 0 then (some ((D (r1 + 1) 0), D)) else (some ((D (r1 + 1) 1), D))))
def f_X2_advance (r1 : Nat) (x2 : Int32) (x3 : Int32) (D : Dm) : Option Dm := if (D r1 0) = (-1) then (some D) else (bI (f_X2_guardFor r1 x3 D) fun y4 D2 => bI (f_X4_slot (D r1 0) x2 y4 D2) fun y7 D5 => gd (inB y7 60) (if (D5 57 (Int32.toNatClampNeg y7)) = (-1) then (bV (f_X1_lose r1 D5) fun D27 => some D27) else (gd (inB y7 60) (bI (f_X2_pick (D5 58 (Int32.toNatClampNeg y7)) r1 x3 D5) fun y13 D11 => gd (inB y7 60) (bI (f_X2_pick (D11 59 (Int32.toNatClampNeg y7)) r1 x3 D11) fun y17 D15 => gd (inB y7 60) (lt (ud D15 r1 0 (D15 57 (Int32.toNatClampNeg y7))) fun D19 => lt (ud D19 (r1 + 1) 0 y13) fun D22 => lt (ud D22 (r1 + 1) 1 y17) fun D25 => some D25))))))
def f_X2_takes (r1 : Nat) (D : Dm) : Option (Int32 × Dm) := if (D r1 0) = (-1) then (some (0, D)) else (if (((D 56 3) >>> ((D r1 0) &&& 31)) &&& 1) = 0 then (some (0, D)) else (some (1, D)))
set_option maxHeartbeats 4000000 in
theorem w_X2_clear {G : va_G} {tA : Nat → ClassId} {z : Nat} {E : Ex} {p : Program} {l : Launch} {e : Env} {s : State} {m : MethodId} {args : Array Value} {below : List Frame} {meth : Method} {c : Code} {D' : Dm} (O : Ok G tA z E cX2_clear RX2 1 p s m args c) (hr : meth.sig.returnType = none) (hlk : meth.locks = false)  (D : Dm) (h : f_X2_clear  D = some D') : BV G tA z E p l e (rmC 2 0 0) s m args below meth c LAY D D' 1 0 [(0, .ref (z + 56))] [] := by
  obtain ⟨hx, hb, -, hown, hts, -⟩ := id O
  unfold f_X2_clear at h
  intro H locs ls hH hl
  refine lv_aload_n hx hb dX2_clear_0 rfl (lv_at hl 0 rfl) ?_
  refine h_getr O hH ly_56 rfl fl_X2_11 dX2_clear_1 ?_
  refine lv_iconst (v := (-1)) hx hb dX2_clear_4 (by decide) ?_
  obtain ⟨D1, hc2, h⟩ := bV_some h
  refine h_callSv (As := [.ref (z + 57), .int (-1)]) (rest := []) O hH (c_J7_fill_53178 ly_57 hc2) ml_X2_21 rfl hl.1 rfl ⟨Nat.le_of_ble_eq_true rfl, Nat.le_of_ble_eq_true rfl⟩ (Nat.le_of_ble_eq_true rfl) dX2_clear_5 (fun H locs hH => ?_)
  refine lv_aload_n hx hb dX2_clear_8 rfl (lv_at hl 0 rfl) ?_
  refine lv_iconst (v := 0) hx hb dX2_clear_9 (by decide) ?_
  obtain ⟨D3, e4, h⟩ := lt_some h
  refine h_puti O hH ly_56 rfl fl_X2_27 e4 dX2_clear_10 (fun H locs hH => ?_)
  obtain rfl := ret_v h
  exact h_vret O hr hlk hH dX2_clear_13
set_option maxHeartbeats 4000000 in
theorem c_X2_clear {l : Launch} {G : va_G} {tA : Nat → ClassId} {z : Nat} {E : Ex}  {D D' : Dm} (h : f_X2_clear  D = some D') : CtV l yX2_clear cX2_clear 1 G tA z E 2 0 0 [.ref (z + 56)] LAY D LAY D' :=
  ct_BV (by decide +kernel) (Nat.le_of_ble_eq_true rfl) (fun _ _ _ _ _ _ _ _ O hr hlk => w_X2_clear O hr hlk  _ h)
set_option maxHeartbeats 4000000 in
theorem w_X2_put {G : va_G} {tA : Nat → ClassId} {z : Nat} {E : Ex} {p : Program} {l : Launch} {e : Env} {s : State} {m : MethodId} {args : Array Value} {below : List Frame} {meth : Method} {c : Code} {D' : Dm} (O : Ok G tA z E cX2_put RX2 5 p s m args c) (hr : meth.sig.returnType = none) (hlk : meth.locks = false) (x1 : Int32) (x2 : Int32) (x3 : Int32) (x4 : Int32) (D : Dm) (h : f_X2_put x1 x2 x3 x4 D = some D') : BV G tA z E p l e (rmC 1 0 0) s m args below meth c LAY D D' 5 0 [(0, .ref (z + 56)), (1, .int x1), (2, .int x2), (3, .int x3), (4, .int x4)] [] := by
  obtain ⟨hx, hb, -, hown, hts, -⟩ := id O
  unfold f_X2_put at h
  intro H locs ls hH hl
  refine lv_aload_n hx hb dX2_put_0 rfl (lv_at hl 0 rfl) ?_
  refine h_getr O hH ly_56 rfl fl_X2_11 dX2_put_1 ?_
  refine lv_iload_n hx hb dX2_put_4 rfl (lv_at hl 1 rfl) ?_
  refine lv_iload_n hx hb dX2_put_5 rfl (lv_at hl 2 rfl) ?_
  obtain ⟨g1, h⟩ := gd_some h
  obtain ⟨D2, e3, h⟩ := lt_some h
  refine h_iast O hH ly_57 g1 e3 dX2_put_6 (fun H locs hH => ?_)
  refine lv_aload_n hx hb dX2_put_7 rfl (lv_at hl 0 rfl) ?_
  refine h_getr O hH ly_56 rfl fl_X2_15 dX2_put_8 ?_
  refine lv_iload_n hx hb dX2_put_11 rfl (lv_at hl 1 rfl) ?_
  refine lv_iload_n hx hb dX2_put_12 rfl (lv_at hl 3 rfl) ?_
  obtain ⟨g4, h⟩ := gd_some h
  obtain ⟨D5, e6, h⟩ := lt_some h
  refine h_iast O hH ly_58 g4 e6 dX2_put_13 (fun H locs hH => ?_)
  refine lv_aload_n hx hb dX2_put_14 rfl (lv_at hl 0 rfl) ?_
  refine h_getr O hH ly_56 rfl fl_X2_18 dX2_put_15 ?_
  refine lv_iload_n hx hb dX2_put_18 rfl (lv_at hl 1 rfl) ?_
  refine lv_iload hx hb dX2_put_19 (lv_at hl 4 rfl) ?_
  obtain ⟨g7, h⟩ := gd_some h
  obtain ⟨D8, e9, h⟩ := lt_some h
  refine h_iast O hH ly_59 g7 e9 dX2_put_21 (fun H locs hH => ?_)
  obtain rfl := ret_v h
  exact h_vret O hr hlk hH dX2_put_22
set_option maxHeartbeats 4000000 in
theorem c_X2_put {l : Launch} {G : va_G} {tA : Nat → ClassId} {z : Nat} {E : Ex} {x1 : Int32} {x2 : Int32} {x3 : Int32} {x4 : Int32} {D D' : Dm} (h : f_X2_put x1 x2 x3 x4 D = some D') : CtV l yX2_put cX2_put 5 G tA z E 1 0 0 [.ref (z + 56), .int x1, .int x2, .int x3, .int x4] LAY D LAY D' :=
  ct_BV (by decide +kernel) (Nat.le_of_ble_eq_true rfl) (fun _ _ _ _ _ _ _ _ O hr hlk => w_X2_put O hr hlk _ _ _ _ _ h)
set_option maxHeartbeats 4000000 in
theorem w_X2_takeAt {G : va_G} {tA : Nat → ClassId} {z : Nat} {E : Ex} {p : Program} {l : Launch} {e : Env} {s : State} {m : MethodId} {args : Array Value} {below : List Frame} {meth : Method} {c : Code} {D' : Dm} (O : Ok G tA z E cX2_takeAt RX2 2 p s m args c) (hr : meth.sig.returnType = none) (hlk : meth.locks = false) (x1 : Int32) (D : Dm) (h : f_X2_takeAt x1 D = some D') : BV G tA z E p l e (rmC 1 0 0) s m args below meth c LAY D D' 2 0 [(0, .ref (z + 56)), (1, .int x1)] [] := by
  obtain ⟨hx, hb, -, hown, hts, -⟩ := id O
  unfold f_X2_takeAt at h
  intro H locs ls hH hl
  refine lv_aload_n hx hb dX2_takeAt_0 rfl (lv_at hl 0 rfl) ?_
  refine lv_dup hx hb dX2_takeAt_1 rfl ?_
  refine h_geti O hH ly_56 rfl fl_X2_27 dX2_takeAt_2 ?_
  refine lv_iconst (v := 1) hx hb dX2_takeAt_5 (by decide) ?_
  refine lv_iload_n hx hb dX2_takeAt_6 rfl (lv_at hl 1 rfl) ?_
  refine lv_ishl hx hb dX2_takeAt_7 ?_
  refine lv_ior hx hb dX2_takeAt_8 ?_
  obtain ⟨D1, e2, h⟩ := lt_some h
  refine h_puti O hH ly_56 rfl fl_X2_27 e2 dX2_takeAt_9 (fun H locs hH => ?_)
  obtain rfl := ret_v h
  exact h_vret O hr hlk hH dX2_takeAt_12
set_option maxHeartbeats 4000000 in
theorem c_X2_takeAt {l : Launch} {G : va_G} {tA : Nat → ClassId} {z : Nat} {E : Ex} {x1 : Int32} {D D' : Dm} (h : f_X2_takeAt x1 D = some D') : CtV l yX2_takeAt cX2_takeAt 2 G tA z E 1 0 0 [.ref (z + 56), .int x1] LAY D LAY D' :=
  ct_BV (by decide +kernel) (Nat.le_of_ble_eq_true rfl) (fun _ _ _ _ _ _ _ _ O hr hlk => w_X2_takeAt O hr hlk _ _ h)
set_option maxHeartbeats 4000000 in
theorem w_X2_guardFor {G : va_G} {tA : Nat → ClassId} {z : Nat} {E : Ex} {p : Program} {l : Launch} {e : Env} {s : State} {m : MethodId} {args : Array Value} {below : List Frame} {meth : Method} {c : Code} {r : Int32} {D' : Dm} (O : Ok G tA z E cX2_guardFor RX2 2 p s m args c) (hr : meth.sig.returnType = some .int) (hlk : meth.locks = false) (r0 : Nat) (x1 : Int32) (h0 : isC1 r0) (D : Dm) (h : f_X2_guardFor r0 x1 D = some (r, D')) : BI G tA z E p l e (rmC 1 0 0) s m args below meth c LAY D r D' 2 0 [(0, .ref (z + r0)), (1, .int x1)] [] := by
  obtain ⟨hx, hb, -, hown, hts, -⟩ := id O
  unfold f_X2_guardFor at h
  intro H locs ls hH hl
  refine lv_aload_n hx hb dX2_guardFor_0 rfl (lv_at hl 0 rfl) ?_
  refine h_getr O hH h0.1 rfl fl_X2_53 dX2_guardFor_1 ?_
  refine lv_iconst (v := 0) hx hb dX2_guardFor_4 (by decide) ?_
  refine h_ialdk (k := 0) O hH h0.2 (by decide) (by decide) (by decide) dX2_guardFor_5 ?_
  refine lv_iload_n hx hb dX2_guardFor_6 rfl (lv_at hl 1 rfl) ?_
  refine lv_icmp_ne (tgt := 12) hx hb dX2_guardFor_7 (by decide) (fun c2 => ?_) (fun c2 => ?_)
  · have h := it_neg h c2
    refine lv_aload_n hx hb dX2_guardFor_12 rfl (lv_at hl 0 rfl) ?_
    refine h_getr O hH h0.1 rfl fl_X2_53 dX2_guardFor_13 ?_
    refine lv_iconst (v := 1) hx hb dX2_guardFor_16 (by decide) ?_
    refine h_ialdk (k := 1) O hH h0.2 (by decide) (by decide) (by decide) dX2_guardFor_17 ?_
    refine lv_iload_n hx hb dX2_guardFor_18 rfl (lv_at hl 1 rfl) ?_
    refine lv_icmp_ne (tgt := 26) hx hb dX2_guardFor_19 (by decide) (fun c4 => ?_) (fun c4 => ?_)
    · have h := it_neg h c4
      refine lv_iconst (v := 2) hx hb dX2_guardFor_26 (by decide) ?_
      obtain ⟨rfl, rfl⟩ := ret_i h
      exact h_iret O hr hlk hH dX2_guardFor_27
    · have h := it_pos h c4
      refine lv_iconst (v := 1) hx hb dX2_guardFor_22 (by decide) ?_
      refine lv_goto (tgt := 27) hx hb dX2_guardFor_23 (by decide) ?_
      obtain ⟨rfl, rfl⟩ := ret_i h
      exact h_iret O hr hlk hH dX2_guardFor_27
  · have h := it_pos h c2
    refine lv_iconst (v := 0) hx hb dX2_guardFor_10 (by decide) ?_
    obtain ⟨rfl, rfl⟩ := ret_i h
    exact h_iret O hr hlk hH dX2_guardFor_11
set_option maxHeartbeats 4000000 in
theorem c_X2_guardFor {l : Launch} {G : va_G} {tA : Nat → ClassId} {z : Nat} {E : Ex} {r0 : Nat} {x1 : Int32} (h0 : isC1 r0) {D D' : Dm} {r : Int32} (h : f_X2_guardFor r0 x1 D = some (r, D')) : CtI l yX2_guardFor cX2_guardFor 2 (some .int) G tA z E 1 0 0 [.ref (z + r0), .int x1] LAY D r LAY D' :=
  ct_BI (by decide +kernel) (Nat.le_of_ble_eq_true rfl) (fun _ _ _ _ _ _ _ _ O hr hlk => w_X2_guardFor O hr hlk _ _ h0 _ h)
set_option maxHeartbeats 4000000 in
theorem w_X2_pick {G : va_G} {tA : Nat → ClassId} {z : Nat} {E : Ex} {p : Program} {l : Launch} {e : Env} {s : State} {m : MethodId} {args : Array Value} {below : List Frame} {meth : Method} {c : Code} {r : Int32} {D' : Dm} (O : Ok G tA z E cX2_pick RX2 3 p s m args c) (hr : meth.sig.returnType = some .int) (hlk : meth.locks = false) (x0 : Int32) (r1 : Nat) (x2 : Int32) (h1 : isC1 r1) (D : Dm) (h : f_X2_pick x0 r1 x2 D = some (r, D')) : BI G tA z E p l e (rmC 1 0 0) s m args below meth c LAY D r D' 3 0 [(0, .int x0), (1, .ref (z + r1)), (2, .int x2)] [] := by
  obtain ⟨hx, hb, -, hown, hts, -⟩ := id O
  unfold f_X2_pick at h
  intro H locs ls hH hl
  refine lv_iload_n hx hb dX2_pick_0 rfl (lv_at hl 0 rfl) ?_
  refine lv_iconst (v := (-1)) hx hb dX2_pick_1 (by decide) ?_
  refine lv_icmp_ne (tgt := 7) hx hb dX2_pick_2 (by decide) (fun c1 => ?_) (fun c1 => ?_)
  · have h := it_neg h c1
    refine lv_iload_n hx hb dX2_pick_7 rfl (lv_at hl 0 rfl) ?_
    refine lv_iconst (v := 2) hx hb dX2_pick_8 (by decide) ?_
    refine lv_icmp_ne (tgt := 14) hx hb dX2_pick_9 (by decide) (fun c2 => ?_) (fun c2 => ?_)
    · have h := it_neg h c2
      refine lv_iload_n hx hb dX2_pick_14 rfl (lv_at hl 0 rfl) ?_
      refine lv_if_ne (tgt := 27) hx hb dX2_pick_15 (by decide) (fun c3 => ?_) (fun c3 => ?_)
      · have h := it_neg h c3
        refine lv_aload_n hx hb dX2_pick_27 rfl (lv_at hl 1 rfl) ?_
        refine h_getr O hH h1.1 rfl fl_X2_53 dX2_pick_28 ?_
        refine lv_iconst (v := 1) hx hb dX2_pick_31 (by decide) ?_
        refine h_ialdk (k := 1) O hH h1.2 (by decide) (by decide) (by decide) dX2_pick_32 ?_
        obtain ⟨rfl, rfl⟩ := ret_i h
        exact h_iret O hr hlk hH dX2_pick_33
      · have h := it_pos h c3
        refine lv_aload_n hx hb dX2_pick_18 rfl (lv_at hl 1 rfl) ?_
        refine h_getr O hH h1.1 rfl fl_X2_53 dX2_pick_19 ?_
        refine lv_iconst (v := 0) hx hb dX2_pick_22 (by decide) ?_
        refine h_ialdk (k := 0) O hH h1.2 (by decide) (by decide) (by decide) dX2_pick_23 ?_
        refine lv_goto (tgt := 33) hx hb dX2_pick_24 (by decide) ?_
        obtain ⟨rfl, rfl⟩ := ret_i h
        exact h_iret O hr hlk hH dX2_pick_33
    · have h := it_pos h c2
      refine lv_iload_n hx hb dX2_pick_12 rfl (lv_at hl 2 rfl) ?_
      obtain ⟨rfl, rfl⟩ := ret_i h
      exact h_iret O hr hlk hH dX2_pick_13
  · have h := it_pos h c1
    refine lv_iconst (v := (-1)) hx hb dX2_pick_5 (by decide) ?_
    obtain ⟨rfl, rfl⟩ := ret_i h
    exact h_iret O hr hlk hH dX2_pick_6
set_option maxHeartbeats 4000000 in
theorem c_X2_pick {l : Launch} {G : va_G} {tA : Nat → ClassId} {z : Nat} {E : Ex} {x0 : Int32} {r1 : Nat} {x2 : Int32} (h1 : isC1 r1) {D D' : Dm} {r : Int32} (h : f_X2_pick x0 r1 x2 D = some (r, D')) : CtI l yX2_pick cX2_pick 3 (some .int) G tA z E 1 0 0 [.int x0, .ref (z + r1), .int x2] LAY D r LAY D' :=
  ct_BI (by decide +kernel) (Nat.le_of_ble_eq_true rfl) (fun _ _ _ _ _ _ _ _ O hr hlk => w_X2_pick O hr hlk _ _ _ h1 _ h)
set_option maxHeartbeats 4000000 in
theorem w_X2_advance {G : va_G} {tA : Nat → ClassId} {z : Nat} {E : Ex} {p : Program} {l : Launch} {e : Env} {s : State} {m : MethodId} {args : Array Value} {below : List Frame} {meth : Method} {c : Code} {D' : Dm} (O : Ok G tA z E cX2_advance RX2 7 p s m args c) (hr : meth.sig.returnType = none) (hlk : meth.locks = false) (r1 : Nat) (x2 : Int32) (x3 : Int32) (h1 : isC1 r1) (D : Dm) (h : f_X2_advance r1 x2 x3 D = some D') : BV G tA z E p l e (rmC 2 0 0) s m args below meth c LAY D D' 7 0 [(0, .ref (z + 56)), (1, .ref (z + r1)), (2, .int x2), (3, .int x3)] [] := by
  obtain ⟨hx, hb, -, hown, hts, -⟩ := id O
  unfold f_X2_advance at h
  intro H locs ls hH hl
  refine lv_aload_n hx hb dX2_advance_0 rfl (lv_at hl 1 rfl) ?_
  refine h_geti O hH h1.1 rfl fl_X2_31 dX2_advance_1 ?_
  refine lv_iconst (v := (-1)) hx hb dX2_advance_4 (by decide) ?_
  refine lv_icmp_ne (tgt := 9) hx hb dX2_advance_5 (by decide) (fun c1 => ?_) (fun c1 => ?_)
  · have h := it_neg h c1
    refine lv_aload_n hx hb dX2_advance_9 rfl (lv_at hl 1 rfl) ?_
    refine h_geti O hH h1.1 rfl fl_X2_31 dX2_advance_10 ?_
    refine lv_iload_n hx hb dX2_advance_13 rfl (lv_at hl 2 rfl) ?_
    refine lv_aload_n hx hb dX2_advance_14 rfl (lv_at hl 1 rfl) ?_
    refine lv_iload_n hx hb dX2_advance_15 rfl (lv_at hl 3 rfl) ?_
    obtain ⟨y4, D2, hc3, h⟩ := bI_some h
    refine h_callSi (As := [.ref (z + r1), .int x3]) (rest := [.int x2, .int (D r1 0)]) O hH (c_X2_guardFor h1 hc3) ml_X2_36 rfl hl.1 rfl ⟨Nat.le_of_ble_eq_true rfl, Nat.le_of_ble_eq_true rfl⟩ (Nat.le_of_ble_eq_true rfl) dX2_advance_16 (fun H locs hH => ?_)
    obtain ⟨y7, D5, hc6, h⟩ := bI_some h
    refine h_callSi (As := [.int (D r1 0), .int x2, .int y4]) (rest := []) O hH (c_X4_slot hc6) ml_X2_40 rfl hl.1 rfl ⟨Nat.le_of_ble_eq_true rfl, Nat.le_of_ble_eq_true rfl⟩ (Nat.le_of_ble_eq_true rfl) dX2_advance_19 (fun H locs hH => ?_)
    refine lv_istore (lv' := [(4, .int y7), (0, .ref (z + 56)), (1, .ref (z + r1)), (2, .int x2), (3, .int x3)]) hx hb dX2_advance_22 hl (by decide) rfl (fun ls hl => ?_)
    refine lv_aload_n hx hb dX2_advance_24 rfl (lv_at hl 1 rfl) ?_
    refine h_getr O hH ly_56 rfl fl_X2_11 dX2_advance_25 ?_
    refine lv_iload hx hb dX2_advance_28 (lv_at hl 0 rfl) ?_
    obtain ⟨g8, h⟩ := gd_some h
    refine h_iald O hH ly_57 g8 dX2_advance_30 ?_
    refine lv_iconst (v := (-1)) hx hb dX2_advance_31 (by decide) ?_
    refine lv_icmp_ne (tgt := 40) hx hb dX2_advance_32 (by decide) (fun c9 => ?_) (fun c9 => ?_)
    · have h := it_neg h c9
      refine lv_aload_n hx hb dX2_advance_40 rfl (lv_at hl 1 rfl) ?_
      refine h_getr O hH ly_56 rfl fl_X2_15 dX2_advance_41 ?_
      refine lv_iload hx hb dX2_advance_44 (lv_at hl 0 rfl) ?_
      obtain ⟨g10, h⟩ := gd_some h
      refine h_iald O hH ly_58 g10 dX2_advance_46 ?_
      refine lv_aload_n hx hb dX2_advance_47 rfl (lv_at hl 2 rfl) ?_
      refine lv_iload_n hx hb dX2_advance_48 rfl (lv_at hl 4 rfl) ?_
      obtain ⟨y13, D11, hc12, h⟩ := bI_some h
      refine h_callSi (As := [.int (D5 58 (Int32.toNatClampNeg y7)), .ref (z + r1), .int x3]) (rest := []) O hH (c_X2_pick h1 hc12) ml_X2_49 rfl hl.1 rfl ⟨Nat.le_of_ble_eq_true rfl, Nat.le_of_ble_eq_true rfl⟩ (Nat.le_of_ble_eq_true rfl) dX2_advance_49 (fun H locs hH => ?_)
      refine lv_istore (lv' := [(5, .int y13), (4, .int y7), (0, .ref (z + 56)), (1, .ref (z + r1)), (2, .int x2), (3, .int x3)]) hx hb dX2_advance_52 hl (by decide) rfl (fun ls hl => ?_)
      refine lv_aload_n hx hb dX2_advance_54 rfl (lv_at hl 2 rfl) ?_
      refine h_getr O hH ly_56 rfl fl_X2_18 dX2_advance_55 ?_
      refine lv_iload hx hb dX2_advance_58 (lv_at hl 1 rfl) ?_
      obtain ⟨g14, h⟩ := gd_some h
      refine h_iald O hH ly_59 g14 dX2_advance_60 ?_
      refine lv_aload_n hx hb dX2_advance_61 rfl (lv_at hl 3 rfl) ?_
      refine lv_iload_n hx hb dX2_advance_62 rfl (lv_at hl 5 rfl) ?_
      obtain ⟨y17, D15, hc16, h⟩ := bI_some h
      refine h_callSi (As := [.int (D11 59 (Int32.toNatClampNeg y7)), .ref (z + r1), .int x3]) (rest := []) O hH (c_X2_pick h1 hc16) ml_X2_49 rfl hl.1 rfl ⟨Nat.le_of_ble_eq_true rfl, Nat.le_of_ble_eq_true rfl⟩ (Nat.le_of_ble_eq_true rfl) dX2_advance_63 (fun H locs hH => ?_)
      refine lv_istore (lv' := [(6, .int y17), (5, .int y13), (4, .int y7), (0, .ref (z + 56)), (1, .ref (z + r1)), (2, .int x2), (3, .int x3)]) hx hb dX2_advance_66 hl (by decide) rfl (fun ls hl => ?_)
      refine lv_aload_n hx hb dX2_advance_68 rfl (lv_at hl 4 rfl) ?_
      refine lv_aload_n hx hb dX2_advance_69 rfl (lv_at hl 3 rfl) ?_
      refine h_getr O hH ly_56 rfl fl_X2_11 dX2_advance_70 ?_
      refine lv_iload hx hb dX2_advance_73 (lv_at hl 2 rfl) ?_
      obtain ⟨g18, h⟩ := gd_some h
      refine h_iald O hH ly_57 g18 dX2_advance_75 ?_
      obtain ⟨D19, e20, h⟩ := lt_some h
      refine h_puti O hH h1.1 rfl fl_X2_31 e20 dX2_advance_76 (fun H locs hH => ?_)
      refine lv_aload_n hx hb dX2_advance_79 rfl (lv_at hl 4 rfl) ?_
      refine h_getr O hH h1.1 rfl fl_X2_53 dX2_advance_80 ?_
      refine lv_iconst (v := 0) hx hb dX2_advance_83 (by decide) ?_
      refine lv_iload hx hb dX2_advance_84 (lv_at hl 1 rfl) ?_
      obtain ⟨D22, e23, h⟩ := lt_some h
      refine h_iastk (k := 0) O hH h1.2 (by decide) (by decide) (by decide) e23 dX2_advance_86 (fun H locs hH => ?_)
      refine lv_aload_n hx hb dX2_advance_87 rfl (lv_at hl 4 rfl) ?_
      refine h_getr O hH h1.1 rfl fl_X2_53 dX2_advance_88 ?_
      refine lv_iconst (v := 1) hx hb dX2_advance_91 (by decide) ?_
      refine lv_iload hx hb dX2_advance_92 (lv_at hl 0 rfl) ?_
      obtain ⟨D25, e26, h⟩ := lt_some h
      refine h_iastk (k := 1) O hH h1.2 (by decide) (by decide) (by decide) e26 dX2_advance_94 (fun H locs hH => ?_)
      obtain rfl := ret_v h
      exact h_vret O hr hlk hH dX2_advance_95
    · have h := it_pos h c9
      refine lv_aload_n hx hb dX2_advance_35 rfl (lv_at hl 2 rfl) ?_
      obtain ⟨D27, hc28, h⟩ := bV_some h
      refine h_callVv (As := []) (rest := []) O hH (c_X1_lose h1 hc28) ml_X2_46 h1.1 rfl rfl hl.1 rfl ⟨Nat.le_of_ble_eq_true rfl, Nat.le_of_ble_eq_true rfl⟩ (Nat.le_of_ble_eq_true rfl) dX2_advance_36 (fun H locs hH => ?_)
      obtain rfl := ret_v h
      exact h_vret O hr hlk hH dX2_advance_39
  · have h := it_pos h c1
    obtain rfl := ret_v h
    exact h_vret O hr hlk hH dX2_advance_8
set_option maxHeartbeats 4000000 in
theorem c_X2_advance {l : Launch} {G : va_G} {tA : Nat → ClassId} {z : Nat} {E : Ex} {r1 : Nat} {x2 : Int32} {x3 : Int32} (h1 : isC1 r1) {D D' : Dm} (h : f_X2_advance r1 x2 x3 D = some D') : CtV l yX2_advance cX2_advance 7 G tA z E 2 0 0 [.ref (z + 56), .ref (z + r1), .int x2, .int x3] LAY D LAY D' :=
  ct_BV (by decide +kernel) (Nat.le_of_ble_eq_true rfl) (fun _ _ _ _ _ _ _ _ O hr hlk => w_X2_advance O hr hlk _ _ _ h1 _ h)
set_option maxHeartbeats 4000000 in
theorem w_X2_takes {G : va_G} {tA : Nat → ClassId} {z : Nat} {E : Ex} {p : Program} {l : Launch} {e : Env} {s : State} {m : MethodId} {args : Array Value} {below : List Frame} {meth : Method} {c : Code} {r : Int32} {D' : Dm} (O : Ok G tA z E cX2_takes RX2 2 p s m args c) (hr : meth.sig.returnType = some .boolean) (hlk : meth.locks = false) (r1 : Nat) (h1 : isC1 r1) (D : Dm) (h : f_X2_takes r1 D = some (r, D')) : BI G tA z E p l e (rmC 1 0 0) s m args below meth c LAY D r D' 2 0 [(0, .ref (z + 56)), (1, .ref (z + r1))] [] := by
  obtain ⟨hx, hb, -, hown, hts, -⟩ := id O
  unfold f_X2_takes at h
  intro H locs ls hH hl
  refine lv_aload_n hx hb dX2_takes_0 rfl (lv_at hl 1 rfl) ?_
  refine h_geti O hH h1.1 rfl fl_X2_31 dX2_takes_1 ?_
  refine lv_iconst (v := (-1)) hx hb dX2_takes_4 (by decide) ?_
  refine lv_icmp_eq (tgt := 26) hx hb dX2_takes_5 (by decide) (fun c1 => ?_) (fun c1 => ?_)
  · have h := it_pos h c1
    refine lv_iconst (v := 0) hx hb dX2_takes_26 (by decide) ?_
    obtain ⟨rfl, rfl⟩ := ret_i h
    exact h_zret O hr hlk zb_0 hH dX2_takes_27
  · have h := it_neg h c1
    refine lv_aload_n hx hb dX2_takes_8 rfl (lv_at hl 0 rfl) ?_
    refine h_geti O hH ly_56 rfl fl_X2_27 dX2_takes_9 ?_
    refine lv_aload_n hx hb dX2_takes_12 rfl (lv_at hl 1 rfl) ?_
    refine h_geti O hH h1.1 rfl fl_X2_31 dX2_takes_13 ?_
    refine lv_ishr hx hb dX2_takes_16 ?_
    refine lv_iconst (v := 1) hx hb dX2_takes_17 (by decide) ?_
    refine lv_iand hx hb dX2_takes_18 ?_
    refine lv_if_eq (tgt := 26) hx hb dX2_takes_19 (by decide) (fun c2 => ?_) (fun c2 => ?_)
    · have h := it_pos h c2
      refine lv_iconst (v := 0) hx hb dX2_takes_26 (by decide) ?_
      obtain ⟨rfl, rfl⟩ := ret_i h
      exact h_zret O hr hlk zb_0 hH dX2_takes_27
    · have h := it_neg h c2
      refine lv_iconst (v := 1) hx hb dX2_takes_22 (by decide) ?_
      refine lv_goto (tgt := 27) hx hb dX2_takes_23 (by decide) ?_
      obtain ⟨rfl, rfl⟩ := ret_i h
      exact h_zret O hr hlk zb_1 hH dX2_takes_27
set_option maxHeartbeats 4000000 in
theorem c_X2_takes {l : Launch} {G : va_G} {tA : Nat → ClassId} {z : Nat} {E : Ex} {r1 : Nat} (h1 : isC1 r1) {D D' : Dm} {r : Int32} (h : f_X2_takes r1 D = some (r, D')) : CtI l yX2_takes cX2_takes 2 (some .boolean) G tA z E 1 0 0 [.ref (z + 56), .ref (z + r1)] LAY D r LAY D' :=
  ct_BI (by decide +kernel) (Nat.le_of_ble_eq_true rfl) (fun _ _ _ _ _ _ _ _ O hr hlk => w_X2_takes O hr hlk _ h1 _ h)
