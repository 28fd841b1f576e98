theorem dX12_couples_0 : decode cX12_couples 0 = .ok (.aload_n 0, 1) := by decide +kernel
theorem dX12_couples_1 : decode cX12_couples 1 = .ok (.iconst 0, 1) := by decide +kernel
theorem dX12_couples_2 : decode cX12_couples 2 = .ok (.putfield 1, 3) := by decide +kernel
theorem dX12_couples_5 : decode cX12_couples 5 = .ok (.aload_n 0, 1) := by decide +kernel
theorem dX12_couples_6 : decode cX12_couples 6 = .ok (.iconst 0, 1) := by decide +kernel
theorem dX12_couples_7 : decode cX12_couples 7 = .ok (.invokevirtual 536, 3) := by decide +kernel
theorem dX12_couples_10 : decode cX12_couples 10 = .ok (.istore_n 1, 1) := by decide +kernel
theorem dX12_couples_11 : decode cX12_couples 11 = .ok (.aload_n 0, 1) := by decide +kernel
theorem dX12_couples_12 : decode cX12_couples 12 = .ok (.getfield 493, 3) := by decide +kernel
theorem dX12_couples_15 : decode cX12_couples 15 = .ok (.ireturn, 1) := by decide +kernel
theorem dX12_countAll_0 : decode cX12_countAll 0 = .ok (.iconst 0, 1) := by decide +kernel
theorem dX12_countAll_1 : decode cX12_countAll 1 = .ok (.istore_n 2, 1) := by decide +kernel
theorem dX12_countAll_2 : decode cX12_countAll 2 = .ok (.iconst 0, 1) := by decide +kernel
theorem dX12_countAll_3 : decode cX12_countAll 3 = .ok (.istore_n 3, 1) := by decide +kernel
theorem dX12_countAll_4 : decode cX12_countAll 4 = .ok (.iload_n 3, 1) := by decide +kernel
theorem dX12_countAll_5 : decode cX12_countAll 5 = .ok (.aload_n 0, 1) := by decide +kernel
theorem dX12_countAll_6 : decode cX12_countAll 6 = .ok (.getfield 310, 3) := by decide +kernel
theorem dX12_countAll_9 : decode cX12_countAll 9 = .ok (.if_icmp .ge 65, 3) := by decide +kernel
theorem dX12_countAll_12 : decode cX12_countAll 12 = .ok (.iload_n 2, 1) := by decide +kernel
theorem dX12_countAll_13 : decode cX12_countAll 13 = .ok (.iload_n 1, 1) := by decide +kernel
theorem dX12_countAll_14 : decode cX12_countAll 14 = .ok (.iconst 2, 1) := by decide +kernel
theorem dX12_countAll_15 : decode cX12_countAll 15 = .ok (.if_icmp .ne 12, 3) := by decide +kernel
theorem dX12_countAll_18 : decode cX12_countAll 18 = .ok (.aload_n 0, 1) := by decide +kernel
theorem dX12_countAll_19 : decode cX12_countAll 19 = .ok (.getfield 39, 3) := by decide +kernel
theorem dX12_countAll_22 : decode cX12_countAll 22 = .ok (.iload_n 3, 1) := by decide +kernel
theorem dX12_countAll_23 : decode cX12_countAll 23 = .ok (.iaload, 1) := by decide +kernel
theorem dX12_countAll_24 : decode cX12_countAll 24 = .ok (.goto 42, 3) := by decide +kernel
theorem dX12_countAll_27 : decode cX12_countAll 27 = .ok (.iload_n 1, 1) := by decide +kernel
theorem dX12_countAll_28 : decode cX12_countAll 28 = .ok (.bipush 6, 2) := by decide +kernel
theorem dX12_countAll_30 : decode cX12_countAll 30 = .ok (.if_icmp .ne 19, 3) := by decide +kernel
theorem dX12_countAll_33 : decode cX12_countAll 33 = .ok (.aload_n 0, 1) := by decide +kernel
theorem dX12_countAll_34 : decode cX12_countAll 34 = .ok (.iload_n 3, 1) := by decide +kernel
theorem dX12_countAll_35 : decode cX12_countAll 35 = .ok (.invokevirtual 508, 3) := by decide +kernel
theorem dX12_countAll_38 : decode cX12_countAll 38 = .ok (.ifCond .eq 7, 3) := by decide +kernel
theorem dX12_countAll_41 : decode cX12_countAll 41 = .ok (.iconst 1, 1) := by decide +kernel
theorem dX12_countAll_42 : decode cX12_countAll 42 = .ok (.goto 24, 3) := by decide +kernel
theorem dX12_countAll_45 : decode cX12_countAll 45 = .ok (.iconst 0, 1) := by decide +kernel
theorem dX12_countAll_46 : decode cX12_countAll 46 = .ok (.goto 20, 3) := by decide +kernel
theorem dX12_countAll_49 : decode cX12_countAll 49 = .ok (.aload_n 0, 1) := by decide +kernel
theorem dX12_countAll_50 : decode cX12_countAll 50 = .ok (.iconst 0, 1) := by decide +kernel
theorem dX12_countAll_51 : decode cX12_countAll 51 = .ok (.iconst 2, 1) := by decide +kernel
theorem dX12_countAll_52 : decode cX12_countAll 52 = .ok (.invokevirtual 155, 3) := by decide +kernel
theorem dX12_countAll_55 : decode cX12_countAll 55 = .ok (.iconst 1, 1) := by decide +kernel
theorem dX12_countAll_56 : decode cX12_countAll 56 = .ok (.aload_n 0, 1) := by decide +kernel
theorem dX12_countAll_57 : decode cX12_countAll 57 = .ok (.iload_n 3, 1) := by decide +kernel
theorem dX12_countAll_58 : decode cX12_countAll 58 = .ok (.invokevirtual 422, 3) := by decide +kernel
theorem dX12_countAll_61 : decode cX12_countAll 61 = .ok (.invokestatic 410, 3) := by decide +kernel
theorem dX12_countAll_64 : decode cX12_countAll 64 = .ok (.iadd, 1) := by decide +kernel
theorem dX12_countAll_65 : decode cX12_countAll 65 = .ok (.imul, 1) := by decide +kernel
theorem dX12_countAll_66 : decode cX12_countAll 66 = .ok (.iadd, 1) := by decide +kernel
theorem dX12_countAll_67 : decode cX12_countAll 67 = .ok (.istore_n 2, 1) := by decide +kernel
theorem dX12_countAll_68 : decode cX12_countAll 68 = .ok (.iinc 3 1, 3) := by decide +kernel
theorem dX12_countAll_71 : decode cX12_countAll 71 = .ok (.goto (-67), 3) := by decide +kernel
theorem dX12_countAll_74 : decode cX12_countAll 74 = .ok (.iload_n 2, 1) := by decide +kernel
theorem dX12_countAll_75 : decode cX12_countAll 75 = .ok (.ireturn, 1) := by decide +kernel
theorem dX12_count_0 : decode cX12_count 0 = .ok (.aload_n 0, 1) := by decide +kernel
theorem dX12_count_1 : decode cX12_count 1 = .ok (.iconst 0, 1) := by decide +kernel
theorem dX12_count_2 : decode cX12_count 2 = .ok (.putfield 1, 3) := by decide +kernel
theorem dX12_count_5 : decode cX12_count 5 = .ok (.iload_n 1, 1) := by decide +kernel
theorem dX12_count_6 : decode cX12_count 6 = .ok (.tableswitch 92 0 6 #[42, 47, 52, 58, 52, 87, 52], 42) := by decide +kernel
theorem dX12_count_48 : decode cX12_count 48 = .ok (.aload_n 0, 1) := by decide +kernel
theorem dX12_count_49 : decode cX12_count 49 = .ok (.getfield 310, 3) := by decide +kernel
theorem dX12_count_52 : decode cX12_count 52 = .ok (.ireturn, 1) := by decide +kernel
theorem dX12_count_53 : decode cX12_count 53 = .ok (.aload_n 0, 1) := by decide +kernel
theorem dX12_count_54 : decode cX12_count 54 = .ok (.getfield 313, 3) := by decide +kernel
theorem dX12_count_57 : decode cX12_count 57 = .ok (.ireturn, 1) := by decide +kernel
theorem dX12_count_58 : decode cX12_count 58 = .ok (.aload_n 0, 1) := by decide +kernel
theorem dX12_count_59 : decode cX12_count 59 = .ok (.iload_n 1, 1) := by decide +kernel
theorem dX12_count_60 : decode cX12_count 60 = .ok (.invokevirtual 585, 3) := by decide +kernel
theorem dX12_count_63 : decode cX12_count 63 = .ok (.ireturn, 1) := by decide +kernel
theorem dX12_count_64 : decode cX12_count 64 = .ok (.iconst 0, 1) := by decide +kernel
theorem dX12_count_65 : decode cX12_count 65 = .ok (.istore_n 2, 1) := by decide +kernel
theorem dX12_count_66 : decode cX12_count 66 = .ok (.iconst 0, 1) := by decide +kernel
theorem dX12_count_67 : decode cX12_count 67 = .ok (.istore_n 3, 1) := by decide +kernel
theorem dX12_count_68 : decode cX12_count 68 = .ok (.iload_n 3, 1) := by decide +kernel
theorem dX12_count_69 : decode cX12_count 69 = .ok (.aload_n 0, 1) := by decide +kernel
theorem dX12_count_70 : decode cX12_count 70 = .ok (.getfield 313, 3) := by decide +kernel
theorem dX12_count_73 : decode cX12_count 73 = .ok (.if_icmp .ge 18, 3) := by decide +kernel
theorem dX12_count_76 : decode cX12_count 76 = .ok (.iload_n 2, 1) := by decide +kernel
theorem dX12_count_77 : decode cX12_count 77 = .ok (.aload_n 0, 1) := by decide +kernel
theorem dX12_count_78 : decode cX12_count 78 = .ok (.getfield 48, 3) := by decide +kernel
theorem dX12_count_81 : decode cX12_count 81 = .ok (.iload_n 3, 1) := by decide +kernel
theorem dX12_count_82 : decode cX12_count 82 = .ok (.iaload, 1) := by decide +kernel
theorem dX12_count_83 : decode cX12_count 83 = .ok (.iadd, 1) := by decide +kernel
theorem dX12_count_84 : decode cX12_count 84 = .ok (.istore_n 2, 1) := by decide +kernel
theorem dX12_count_85 : decode cX12_count 85 = .ok (.iinc 3 1, 3) := by decide +kernel
theorem dX12_count_88 : decode cX12_count 88 = .ok (.goto (-20), 3) := by decide +kernel
theorem dX12_count_91 : decode cX12_count 91 = .ok (.iload_n 2, 1) := by decide +kernel
theorem dX12_count_92 : decode cX12_count 92 = .ok (.ireturn, 1) := by decide +kernel
theorem dX12_count_93 : decode cX12_count 93 = .ok (.aload_n 0, 1) := by decide +kernel
theorem dX12_count_94 : decode cX12_count 94 = .ok (.getfield 159, 3) := by decide +kernel
theorem dX12_count_97 : decode cX12_count 97 = .ok (.ireturn, 1) := by decide +kernel
theorem dX12_count_98 : decode cX12_count 98 = .ok (.iconst (-1), 1) := by decide +kernel
theorem dX12_count_99 : decode cX12_count 99 = .ok (.ireturn, 1) := by decide +kernel
def f_X12_couples  (D : Dm) : Option (Int32 × Dm) := lt (ud D 281 0 0) fun D1 => bI (f_X12_seeks 0 D1) fun y5 D3 => some ((D3 281 77), D3)
def f_X12_countAll_66 (k4 : Int32 → Int32 → Int32 → Dm → Option (Int32 × Dm)) (x1 : Int32) (x3 : Int32) (xs0 : Int32) (xs1 : Int32) (D : Dm) : Option (Int32 × Dm) := lt (xs1 + xs0) fun y1 => lt (x3 + 1) fun y3 => k4 x1 y1 y3 D
def f_X12_countAll_4_b (k4 : Int32 → Int32 → Int32 → Dm → Option (Int32 × Dm)) (x1 : Int32) (x2 : Int32) (x3 : Int32) (D : Dm) : Option (Int32 × Dm) := if (D 281 27) ≤ x3 then (some (x2, D)) else (if x1 = 2 then (gd (inB x3 10) (f_X12_countAll_66 k4 x1 x3 (D 289 (Int32.toNatClampNeg x3)) x2 D)) else (if x1 = 6 then (bI (f_X12_isGood x3 D) fun y15 D13 => if y15 = 0 then (f_X12_countAll_66 k4 x1 x3 0 x2 D13) else (f_X12_countAll_66 k4 x1 x3 1 x2 D13)) else (bI (f_X12_its 0 2 D) fun y6 D4 => bI (f_X12_hasShort x3 D4) fun y9 D7 => bI (f_X12_bits y9 D7) fun y12 D10 => f_X12_countAll_66 k4 x1 x3 (y6 * (1 + y12)) x2 D10)))
def f_X12_countAll_4 : Nat → Int32 → Int32 → Int32 → Dm → Option (Int32 × Dm)
  | 0, _, _, _, _ => none
  | n + 1, x1, x2, x3, D => f_X12_countAll_4_b (f_X12_countAll_4 n) x1 x2 x3 D
def f_X12_countAll (x1 : Int32) (D : Dm) : Option (Int32 × Dm) := f_X12_countAll_4 FU x1 0 0 D
def f_X12_count_68_b (k68 : Int32 → Int32 → Dm → Option (Int32 × Dm)) (x2 : Int32) (x3 : Int32) (D : Dm) : Option (Int32 × Dm) := if (D 281 28) ≤ x3 then (some (x2, D)) else (gd (inB x3 10) (lt (x2 + (D 292 (Int32.toNatClampNeg x3))) fun y3 => lt (x3 + 1) fun y5 => k68 y3 y5 D))
def f_X12_count_68 : Nat → Int32 → Int32 → Dm → Option (Int32 × Dm)
  | 0, _, _, _ => none
  | n + 1, x2, x3, D => f_X12_count_68_b (f_X12_count_68 n) x2 x3 D
def f_X12_count (x1 : Int32) (D : Dm) : Option (Int32 × Dm) := lt (ud D 281 0 0) fun D1 => if x1 = 0 then (some ((D1 281 27), D1)) else (if x1 = 1 then (some ((D1 281 28), D1)) else (if x1 = 2 then (bI (f_X12_countAll x1 D1) fun y8 D6 => some (y8, D6)) else (if x1 = 3 then (f_X12_count_68 FU 0 0 D1) else (if x1 = 4 then (bI (f_X12_countAll x1 D1) fun y13 D11 => some (y13, D11)) else (if x1 = 5 then (some ((D1 281 7), D1)) else (if x1 = 6 then (bI (f_X12_countAll x1 D1) fun y18 D16 => some (y18, D16)) else (some ((-1), D1))))))))
set_option maxHeartbeats 4000000 in
theorem w_X12_couples {G : va_G} {tA : Nat → ClassId} {z : Nat} {E : Ex} {p : Program} {l : Launch} {e : Env} {s : State} {m : MethodId} {args : Array Value} {below : List Frame} {meth : Method} {c : Code} {r : Int32} {D' : Dm} (O : Ok G tA z E cX12_couples RX12 2 p s m args c) (hr : meth.sig.returnType = some .int) (hlk : meth.locks = false)  (D : Dm) (h : f_X12_couples  D = some (r, D')) : BI G tA z E p l e (rmC 29 0 0) s m args below meth c LAY D r D' 2 0 [(0, .ref (z + 281))] [] := by
  obtain ⟨hx, hb, -, hown, hts, -⟩ := id O
  unfold f_X12_couples at h
  intro H locs ls hH hl
  refine lv_aload_n hx hb dX12_couples_0 rfl (lv_at hl 0 rfl) ?_
  refine lv_iconst (v := 0) hx hb dX12_couples_1 (by decide) ?_
  obtain ⟨D1, e2, h⟩ := lt_some h
  refine h_puti O hH ly_281 rfl fl_X12_1 e2 dX12_couples_2 (fun H locs hH => ?_)
  refine lv_aload_n hx hb dX12_couples_5 rfl (lv_at hl 0 rfl) ?_
  refine lv_iconst (v := 0) hx hb dX12_couples_6 (by decide) ?_
  obtain ⟨y5, D3, hc4, h⟩ := bI_some h
  refine h_callVi (As := [.int 0]) (rest := []) O hH (c_X12_seeks hc4) ml_X12_536 ly_281 rfl rfl hl.1 rfl ⟨Nat.le_of_ble_eq_true rfl, Nat.le_of_ble_eq_true rfl⟩ (Nat.le_of_ble_eq_true rfl) dX12_couples_7 (fun H locs hH => ?_)
  refine lv_istore_n (lv' := [(1, .int y5), (0, .ref (z + 281))]) hx hb dX12_couples_10 rfl hl (by decide) rfl (fun ls hl => ?_)
  refine lv_aload_n hx hb dX12_couples_11 rfl (lv_at hl 1 rfl) ?_
  refine h_geti O hH ly_281 rfl fl_X12_493 dX12_couples_12 ?_
  obtain ⟨rfl, rfl⟩ := ret_i h
  exact h_iret O hr hlk hH dX12_couples_15
set_option maxHeartbeats 4000000 in
theorem c_X12_couples {l : Launch} {G : va_G} {tA : Nat → ClassId} {z : Nat} {E : Ex}  {D D' : Dm} {r : Int32} (h : f_X12_couples  D = some (r, D')) : CtI l yX12_couples cX12_couples 2 (some .int) G tA z E 29 0 0 [.ref (z + 281)] LAY D r LAY D' :=
  ct_BI (by decide +kernel) (Nat.le_of_ble_eq_true rfl) (fun _ _ _ _ _ _ _ _ O hr hlk => w_X12_couples O hr hlk  _ h)
set_option maxHeartbeats 4000000 in
theorem w_X12_countAll_66 {G : va_G} {tA : Nat → ClassId} {z : Nat} {E : Ex} {p : Program} {l : Launch} {e : Env} {s : State} {m : MethodId} {args : Array Value} {below : List Frame} {meth : Method} {c : Code} {r : Int32} {D' : Dm} (O : Ok G tA z E cX12_countAll RX12 4 p s m args c) (hr : meth.sig.returnType = some .int) (hlk : meth.locks = false) {k4 : Int32 → Int32 → Int32 → Dm → Option (Int32 × Dm)} (hk4 : ∀ (x1 : Int32) (x2 : Int32) (x3 : Int32) (D : Dm), k4 x1 x2 x3 D = some (r, D') → BI G tA z E p l e (rmC 26 0 0) s m args below meth c LAY D r D' 4 4 [(0, .ref (z + 281)), (1, .int x1), (2, .int x2), (3, .int x3)] []) (x1 : Int32) (x3 : Int32) (xs0 : Int32) (xs1 : Int32) (D : Dm) (h : f_X12_countAll_66 k4 x1 x3 xs0 xs1 D = some (r, D')) : BI G tA z E p l e (rmC 26 0 0) s m args below meth c LAY D r D' 4 66 [(0, .ref (z + 281)), (1, .int x1), (3, .int x3)] [.int xs0, .int xs1] := by
  obtain ⟨hx, hb, -, hown, hts, -⟩ := id O
  unfold f_X12_countAll_66 at h
  intro H locs ls hH hl
  refine lv_iadd hx hb dX12_countAll_66 ?_
  refine lv_topi (fun y1 e2 => ?_)
  have h := lt_at e2 h
  refine lv_istore_n (lv' := [(2, .int y1), (0, .ref (z + 281)), (1, .int x1), (3, .int x3)]) hx hb dX12_countAll_67 rfl hl (by decide) rfl (fun ls hl => ?_)
  obtain ⟨y3, e4, h⟩ := lt_some h
  refine lv_iinc (v := y3) (lv' := [(3, .int y3), (2, .int y1), (0, .ref (z + 281)), (1, .int x1)]) hx hb dX12_countAll_68 hl (k := 3) rfl (by rw [e4]; rfl) (by decide) rfl (fun ls hl => ?_)
  refine lv_goto (tgt := 4) hx hb dX12_countAll_71 (by decide) ?_
  exact hk4 _ _ _ _ h _ _ _ hH (lv_sub hl [2, 3, 1, 0] rfl)
set_option maxHeartbeats 4000000 in
theorem w_X12_countAll_4_b {G : va_G} {tA : Nat → ClassId} {z : Nat} {E : Ex} {p : Program} {l : Launch} {e : Env} {s : State} {m : MethodId} {args : Array Value} {below : List Frame} {meth : Method} {c : Code} {r : Int32} {D' : Dm} (O : Ok G tA z E cX12_countAll RX12 4 p s m args c) (hr : meth.sig.returnType = some .int) (hlk : meth.locks = false) {k4 : Int32 → Int32 → Int32 → Dm → Option (Int32 × Dm)} (hk4 : ∀ (x1 : Int32) (x2 : Int32) (x3 : Int32) (D : Dm), k4 x1 x2 x3 D = some (r, D') → BI G tA z E p l e (rmC 26 0 0) s m args below meth c LAY D r D' 4 4 [(0, .ref (z + 281)), (1, .int x1), (2, .int x2), (3, .int x3)] []) (x1 : Int32) (x2 : Int32) (x3 : Int32) (D : Dm) (h : f_X12_countAll_4_b k4 x1 x2 x3 D = some (r, D')) : BI G tA z E p l e (rmC 26 0 0) s m args below meth c LAY D r D' 4 4 [(0, .ref (z + 281)), (1, .int x1), (2, .int x2), (3, .int x3)] [] := by
  obtain ⟨hx, hb, -, hown, hts, -⟩ := id O
  unfold f_X12_countAll_4_b at h
  intro H locs ls hH hl
  refine lv_iload_n hx hb dX12_countAll_4 rfl (lv_at hl 3 rfl) ?_
  refine lv_aload_n hx hb dX12_countAll_5 rfl (lv_at hl 0 rfl) ?_
  refine h_geti O hH ly_281 rfl fl_X12_310 dX12_countAll_6 ?_
  refine lv_icmp_ge (tgt := 74) hx hb dX12_countAll_9 (by decide) (fun c1 => ?_) (fun c1 => ?_)
  · have h := it_pos h c1
    refine lv_iload_n hx hb dX12_countAll_74 rfl (lv_at hl 2 rfl) ?_
    obtain ⟨rfl, rfl⟩ := ret_i h
    exact h_iret O hr hlk hH dX12_countAll_75
  · have h := it_neg h c1
    refine lv_iload_n hx hb dX12_countAll_12 rfl (lv_at hl 2 rfl) ?_
    refine lv_iload_n hx hb dX12_countAll_13 rfl (lv_at hl 1 rfl) ?_
    refine lv_iconst (v := 2) hx hb dX12_countAll_14 (by decide) ?_
    refine lv_icmp_ne (tgt := 27) hx hb dX12_countAll_15 (by decide) (fun c2 => ?_) (fun c2 => ?_)
    · have h := it_neg h c2
      refine lv_iload_n hx hb dX12_countAll_27 rfl (lv_at hl 1 rfl) ?_
      refine lv_bipush (v := 6) hx hb dX12_countAll_28 (by decide) ?_
      refine lv_icmp_ne (tgt := 49) hx hb dX12_countAll_30 (by decide) (fun c3 => ?_) (fun c3 => ?_)
      · have h := it_neg h c3
        refine lv_aload_n hx hb dX12_countAll_49 rfl (lv_at hl 0 rfl) ?_
        refine lv_iconst (v := 0) hx hb dX12_countAll_50 (by decide) ?_
        refine lv_iconst (v := 2) hx hb dX12_countAll_51 (by decide) ?_
        obtain ⟨y6, D4, hc5, h⟩ := bI_some h
        refine h_callVi (As := [.int 0, .int 2]) (rest := [.int x2]) O hH (c_X12_its hc5) ml_X12_155 ly_281 rfl rfl hl.1 rfl ⟨Nat.le_of_ble_eq_true rfl, Nat.le_of_ble_eq_true rfl⟩ (Nat.le_of_ble_eq_true rfl) dX12_countAll_52 (fun H locs hH => ?_)
        refine lv_iconst (v := 1) hx hb dX12_countAll_55 (by decide) ?_
        refine lv_aload_n hx hb dX12_countAll_56 rfl (lv_at hl 0 rfl) ?_
        refine lv_iload_n hx hb dX12_countAll_57 rfl (lv_at hl 3 rfl) ?_
        obtain ⟨y9, D7, hc8, h⟩ := bI_some h
        refine h_callVi (As := [.int x3]) (rest := [.int 1, .int y6, .int x2]) O hH (c_X12_hasShort hc8) ml_X12_422 ly_281 rfl rfl hl.1 rfl ⟨Nat.le_of_ble_eq_true rfl, Nat.le_of_ble_eq_true rfl⟩ (Nat.le_of_ble_eq_true rfl) dX12_countAll_58 (fun H locs hH => ?_)
        obtain ⟨y12, D10, hc11, h⟩ := bI_some h
        refine h_callSi (As := [.int y9]) (rest := [.int 1, .int y6, .int x2]) O hH (c_X12_bits hc11) ml_X12_410 rfl hl.1 rfl ⟨Nat.le_of_ble_eq_true rfl, Nat.le_of_ble_eq_true rfl⟩ (Nat.le_of_ble_eq_true rfl) dX12_countAll_61 (fun H locs hH => ?_)
        refine lv_iadd hx hb dX12_countAll_64 ?_
        refine lv_imul hx hb dX12_countAll_65 ?_
        exact w_X12_countAll_66 O hr hlk hk4 _ _ _ _ _ h _ _ _ hH (lv_sub hl [0, 1, 3] rfl)
      · have h := it_pos h c3
        refine lv_aload_n hx hb dX12_countAll_33 rfl (lv_at hl 0 rfl) ?_
        refine lv_iload_n hx hb dX12_countAll_34 rfl (lv_at hl 3 rfl) ?_
        obtain ⟨y15, D13, hc14, h⟩ := bI_some h
        refine h_callVi (As := [.int x3]) (rest := [.int x2]) O hH (c_X12_isGood hc14) ml_X12_508 ly_281 rfl rfl hl.1 rfl ⟨Nat.le_of_ble_eq_true rfl, Nat.le_of_ble_eq_true rfl⟩ (Nat.le_of_ble_eq_true rfl) dX12_countAll_35 (fun H locs hH => ?_)
        refine lv_if_eq (tgt := 45) hx hb dX12_countAll_38 (by decide) (fun c16 => ?_) (fun c16 => ?_)
        · have h := it_pos h c16
          refine lv_iconst (v := 0) hx hb dX12_countAll_45 (by decide) ?_
          refine lv_goto (tgt := 66) hx hb dX12_countAll_46 (by decide) ?_
          exact w_X12_countAll_66 O hr hlk hk4 _ _ _ _ _ h _ _ _ hH (lv_sub hl [0, 1, 3] rfl)
        · have h := it_neg h c16
          refine lv_iconst (v := 1) hx hb dX12_countAll_41 (by decide) ?_
          refine lv_goto (tgt := 66) hx hb dX12_countAll_42 (by decide) ?_
          exact w_X12_countAll_66 O hr hlk hk4 _ _ _ _ _ h _ _ _ hH (lv_sub hl [0, 1, 3] rfl)
    · have h := it_pos h c2
      refine lv_aload_n hx hb dX12_countAll_18 rfl (lv_at hl 0 rfl) ?_
      refine h_getr O hH ly_281 rfl fl_X12_39 dX12_countAll_19 ?_
      refine lv_iload_n hx hb dX12_countAll_22 rfl (lv_at hl 3 rfl) ?_
      obtain ⟨g17, h⟩ := gd_some h
      refine h_iald O hH ly_289 g17 dX12_countAll_23 ?_
      refine lv_goto (tgt := 66) hx hb dX12_countAll_24 (by decide) ?_
      exact w_X12_countAll_66 O hr hlk hk4 _ _ _ _ _ h _ _ _ hH (lv_sub hl [0, 1, 3] rfl)
set_option maxHeartbeats 4000000 in
theorem w_X12_countAll_4 {G : va_G} {tA : Nat → ClassId} {z : Nat} {E : Ex} {p : Program} {l : Launch} {e : Env} {s : State} {m : MethodId} {args : Array Value} {below : List Frame} {meth : Method} {c : Code} {r : Int32} {D' : Dm} (O : Ok G tA z E cX12_countAll RX12 4 p s m args c) (hr : meth.sig.returnType = some .int) (hlk : meth.locks = false) : ∀ (n : Nat) (x1 : Int32) (x2 : Int32) (x3 : Int32) (D : Dm) (h : f_X12_countAll_4 n x1 x2 x3 D = some (r, D')), BI G tA z E p l e (rmC 26 0 0) s m args below meth c LAY D r D' 4 4 [(0, .ref (z + 281)), (1, .int x1), (2, .int x2), (3, .int x3)] [] := by
  intro n
  induction n with
  | zero => intro x1 x2 x3 D h; exact no_some h
  | succ n ih => intro x1 x2 x3 D h; exact w_X12_countAll_4_b O hr hlk (fun x1 x2 x3 D h => ih x1 x2 x3 D h) x1 x2 x3 D h
set_option maxHeartbeats 4000000 in
theorem w_X12_countAll {G : va_G} {tA : Nat → ClassId} {z : Nat} {E : Ex} {p : Program} {l : Launch} {e : Env} {s : State} {m : MethodId} {args : Array Value} {below : List Frame} {meth : Method} {c : Code} {r : Int32} {D' : Dm} (O : Ok G tA z E cX12_countAll RX12 4 p s m args c) (hr : meth.sig.returnType = some .int) (hlk : meth.locks = false) (x1 : Int32) (D : Dm) (h : f_X12_countAll x1 D = some (r, D')) : BI G tA z E p l e (rmC 26 0 0) s m args below meth c LAY D r D' 4 0 [(0, .ref (z + 281)), (1, .int x1)] [] := by
  obtain ⟨hx, hb, -, hown, hts, -⟩ := id O
  unfold f_X12_countAll at h
  intro H locs ls hH hl
  refine lv_iconst (v := 0) hx hb dX12_countAll_0 (by decide) ?_
  refine lv_istore_n (lv' := [(2, .int 0), (0, .ref (z + 281)), (1, .int x1)]) hx hb dX12_countAll_1 rfl hl (by decide) rfl (fun ls hl => ?_)
  refine lv_iconst (v := 0) hx hb dX12_countAll_2 (by decide) ?_
  refine lv_istore_n (lv' := [(3, .int 0), (2, .int 0), (0, .ref (z + 281)), (1, .int x1)]) hx hb dX12_countAll_3 rfl hl (by decide) rfl (fun ls hl => ?_)
  exact w_X12_countAll_4 O hr hlk FU _ _ _ _ h _ _ _ hH (lv_sub hl [2, 3, 1, 0] rfl)
set_option maxHeartbeats 4000000 in
theorem c_X12_countAll {l : Launch} {G : va_G} {tA : Nat → ClassId} {z : Nat} {E : Ex} {x1 : Int32} {D D' : Dm} {r : Int32} (h : f_X12_countAll x1 D = some (r, D')) : CtI l yX12_countAll cX12_countAll 4 (some .int) G tA z E 26 0 0 [.ref (z + 281), .int x1] LAY D r LAY D' :=
  ct_BI (by decide +kernel) (Nat.le_of_ble_eq_true rfl) (fun _ _ _ _ _ _ _ _ O hr hlk => w_X12_countAll O hr hlk _ _ h)
set_option maxHeartbeats 4000000 in
theorem w_X12_count_68_b {G : va_G} {tA : Nat → ClassId} {z : Nat} {E : Ex} {p : Program} {l : Launch} {e : Env} {s : State} {m : MethodId} {args : Array Value} {below : List Frame} {meth : Method} {c : Code} {r : Int32} {D' : Dm} (O : Ok G tA z E cX12_count RX12 4 p s m args c) (hr : meth.sig.returnType = some .int) (hlk : meth.locks = false) {k68 : Int32 → Int32 → Dm → Option (Int32 × Dm)} (hk68 : ∀ (x2 : Int32) (x3 : Int32) (D : Dm), k68 x2 x3 D = some (r, D') → BI G tA z E p l e (rmC 27 0 0) s m args below meth c LAY D r D' 4 68 [(0, .ref (z + 281)), (2, .int x2), (3, .int x3)] []) (x2 : Int32) (x3 : Int32) (D : Dm) (h : f_X12_count_68_b k68 x2 x3 D = some (r, D')) : BI G tA z E p l e (rmC 27 0 0) s m args below meth c LAY D r D' 4 68 [(0, .ref (z + 281)), (2, .int x2), (3, .int x3)] [] := by
  obtain ⟨hx, hb, -, hown, hts, -⟩ := id O
  unfold f_X12_count_68_b at h
  intro H locs ls hH hl
  refine lv_iload_n hx hb dX12_count_68 rfl (lv_at hl 2 rfl) ?_
  refine lv_aload_n hx hb dX12_count_69 rfl (lv_at hl 0 rfl) ?_
  refine h_geti O hH ly_281 rfl fl_X12_313 dX12_count_70 ?_
  refine lv_icmp_ge (tgt := 91) hx hb dX12_count_73 (by decide) (fun c1 => ?_) (fun c1 => ?_)
  · have h := it_pos h c1
    refine lv_iload_n hx hb dX12_count_91 rfl (lv_at hl 1 rfl) ?_
    obtain ⟨rfl, rfl⟩ := ret_i h
    exact h_iret O hr hlk hH dX12_count_92
  · have h := it_neg h c1
    refine lv_iload_n hx hb dX12_count_76 rfl (lv_at hl 1 rfl) ?_
    refine lv_aload_n hx hb dX12_count_77 rfl (lv_at hl 0 rfl) ?_
    refine h_getr O hH ly_281 rfl fl_X12_48 dX12_count_78 ?_
    refine lv_iload_n hx hb dX12_count_81 rfl (lv_at hl 2 rfl) ?_
    obtain ⟨g2, h⟩ := gd_some h
    refine h_iald O hH ly_292 g2 dX12_count_82 ?_
    refine lv_iadd hx hb dX12_count_83 ?_
    refine lv_topi (fun y3 e4 => ?_)
    have h := lt_at e4 h
    refine lv_istore_n (lv' := [(2, .int y3), (0, .ref (z + 281)), (3, .int x3)]) hx hb dX12_count_84 rfl hl (by decide) rfl (fun ls hl => ?_)
    obtain ⟨y5, e6, h⟩ := lt_some h
    refine lv_iinc (v := y5) (lv' := [(3, .int y5), (2, .int y3), (0, .ref (z + 281))]) hx hb dX12_count_85 hl (k := 2) rfl (by rw [e6]; rfl) (by decide) rfl (fun ls hl => ?_)
    refine lv_goto (tgt := 68) hx hb dX12_count_88 (by decide) ?_
    exact hk68 _ _ _ h _ _ _ hH (lv_sub hl [2, 1, 0] rfl)
set_option maxHeartbeats 4000000 in
theorem w_X12_count_68 {G : va_G} {tA : Nat → ClassId} {z : Nat} {E : Ex} {p : Program} {l : Launch} {e : Env} {s : State} {m : MethodId} {args : Array Value} {below : List Frame} {meth : Method} {c : Code} {r : Int32} {D' : Dm} (O : Ok G tA z E cX12_count RX12 4 p s m args c) (hr : meth.sig.returnType = some .int) (hlk : meth.locks = false) : ∀ (n : Nat) (x2 : Int32) (x3 : Int32) (D : Dm) (h : f_X12_count_68 n x2 x3 D = some (r, D')), BI G tA z E p l e (rmC 27 0 0) s m args below meth c LAY D r D' 4 68 [(0, .ref (z + 281)), (2, .int x2), (3, .int x3)] [] := by
  intro n
  induction n with
  | zero => intro x2 x3 D h; exact no_some h
  | succ n ih => intro x2 x3 D h; exact w_X12_count_68_b O hr hlk (fun x2 x3 D h => ih x2 x3 D h) x2 x3 D h
set_option maxHeartbeats 4000000 in
theorem w_X12_count {G : va_G} {tA : Nat → ClassId} {z : Nat} {E : Ex} {p : Program} {l : Launch} {e : Env} {s : State} {m : MethodId} {args : Array Value} {below : List Frame} {meth : Method} {c : Code} {r : Int32} {D' : Dm} (O : Ok G tA z E cX12_count RX12 4 p s m args c) (hr : meth.sig.returnType = some .int) (hlk : meth.locks = false) (x1 : Int32) (D : Dm) (h : f_X12_count x1 D = some (r, D')) : BI G tA z E p l e (rmC 27 0 0) s m args below meth c LAY D r D' 4 0 [(0, .ref (z + 281)), (1, .int x1)] [] := by
  obtain ⟨hx, hb, -, hown, hts, -⟩ := id O
  unfold f_X12_count at h
  intro H locs ls hH hl
  refine lv_aload_n hx hb dX12_count_0 rfl (lv_at hl 0 rfl) ?_
  refine lv_iconst (v := 0) hx hb dX12_count_1 (by decide) ?_
  obtain ⟨D1, e2, h⟩ := lt_some h
  refine h_puti O hH ly_281 rfl fl_X12_1 e2 dX12_count_2 (fun H locs hH => ?_)
  refine lv_iload_n hx hb dX12_count_5 rfl (lv_at hl 1 rfl) ?_
  by_cases c3 : x1 = 0
  · have h := it_pos h c3
    refine lv_tableIn (off := 42) (tgt := 48) hx hb dX12_count_6 (by rw [c3]; decide) (by rw [c3]; decide) (by rw [c3]; rfl) (by decide) ?_
    refine lv_aload_n hx hb dX12_count_48 rfl (lv_at hl 0 rfl) ?_
    refine h_geti O hH ly_281 rfl fl_X12_310 dX12_count_49 ?_
    obtain ⟨rfl, rfl⟩ := ret_i h
    exact h_iret O hr hlk hH dX12_count_52
  have h := it_neg h c3
  by_cases c4 : x1 = 1
  · have h := it_pos h c4
    refine lv_tableIn (off := 47) (tgt := 53) hx hb dX12_count_6 (by rw [c4]; decide) (by rw [c4]; decide) (by rw [c4]; rfl) (by decide) ?_
    refine lv_aload_n hx hb dX12_count_53 rfl (lv_at hl 0 rfl) ?_
    refine h_geti O hH ly_281 rfl fl_X12_313 dX12_count_54 ?_
    obtain ⟨rfl, rfl⟩ := ret_i h
    exact h_iret O hr hlk hH dX12_count_57
  have h := it_neg h c4
  by_cases c5 : x1 = 2
  · have h := it_pos h c5
    refine lv_tableIn (off := 52) (tgt := 58) hx hb dX12_count_6 (by rw [c5]; decide) (by rw [c5]; decide) (by rw [c5]; rfl) (by decide) ?_
    refine lv_aload_n hx hb dX12_count_58 rfl (lv_at hl 0 rfl) ?_
    refine lv_iload_n hx hb dX12_count_59 rfl (lv_at hl 1 rfl) ?_
    obtain ⟨y8, D6, hc7, h⟩ := bI_some h
    refine h_callVi (As := [.int x1]) (rest := []) O hH (c_X12_countAll hc7) ml_X12_585 ly_281 rfl rfl hl.1 rfl ⟨Nat.le_of_ble_eq_true rfl, Nat.le_of_ble_eq_true rfl⟩ (Nat.le_of_ble_eq_true rfl) dX12_count_60 (fun H locs hH => ?_)
    obtain ⟨rfl, rfl⟩ := ret_i h
    exact h_iret O hr hlk hH dX12_count_63
  have h := it_neg h c5
  by_cases c9 : x1 = 3
  · have h := it_pos h c9
    refine lv_tableIn (off := 58) (tgt := 64) hx hb dX12_count_6 (by rw [c9]; decide) (by rw [c9]; decide) (by rw [c9]; rfl) (by decide) ?_
    refine lv_iconst (v := 0) hx hb dX12_count_64 (by decide) ?_
    refine lv_istore_n (lv' := [(2, .int 0), (0, .ref (z + 281)), (1, .int x1)]) hx hb dX12_count_65 rfl hl (by decide) rfl (fun ls hl => ?_)
    refine lv_iconst (v := 0) hx hb dX12_count_66 (by decide) ?_
    refine lv_istore_n (lv' := [(3, .int 0), (2, .int 0), (0, .ref (z + 281)), (1, .int x1)]) hx hb dX12_count_67 rfl hl (by decide) rfl (fun ls hl => ?_)
    exact w_X12_count_68 O hr hlk FU _ _ _ h _ _ _ hH (lv_sub hl [2, 1, 0] rfl)
  have h := it_neg h c9
  by_cases c10 : x1 = 4
  · have h := it_pos h c10
    refine lv_tableIn (off := 52) (tgt := 58) hx hb dX12_count_6 (by rw [c10]; decide) (by rw [c10]; decide) (by rw [c10]; rfl) (by decide) ?_
    refine lv_aload_n hx hb dX12_count_58 rfl (lv_at hl 0 rfl) ?_
    refine lv_iload_n hx hb dX12_count_59 rfl (lv_at hl 1 rfl) ?_
    obtain ⟨y13, D11, hc12, h⟩ := bI_some h
    refine h_callVi (As := [.int x1]) (rest := []) O hH (c_X12_countAll hc12) ml_X12_585 ly_281 rfl rfl hl.1 rfl ⟨Nat.le_of_ble_eq_true rfl, Nat.le_of_ble_eq_true rfl⟩ (Nat.le_of_ble_eq_true rfl) dX12_count_60 (fun H locs hH => ?_)
    obtain ⟨rfl, rfl⟩ := ret_i h
    exact h_iret O hr hlk hH dX12_count_63
  have h := it_neg h c10
  by_cases c14 : x1 = 5
  · have h := it_pos h c14
    refine lv_tableIn (off := 87) (tgt := 93) hx hb dX12_count_6 (by rw [c14]; decide) (by rw [c14]; decide) (by rw [c14]; rfl) (by decide) ?_
    refine lv_aload_n hx hb dX12_count_93 rfl (lv_at hl 0 rfl) ?_
    refine h_geti O hH ly_281 rfl fl_X12_159 dX12_count_94 ?_
    obtain ⟨rfl, rfl⟩ := ret_i h
    exact h_iret O hr hlk hH dX12_count_97
  have h := it_neg h c14
  by_cases c15 : x1 = 6
  · have h := it_pos h c15
    refine lv_tableIn (off := 52) (tgt := 58) hx hb dX12_count_6 (by rw [c15]; decide) (by rw [c15]; decide) (by rw [c15]; rfl) (by decide) ?_
    refine lv_aload_n hx hb dX12_count_58 rfl (lv_at hl 0 rfl) ?_
    refine lv_iload_n hx hb dX12_count_59 rfl (lv_at hl 1 rfl) ?_
    obtain ⟨y18, D16, hc17, h⟩ := bI_some h
    refine h_callVi (As := [.int x1]) (rest := []) O hH (c_X12_countAll hc17) ml_X12_585 ly_281 rfl rfl hl.1 rfl ⟨Nat.le_of_ble_eq_true rfl, Nat.le_of_ble_eq_true rfl⟩ (Nat.le_of_ble_eq_true rfl) dX12_count_60 (fun H locs hH => ?_)
    obtain ⟨rfl, rfl⟩ := ret_i h
    exact h_iret O hr hlk hH dX12_count_63
  have h := it_neg h c15
  refine lv_tableOut (tgt := 98) hx hb dX12_count_6 (by have a0 := ne_toInt c3 (k := 0) (by decide); have a1 := ne_toInt c4 (k := 1) (by decide); have a2 := ne_toInt c5 (k := 2) (by decide); have a3 := ne_toInt c9 (k := 3) (by decide); have a4 := ne_toInt c10 (k := 4) (by decide); have a5 := ne_toInt c14 (k := 5) (by decide); have a6 := ne_toInt c15 (k := 6) (by decide); omega) (by decide) ?_
  refine lv_iconst (v := (-1)) hx hb dX12_count_98 (by decide) ?_
  obtain ⟨rfl, rfl⟩ := ret_i h
  exact h_iret O hr hlk hH dX12_count_99
set_option maxHeartbeats 4000000 in
theorem c_X12_count {l : Launch} {G : va_G} {tA : Nat → ClassId} {z : Nat} {E : Ex} {x1 : Int32} {D D' : Dm} {r : Int32} (h : f_X12_count x1 D = some (r, D')) : CtI l yX12_count cX12_count 4 (some .int) G tA z E 27 0 0 [.ref (z + 281), .int x1] LAY D r LAY D' :=
  ct_BI (by decide +kernel) (Nat.le_of_ble_eq_true rfl) (fun _ _ _ _ _ _ _ _ O hr hlk => w_X12_count O hr hlk _ _ h)
