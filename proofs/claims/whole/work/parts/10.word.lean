theorem dX10_clear_0 : decode cX10_clear 0 = .ok (.aload_n 0, 1) := by decide +kernel
theorem dX10_clear_1 : decode cX10_clear 1 = .ok (.iconst 0, 1) := by decide +kernel
theorem dX10_clear_2 : decode cX10_clear 2 = .ok (.putfield 21, 3) := by decide +kernel
theorem dX10_clear_5 : decode cX10_clear 5 = .ok (.aload_n 0, 1) := by decide +kernel
theorem dX10_clear_6 : decode cX10_clear 6 = .ok (.iconst 0, 1) := by decide +kernel
theorem dX10_clear_7 : decode cX10_clear 7 = .ok (.putfield 25, 3) := by decide +kernel
theorem dX10_clear_10 : decode cX10_clear 10 = .ok (.return_, 1) := by decide +kernel
theorem dX10_leastOf_0 : decode cX10_leastOf 0 = .ok (.iconst 0, 1) := by decide +kernel
theorem dX10_leastOf_1 : decode cX10_leastOf 1 = .ok (.istore_n 2, 1) := by decide +kernel
theorem dX10_leastOf_2 : decode cX10_leastOf 2 = .ok (.iload_n 2, 1) := by decide +kernel
theorem dX10_leastOf_3 : decode cX10_leastOf 3 = .ok (.aload_n 0, 1) := by decide +kernel
theorem dX10_leastOf_4 : decode cX10_leastOf 4 = .ok (.getfield 21, 3) := by decide +kernel
theorem dX10_leastOf_7 : decode cX10_leastOf 7 = .ok (.if_icmp .ge 26, 3) := by decide +kernel
theorem dX10_leastOf_10 : decode cX10_leastOf 10 = .ok (.aload_n 0, 1) := by decide +kernel
theorem dX10_leastOf_11 : decode cX10_leastOf 11 = .ok (.getfield 15, 3) := by decide +kernel
theorem dX10_leastOf_14 : decode cX10_leastOf 14 = .ok (.iload_n 2, 1) := by decide +kernel
theorem dX10_leastOf_15 : decode cX10_leastOf 15 = .ok (.iaload, 1) := by decide +kernel
theorem dX10_leastOf_16 : decode cX10_leastOf 16 = .ok (.iload_n 1, 1) := by decide +kernel
theorem dX10_leastOf_17 : decode cX10_leastOf 17 = .ok (.if_icmp .ne 10, 3) := by decide +kernel
theorem dX10_leastOf_20 : decode cX10_leastOf 20 = .ok (.aload_n 0, 1) := by decide +kernel
theorem dX10_leastOf_21 : decode cX10_leastOf 21 = .ok (.getfield 18, 3) := by decide +kernel
theorem dX10_leastOf_24 : decode cX10_leastOf 24 = .ok (.iload_n 2, 1) := by decide +kernel
theorem dX10_leastOf_25 : decode cX10_leastOf 25 = .ok (.iaload, 1) := by decide +kernel
theorem dX10_leastOf_26 : decode cX10_leastOf 26 = .ok (.ireturn, 1) := by decide +kernel
theorem dX10_leastOf_27 : decode cX10_leastOf 27 = .ok (.iinc 2 1, 3) := by decide +kernel
theorem dX10_leastOf_30 : decode cX10_leastOf 30 = .ok (.goto (-28), 3) := by decide +kernel
theorem dX10_leastOf_33 : decode cX10_leastOf 33 = .ok (.aload_n 0, 1) := by decide +kernel
theorem dX10_leastOf_34 : decode cX10_leastOf 34 = .ok (.getfield 25, 3) := by decide +kernel
theorem dX10_leastOf_37 : decode cX10_leastOf 37 = .ok (.ireturn, 1) := by decide +kernel
theorem dX10_add_0 : decode cX10_add 0 = .ok (.aload_n 0, 1) := by decide +kernel
theorem dX10_add_1 : decode cX10_add 1 = .ok (.getfield 21, 3) := by decide +kernel
theorem dX10_add_4 : decode cX10_add 4 = .ok (.bipush 20, 2) := by decide +kernel
theorem dX10_add_6 : decode cX10_add 6 = .ok (.if_icmp .lt 4, 3) := by decide +kernel
theorem dX10_add_9 : decode cX10_add 9 = .ok (.return_, 1) := by decide +kernel
theorem dX10_add_10 : decode cX10_add 10 = .ok (.aload_n 0, 1) := by decide +kernel
theorem dX10_add_11 : decode cX10_add 11 = .ok (.getfield 9, 3) := by decide +kernel
theorem dX10_add_14 : decode cX10_add 14 = .ok (.aload_n 0, 1) := by decide +kernel
theorem dX10_add_15 : decode cX10_add 15 = .ok (.getfield 21, 3) := by decide +kernel
theorem dX10_add_18 : decode cX10_add 18 = .ok (.iload_n 1, 1) := by decide +kernel
theorem dX10_add_19 : decode cX10_add 19 = .ok (.iastore, 1) := by decide +kernel
theorem dX10_add_20 : decode cX10_add 20 = .ok (.aload_n 0, 1) := by decide +kernel
theorem dX10_add_21 : decode cX10_add 21 = .ok (.getfield 15, 3) := by decide +kernel
theorem dX10_add_24 : decode cX10_add 24 = .ok (.aload_n 0, 1) := by decide +kernel
theorem dX10_add_25 : decode cX10_add 25 = .ok (.getfield 21, 3) := by decide +kernel
theorem dX10_add_28 : decode cX10_add 28 = .ok (.iload_n 2, 1) := by decide +kernel
theorem dX10_add_29 : decode cX10_add 29 = .ok (.iastore, 1) := by decide +kernel
theorem dX10_add_30 : decode cX10_add 30 = .ok (.aload_n 0, 1) := by decide +kernel
theorem dX10_add_31 : decode cX10_add 31 = .ok (.getfield 18, 3) := by decide +kernel
theorem dX10_add_34 : decode cX10_add 34 = .ok (.aload_n 0, 1) := by decide +kernel
theorem dX10_add_35 : decode cX10_add 35 = .ok (.getfield 21, 3) := by decide +kernel
theorem dX10_add_38 : decode cX10_add 38 = .ok (.aload_n 0, 1) := by decide +kernel
theorem dX10_add_39 : decode cX10_add 39 = .ok (.iload_n 2, 1) := by decide +kernel
theorem dX10_add_40 : decode cX10_add 40 = .ok (.invokevirtual 28, 3) := by decide +kernel
theorem dX10_add_43 : decode cX10_add 43 = .ok (.iastore, 1) := by decide +kernel
theorem dX10_add_44 : decode cX10_add 44 = .ok (.aload_n 0, 1) := by decide +kernel
theorem dX10_add_45 : decode cX10_add 45 = .ok (.getfield 18, 3) := by decide +kernel
theorem dX10_add_48 : decode cX10_add 48 = .ok (.aload_n 0, 1) := by decide +kernel
theorem dX10_add_49 : decode cX10_add 49 = .ok (.getfield 21, 3) := by decide +kernel
theorem dX10_add_52 : decode cX10_add 52 = .ok (.iaload, 1) := by decide +kernel
theorem dX10_add_53 : decode cX10_add 53 = .ok (.aload_n 0, 1) := by decide +kernel
theorem dX10_add_54 : decode cX10_add 54 = .ok (.getfield 25, 3) := by decide +kernel
theorem dX10_add_57 : decode cX10_add 57 = .ok (.if_icmp .ne 13, 3) := by decide +kernel
theorem dX10_add_60 : decode cX10_add 60 = .ok (.aload_n 0, 1) := by decide +kernel
theorem dX10_add_61 : decode cX10_add 61 = .ok (.dup, 1) := by decide +kernel
theorem dX10_add_62 : decode cX10_add 62 = .ok (.getfield 25, 3) := by decide +kernel
theorem dX10_add_65 : decode cX10_add 65 = .ok (.iconst 1, 1) := by decide +kernel
theorem dX10_add_66 : decode cX10_add 66 = .ok (.iadd, 1) := by decide +kernel
theorem dX10_add_67 : decode cX10_add 67 = .ok (.putfield 25, 3) := by decide +kernel
theorem dX10_add_70 : decode cX10_add 70 = .ok (.aload_n 0, 1) := by decide +kernel
theorem dX10_add_71 : decode cX10_add 71 = .ok (.dup, 1) := by decide +kernel
theorem dX10_add_72 : decode cX10_add 72 = .ok (.getfield 21, 3) := by decide +kernel
theorem dX10_add_75 : decode cX10_add 75 = .ok (.iconst 1, 1) := by decide +kernel
theorem dX10_add_76 : decode cX10_add 76 = .ok (.iadd, 1) := by decide +kernel
theorem dX10_add_77 : decode cX10_add 77 = .ok (.putfield 21, 3) := by decide +kernel
theorem dX10_add_80 : decode cX10_add 80 = .ok (.return_, 1) := by decide +kernel
theorem dX10_copyLeast_0 : decode cX10_copyLeast 0 = .ok (.aload_n 0, 1) := by decide +kernel
theorem dX10_copyLeast_1 : decode cX10_copyLeast 1 = .ok (.invokevirtual 32, 3) := by decide +kernel
theorem dX10_copyLeast_4 : decode cX10_copyLeast 4 = .ok (.iconst 0, 1) := by decide +kernel
theorem dX10_copyLeast_5 : decode cX10_copyLeast 5 = .ok (.istore_n 2, 1) := by decide +kernel
theorem dX10_copyLeast_6 : decode cX10_copyLeast 6 = .ok (.iload_n 2, 1) := by decide +kernel
theorem dX10_copyLeast_7 : decode cX10_copyLeast 7 = .ok (.aload_n 1, 1) := by decide +kernel
theorem dX10_copyLeast_8 : decode cX10_copyLeast 8 = .ok (.getfield 21, 3) := by decide +kernel
theorem dX10_copyLeast_11 : decode cX10_copyLeast 11 = .ok (.if_icmp .ge 25, 3) := by decide +kernel
theorem dX10_copyLeast_14 : decode cX10_copyLeast 14 = .ok (.aload_n 0, 1) := by decide +kernel
theorem dX10_copyLeast_15 : decode cX10_copyLeast 15 = .ok (.aload_n 1, 1) := by decide +kernel
theorem dX10_copyLeast_16 : decode cX10_copyLeast 16 = .ok (.getfield 9, 3) := by decide +kernel
theorem dX10_copyLeast_19 : decode cX10_copyLeast 19 = .ok (.iload_n 2, 1) := by decide +kernel
theorem dX10_copyLeast_20 : decode cX10_copyLeast 20 = .ok (.iaload, 1) := by decide +kernel
theorem dX10_copyLeast_21 : decode cX10_copyLeast 21 = .ok (.aload_n 1, 1) := by decide +kernel
theorem dX10_copyLeast_22 : decode cX10_copyLeast 22 = .ok (.getfield 18, 3) := by decide +kernel
theorem dX10_copyLeast_25 : decode cX10_copyLeast 25 = .ok (.iload_n 2, 1) := by decide +kernel
theorem dX10_copyLeast_26 : decode cX10_copyLeast 26 = .ok (.iaload, 1) := by decide +kernel
theorem dX10_copyLeast_27 : decode cX10_copyLeast 27 = .ok (.invokevirtual 35, 3) := by decide +kernel
theorem dX10_copyLeast_30 : decode cX10_copyLeast 30 = .ok (.iinc 2 1, 3) := by decide +kernel
theorem dX10_copyLeast_33 : decode cX10_copyLeast 33 = .ok (.goto (-27), 3) := by decide +kernel
theorem dX10_copyLeast_36 : decode cX10_copyLeast 36 = .ok (.return_, 1) := by decide +kernel
theorem dX10_copy_0 : decode cX10_copy 0 = .ok (.aload_n 0, 1) := by decide +kernel
theorem dX10_copy_1 : decode cX10_copy 1 = .ok (.invokevirtual 32, 3) := by decide +kernel
theorem dX10_copy_4 : decode cX10_copy 4 = .ok (.iconst 0, 1) := by decide +kernel
theorem dX10_copy_5 : decode cX10_copy 5 = .ok (.istore_n 2, 1) := by decide +kernel
theorem dX10_copy_6 : decode cX10_copy 6 = .ok (.iload_n 2, 1) := by decide +kernel
theorem dX10_copy_7 : decode cX10_copy 7 = .ok (.aload_n 1, 1) := by decide +kernel
theorem dX10_copy_8 : decode cX10_copy 8 = .ok (.getfield 21, 3) := by decide +kernel
theorem dX10_copy_11 : decode cX10_copy 11 = .ok (.if_icmp .ge 25, 3) := by decide +kernel
theorem dX10_copy_14 : decode cX10_copy 14 = .ok (.aload_n 0, 1) := by decide +kernel
theorem dX10_copy_15 : decode cX10_copy 15 = .ok (.aload_n 1, 1) := by decide +kernel
theorem dX10_copy_16 : decode cX10_copy 16 = .ok (.getfield 9, 3) := by decide +kernel
theorem dX10_copy_19 : decode cX10_copy 19 = .ok (.iload_n 2, 1) := by decide +kernel
theorem dX10_copy_20 : decode cX10_copy 20 = .ok (.iaload, 1) := by decide +kernel
theorem dX10_copy_21 : decode cX10_copy 21 = .ok (.aload_n 1, 1) := by decide +kernel
theorem dX10_copy_22 : decode cX10_copy 22 = .ok (.getfield 15, 3) := by decide +kernel
theorem dX10_copy_25 : decode cX10_copy 25 = .ok (.iload_n 2, 1) := by decide +kernel
theorem dX10_copy_26 : decode cX10_copy 26 = .ok (.iaload, 1) := by decide +kernel
theorem dX10_copy_27 : decode cX10_copy 27 = .ok (.invokevirtual 35, 3) := by decide +kernel
theorem dX10_copy_30 : decode cX10_copy 30 = .ok (.iinc 2 1, 3) := by decide +kernel
theorem dX10_copy_33 : decode cX10_copy 33 = .ok (.goto (-27), 3) := by decide +kernel
theorem dX10_copy_36 : decode cX10_copy 36 = .ok (.return_, 1) := by decide +kernel
theorem dX10_isLeastAs_0 : decode cX10_isLeastAs 0 = .ok (.aload_n 0, 1) := by decide +kernel
theorem dX10_isLeastAs_1 : decode cX10_isLeastAs 1 = .ok (.getfield 21, 3) := by decide +kernel
theorem dX10_isLeastAs_4 : decode cX10_isLeastAs 4 = .ok (.aload_n 1, 1) := by decide +kernel
theorem dX10_isLeastAs_5 : decode cX10_isLeastAs 5 = .ok (.getfield 21, 3) := by decide +kernel
theorem dX10_isLeastAs_8 : decode cX10_isLeastAs 8 = .ok (.if_icmp .eq 5, 3) := by decide +kernel
theorem dX10_isLeastAs_11 : decode cX10_isLeastAs 11 = .ok (.iconst 0, 1) := by decide +kernel
theorem dX10_isLeastAs_12 : decode cX10_isLeastAs 12 = .ok (.ireturn, 1) := by decide +kernel
theorem dX10_isLeastAs_13 : decode cX10_isLeastAs 13 = .ok (.iconst 0, 1) := by decide +kernel
theorem dX10_isLeastAs_14 : decode cX10_isLeastAs 14 = .ok (.istore_n 2, 1) := by decide +kernel
theorem dX10_isLeastAs_15 : decode cX10_isLeastAs 15 = .ok (.iload_n 2, 1) := by decide +kernel
theorem dX10_isLeastAs_16 : decode cX10_isLeastAs 16 = .ok (.aload_n 0, 1) := by decide +kernel
theorem dX10_isLeastAs_17 : decode cX10_isLeastAs 17 = .ok (.getfield 21, 3) := by decide +kernel
theorem dX10_isLeastAs_20 : decode cX10_isLeastAs 20 = .ok (.if_icmp .ge 41, 3) := by decide +kernel
theorem dX10_isLeastAs_23 : decode cX10_isLeastAs 23 = .ok (.aload_n 0, 1) := by decide +kernel
theorem dX10_isLeastAs_24 : decode cX10_isLeastAs 24 = .ok (.getfield 9, 3) := by decide +kernel
theorem dX10_isLeastAs_27 : decode cX10_isLeastAs 27 = .ok (.iload_n 2, 1) := by decide +kernel
theorem dX10_isLeastAs_28 : decode cX10_isLeastAs 28 = .ok (.iaload, 1) := by decide +kernel
theorem dX10_isLeastAs_29 : decode cX10_isLeastAs 29 = .ok (.aload_n 1, 1) := by decide +kernel
theorem dX10_isLeastAs_30 : decode cX10_isLeastAs 30 = .ok (.getfield 9, 3) := by decide +kernel
theorem dX10_isLeastAs_33 : decode cX10_isLeastAs 33 = .ok (.iload_n 2, 1) := by decide +kernel
theorem dX10_isLeastAs_34 : decode cX10_isLeastAs 34 = .ok (.iaload, 1) := by decide +kernel
theorem dX10_isLeastAs_35 : decode cX10_isLeastAs 35 = .ok (.if_icmp .ne 18, 3) := by decide +kernel
theorem dX10_isLeastAs_38 : decode cX10_isLeastAs 38 = .ok (.aload_n 0, 1) := by decide +kernel
theorem dX10_isLeastAs_39 : decode cX10_isLeastAs 39 = .ok (.getfield 18, 3) := by decide +kernel
theorem dX10_isLeastAs_42 : decode cX10_isLeastAs 42 = .ok (.iload_n 2, 1) := by decide +kernel
theorem dX10_isLeastAs_43 : decode cX10_isLeastAs 43 = .ok (.iaload, 1) := by decide +kernel
theorem dX10_isLeastAs_44 : decode cX10_isLeastAs 44 = .ok (.aload_n 1, 1) := by decide +kernel
theorem dX10_isLeastAs_45 : decode cX10_isLeastAs 45 = .ok (.getfield 18, 3) := by decide +kernel
theorem dX10_isLeastAs_48 : decode cX10_isLeastAs 48 = .ok (.iload_n 2, 1) := by decide +kernel
theorem dX10_isLeastAs_49 : decode cX10_isLeastAs 49 = .ok (.iaload, 1) := by decide +kernel
theorem dX10_isLeastAs_50 : decode cX10_isLeastAs 50 = .ok (.if_icmp .eq 5, 3) := by decide +kernel
theorem dX10_isLeastAs_53 : decode cX10_isLeastAs 53 = .ok (.iconst 0, 1) := by decide +kernel
theorem dX10_isLeastAs_54 : decode cX10_isLeastAs 54 = .ok (.ireturn, 1) := by decide +kernel
theorem dX10_isLeastAs_55 : decode cX10_isLeastAs 55 = .ok (.iinc 2 1, 3) := by decide +kernel
theorem dX10_isLeastAs_58 : decode cX10_isLeastAs 58 = .ok (.goto (-43), 3) := by decide +kernel
theorem dX10_isLeastAs_61 : decode cX10_isLeastAs 61 = .ok (.iconst 1, 1) := by decide +kernel
theorem dX10_isLeastAs_62 : decode cX10_isLeastAs 62 = .ok (.ireturn, 1) := by decide +kernel
def f_X10_clear (r0 : Nat) (D : Dm) : Option Dm := lt (ud D r0 3 0) fun D1 => lt (ud D1 r0 4 0) fun D3 => some D3
def f_X10_leastOf_2_b (k2 : Nat → Int32 → Int32 → Dm → Option (Int32 × Dm)) (r0 : Nat) (x1 : Int32) (x2 : Int32) (D : Dm) : Option (Int32 × Dm) := if (D r0 3) ≤ x2 then (some ((D r0 4), D)) else (gd (inB x2 20) (if (D (r0 + 2) (Int32.toNatClampNeg x2)) = x1 then (gd (inB x2 20) (some ((D (r0 + 3) (Int32.toNatClampNeg x2)), D))) else (lt (x2 + 1) fun y4 => k2 r0 x1 y4 D)))
def f_X10_leastOf_2 : Nat → Nat → Int32 → Int32 → Dm → Option (Int32 × Dm)
  | 0, _, _, _, _ => none
  | n + 1, r0, x1, x2, D => f_X10_leastOf_2_b (f_X10_leastOf_2 n) r0 x1 x2 D
def f_X10_leastOf (r0 : Nat) (x1 : Int32) (D : Dm) : Option (Int32 × Dm) := f_X10_leastOf_2 FU r0 x1 0 D
def f_X10_add_70 (r0 : Nat) (D : Dm) : Option Dm := lt (ud D r0 3 ((D r0 3) + 1)) fun D1 => some D1
def f_X10_add (r0 : Nat) (x1 : Int32) (x2 : Int32) (D : Dm) : Option Dm := if (D r0 3) < 20 then (gd (inB (D r0 3) 20) (lt (ud D (r0 + 1) (Int32.toNatClampNeg (D r0 3)) x1) fun D3 => gd (inB (D3 r0 3) 20) (lt (ud D3 (r0 + 2) (Int32.toNatClampNeg (D3 r0 3)) x2) fun D6 => bI (f_X10_leastOf r0 x2 D6) fun y10 D8 => gd (inB (D6 r0 3) 20) (lt (ud D8 (r0 + 3) (Int32.toNatClampNeg (D6 r0 3)) y10) fun D12 => gd (inB (D12 r0 3) 20) (if (D12 (r0 + 3) (Int32.toNatClampNeg (D12 r0 3))) = (D12 r0 4) then (lt (ud D12 r0 4 ((D12 r0 4) + 1)) fun D16 => f_X10_add_70 r0 D16) else (f_X10_add_70 r0 D12)))))) else (some D)
def f_X10_copyLeast_6_b (k6 : Nat → Nat → Int32 → Dm → Option Dm) (r0 : Nat) (r1 : Nat) (x2 : Int32) (D : Dm) : Option Dm := if (D r1 3) ≤ x2 then (some D) else (gd (inB x2 20) (gd (inB x2 20) (bV (f_X10_add r0 (D (r1 + 1) (Int32.toNatClampNeg x2)) (D (r1 + 3) (Int32.toNatClampNeg x2)) D) fun D4 => lt (x2 + 1) fun y6 => k6 r0 r1 y6 D4)))
def f_X10_copyLeast_6 : Nat → Nat → Nat → Int32 → Dm → Option Dm
  | 0, _, _, _, _ => none
  | n + 1, r0, r1, x2, D => f_X10_copyLeast_6_b (f_X10_copyLeast_6 n) r0 r1 x2 D
def f_X10_copyLeast (r0 : Nat) (r1 : Nat) (D : Dm) : Option Dm := bV (f_X10_clear r0 D) fun D1 => f_X10_copyLeast_6 FU r0 r1 0 D1
def f_X10_copy_6_b (k6 : Nat → Nat → Int32 → Dm → Option Dm) (r0 : Nat) (r1 : Nat) (x2 : Int32) (D : Dm) : Option Dm := if (D r1 3) ≤ x2 then (some D) else (gd (inB x2 20) (gd (inB x2 20) (bV (f_X10_add r0 (D (r1 + 1) (Int32.toNatClampNeg x2)) (D (r1 + 2) (Int32.toNatClampNeg x2)) D) fun D4 => lt (x2 + 1) fun y6 => k6 r0 r1 y6 D4)))
def f_X10_copy_6 : Nat → Nat → Nat → Int32 → Dm → Option Dm
  | 0, _, _, _, _ => none
  | n + 1, r0, r1, x2, D => f_X10_copy_6_b (f_X10_copy_6 n) r0 r1 x2 D
def f_X10_copy (r0 : Nat) (r1 : Nat) (D : Dm) : Option Dm := bV (f_X10_clear r0 D) fun D1 => f_X10_copy_6 FU r0 r1 0 D1
def f_X10_isLeastAs_15_b (k15 : Nat → Nat → Int32 → Dm → Option (Int32 × Dm)) (r0 : Nat) (r1 : Nat) (x2 : Int32) (D : Dm) : Option (Int32 × Dm) := if (D r0 3) ≤ x2 then (some (1, D)) else (gd (inB x2 20) (gd (inB x2 20) (if (D (r0 + 1) (Int32.toNatClampNeg x2)) = (D (r1 + 1) (Int32.toNatClampNeg x2)) then (gd (inB x2 20) (gd (inB x2 20) (if (D (r0 + 3) (Int32.toNatClampNeg x2)) = (D (r1 + 3) (Int32.toNatClampNeg x2)) then (lt (x2 + 1) fun y8 => k15 r0 r1 y8 D) else (some (0, D))))) else (some (0, D)))))
def f_X10_isLeastAs_15 : Nat → Nat → Nat → Int32 → Dm → Option (Int32 × Dm)
  | 0, _, _, _, _ => none
  | n + 1, r0, r1, x2, D => f_X10_isLeastAs_15_b (f_X10_isLeastAs_15 n) r0 r1 x2 D
def f_X10_isLeastAs (r0 : Nat) (r1 : Nat) (D : Dm) : Option (Int32 × Dm) := if (D r0 3) = (D r1 3) then (f_X10_isLeastAs_15 FU r0 r1 0 D) else (some (0, D))
set_option maxHeartbeats 4000000 in
theorem w_X10_clear {G : va_G} {tA : Nat → ClassId} {z : Nat} {E : Ex} {p : Program} {l : Launch} {e : Env} {s : State} {m : MethodId} {args : Array Value} {below : List Frame} {meth : Method} {c : Code} {D' : Dm} (O : Ok G tA z E cX10_clear RX10 1 p s m args c) (hr : meth.sig.returnType = none) (hlk : meth.locks = false) (r0 : Nat) (h0 : isC10 r0) (D : Dm) (h : f_X10_clear r0 D = some D') : BV G tA z E p l e (rmC 1 0 0) s m args below meth c LAY D D' 1 0 [(0, .ref (z + r0))] [] := by
  obtain ⟨hx, hb, -, hown, hts, -⟩ := id O
  unfold f_X10_clear at h
  intro H locs ls hH hl
  refine lv_aload_n hx hb dX10_clear_0 rfl (lv_at hl 0 rfl) ?_
  refine lv_iconst (v := 0) hx hb dX10_clear_1 (by decide) ?_
  obtain ⟨D1, e2, h⟩ := lt_some h
  refine h_puti O hH h0.1 rfl fl_X10_21 e2 dX10_clear_2 (fun H locs hH => ?_)
  refine lv_aload_n hx hb dX10_clear_5 rfl (lv_at hl 0 rfl) ?_
  refine lv_iconst (v := 0) hx hb dX10_clear_6 (by decide) ?_
  obtain ⟨D3, e4, h⟩ := lt_some h
  refine h_puti O hH h0.1 rfl fl_X10_25 e4 dX10_clear_7 (fun H locs hH => ?_)
  obtain rfl := ret_v h
  exact h_vret O hr hlk hH dX10_clear_10
set_option maxHeartbeats 4000000 in
theorem c_X10_clear {l : Launch} {G : va_G} {tA : Nat → ClassId} {z : Nat} {E : Ex} {r0 : Nat} (h0 : isC10 r0) {D D' : Dm} (h : f_X10_clear r0 D = some D') : CtV l yX10_clear cX10_clear 1 G tA z E 1 0 0 [.ref (z + r0)] LAY D LAY D' :=
  ct_BV (by decide +kernel) (Nat.le_of_ble_eq_true rfl) (fun _ _ _ _ _ _ _ _ O hr hlk => w_X10_clear O hr hlk _ h0 _ h)
set_option maxHeartbeats 4000000 in
theorem w_X10_leastOf_2_b {G : va_G} {tA : Nat → ClassId} {z : Nat} {E : Ex} {p : Program} {l : Launch} {e : Env} {s : State} {m : MethodId} {args : Array Value} {below : List Frame} {meth : Method} {c : Code} {r : Int32} {D' : Dm} (O : Ok G tA z E cX10_leastOf RX10 3 p s m args c) (hr : meth.sig.returnType = some .int) (hlk : meth.locks = false) {k2 : Nat → Int32 → Int32 → Dm → Option (Int32 × Dm)} (hk2 : ∀ (r0 : Nat) (x1 : Int32) (x2 : Int32) (h0 : isC10 r0) (D : Dm), k2 r0 x1 x2 D = some (r, D') → BI G tA z E p l e (rmC 1 0 0) s m args below meth c LAY D r D' 3 2 [(0, .ref (z + r0)), (1, .int x1), (2, .int x2)] []) (r0 : Nat) (x1 : Int32) (x2 : Int32) (h0 : isC10 r0) (D : Dm) (h : f_X10_leastOf_2_b k2 r0 x1 x2 D = some (r, D')) : BI G tA z E p l e (rmC 1 0 0) s m args below meth c LAY D r D' 3 2 [(0, .ref (z + r0)), (1, .int x1), (2, .int x2)] [] := by
  obtain ⟨hx, hb, -, hown, hts, -⟩ := id O
  unfold f_X10_leastOf_2_b at h
  intro H locs ls hH hl
  refine lv_iload_n hx hb dX10_leastOf_2 rfl (lv_at hl 2 rfl) ?_
  refine lv_aload_n hx hb dX10_leastOf_3 rfl (lv_at hl 0 rfl) ?_
  refine h_geti O hH h0.1 rfl fl_X10_21 dX10_leastOf_4 ?_
  refine lv_icmp_ge (tgt := 33) hx hb dX10_leastOf_7 (by decide) (fun c1 => ?_) (fun c1 => ?_)
  · have h := it_pos h c1
    refine lv_aload_n hx hb dX10_leastOf_33 rfl (lv_at hl 0 rfl) ?_
    refine h_geti O hH h0.1 rfl fl_X10_25 dX10_leastOf_34 ?_
    obtain ⟨rfl, rfl⟩ := ret_i h
    exact h_iret O hr hlk hH dX10_leastOf_37
  · have h := it_neg h c1
    refine lv_aload_n hx hb dX10_leastOf_10 rfl (lv_at hl 0 rfl) ?_
    refine h_getr O hH h0.1 rfl fl_X10_15 dX10_leastOf_11 ?_
    refine lv_iload_n hx hb dX10_leastOf_14 rfl (lv_at hl 2 rfl) ?_
    obtain ⟨g2, h⟩ := gd_some h
    refine h_iald O hH h0.2.2.1 g2 dX10_leastOf_15 ?_
    refine lv_iload_n hx hb dX10_leastOf_16 rfl (lv_at hl 1 rfl) ?_
    refine lv_icmp_ne (tgt := 27) hx hb dX10_leastOf_17 (by decide) (fun c3 => ?_) (fun c3 => ?_)
    · have h := it_neg h c3
      obtain ⟨y4, e5, h⟩ := lt_some h
      refine lv_iinc (v := y4) (lv' := [(2, .int y4), (0, .ref (z + r0)), (1, .int x1)]) hx hb dX10_leastOf_27 hl (k := 2) rfl (by rw [e5]; rfl) (by decide) rfl (fun ls hl => ?_)
      refine lv_goto (tgt := 2) hx hb dX10_leastOf_30 (by decide) ?_
      exact hk2 _ _ _ h0 _ h _ _ _ hH (lv_sub hl [1, 2, 0] rfl)
    · have h := it_pos h c3
      refine lv_aload_n hx hb dX10_leastOf_20 rfl (lv_at hl 0 rfl) ?_
      refine h_getr O hH h0.1 rfl fl_X10_18 dX10_leastOf_21 ?_
      refine lv_iload_n hx hb dX10_leastOf_24 rfl (lv_at hl 2 rfl) ?_
      obtain ⟨g6, h⟩ := gd_some h
      refine h_iald O hH h0.2.2.2 g6 dX10_leastOf_25 ?_
      obtain ⟨rfl, rfl⟩ := ret_i h
      exact h_iret O hr hlk hH dX10_leastOf_26
set_option maxHeartbeats 4000000 in
theorem w_X10_leastOf_2 {G : va_G} {tA : Nat → ClassId} {z : Nat} {E : Ex} {p : Program} {l : Launch} {e : Env} {s : State} {m : MethodId} {args : Array Value} {below : List Frame} {meth : Method} {c : Code} {r : Int32} {D' : Dm} (O : Ok G tA z E cX10_leastOf RX10 3 p s m args c) (hr : meth.sig.returnType = some .int) (hlk : meth.locks = false) : ∀ (n : Nat) (r0 : Nat) (x1 : Int32) (x2 : Int32) (h0 : isC10 r0) (D : Dm) (h : f_X10_leastOf_2 n r0 x1 x2 D = some (r, D')), BI G tA z E p l e (rmC 1 0 0) s m args below meth c LAY D r D' 3 2 [(0, .ref (z + r0)), (1, .int x1), (2, .int x2)] [] := by
  intro n
  induction n with
  | zero => intro r0 x1 x2 h0 D h; exact no_some h
  | succ n ih => intro r0 x1 x2 h0 D h; exact w_X10_leastOf_2_b O hr hlk (fun r0 x1 x2 h0 D h => ih r0 x1 x2 h0 D h) r0 x1 x2 h0 D h
set_option maxHeartbeats 4000000 in
theorem w_X10_leastOf {G : va_G} {tA : Nat → ClassId} {z : Nat} {E : Ex} {p : Program} {l : Launch} {e : Env} {s : State} {m : MethodId} {args : Array Value} {below : List Frame} {meth : Method} {c : Code} {r : Int32} {D' : Dm} (O : Ok G tA z E cX10_leastOf RX10 3 p s m args c) (hr : meth.sig.returnType = some .int) (hlk : meth.locks = false) (r0 : Nat) (x1 : Int32) (h0 : isC10 r0) (D : Dm) (h : f_X10_leastOf r0 x1 D = some (r, D')) : BI G tA z E p l e (rmC 1 0 0) s m args below meth c LAY D r D' 3 0 [(0, .ref (z + r0)), (1, .int x1)] [] := by
  obtain ⟨hx, hb, -, hown, hts, -⟩ := id O
  unfold f_X10_leastOf at h
  intro H locs ls hH hl
  refine lv_iconst (v := 0) hx hb dX10_leastOf_0 (by decide) ?_
  refine lv_istore_n (lv' := [(2, .int 0), (0, .ref (z + r0)), (1, .int x1)]) hx hb dX10_leastOf_1 rfl hl (by decide) rfl (fun ls hl => ?_)
  exact w_X10_leastOf_2 O hr hlk FU _ _ _ h0 _ h _ _ _ hH (lv_sub hl [1, 2, 0] rfl)
set_option maxHeartbeats 4000000 in
theorem c_X10_leastOf {l : Launch} {G : va_G} {tA : Nat → ClassId} {z : Nat} {E : Ex} {r0 : Nat} {x1 : Int32} (h0 : isC10 r0) {D D' : Dm} {r : Int32} (h : f_X10_leastOf r0 x1 D = some (r, D')) : CtI l yX10_leastOf cX10_leastOf 3 (some .int) G tA z E 1 0 0 [.ref (z + r0), .int x1] LAY D r LAY D' :=
  ct_BI (by decide +kernel) (Nat.le_of_ble_eq_true rfl) (fun _ _ _ _ _ _ _ _ O hr hlk => w_X10_leastOf O hr hlk _ _ h0 _ h)
set_option maxHeartbeats 4000000 in
theorem w_X10_add_70 {G : va_G} {tA : Nat → ClassId} {z : Nat} {E : Ex} {p : Program} {l : Launch} {e : Env} {s : State} {m : MethodId} {args : Array Value} {below : List Frame} {meth : Method} {c : Code} {D' : Dm} (O : Ok G tA z E cX10_add RX10 3 p s m args c) (hr : meth.sig.returnType = none) (hlk : meth.locks = false) (r0 : Nat) (h0 : isC10 r0) (D : Dm) (h : f_X10_add_70 r0 D = some D') : BV G tA z E p l e (rmC 2 0 0) s m args below meth c LAY D D' 3 70 [(0, .ref (z + r0))] [] := by
  obtain ⟨hx, hb, -, hown, hts, -⟩ := id O
  unfold f_X10_add_70 at h
  intro H locs ls hH hl
  refine lv_aload_n hx hb dX10_add_70 rfl (lv_at hl 0 rfl) ?_
  refine lv_dup hx hb dX10_add_71 rfl ?_
  refine h_geti O hH h0.1 rfl fl_X10_21 dX10_add_72 ?_
  refine lv_iconst (v := 1) hx hb dX10_add_75 (by decide) ?_
  refine lv_iadd hx hb dX10_add_76 ?_
  obtain ⟨D1, e2, h⟩ := lt_some h
  refine h_puti O hH h0.1 rfl fl_X10_21 e2 dX10_add_77 (fun H locs hH => ?_)
  obtain rfl := ret_v h
  exact h_vret O hr hlk hH dX10_add_80
set_option maxHeartbeats 4000000 in
theorem w_X10_add {G : va_G} {tA : Nat → ClassId} {z : Nat} {E : Ex} {p : Program} {l : Launch} {e : Env} {s : State} {m : MethodId} {args : Array Value} {below : List Frame} {meth : Method} {c : Code} {D' : Dm} (O : Ok G tA z E cX10_add RX10 3 p s m args c) (hr : meth.sig.returnType = none) (hlk : meth.locks = false) (r0 : Nat) (x1 : Int32) (x2 : Int32) (h0 : isC10 r0) (D : Dm) (h : f_X10_add r0 x1 x2 D = some D') : BV G tA z E p l e (rmC 2 0 0) s m args below meth c LAY D D' 3 0 [(0, .ref (z + r0)), (1, .int x1), (2, .int x2)] [] := by
  obtain ⟨hx, hb, -, hown, hts, -⟩ := id O
  unfold f_X10_add at h
  intro H locs ls hH hl
  refine lv_aload_n hx hb dX10_add_0 rfl (lv_at hl 0 rfl) ?_
  refine h_geti O hH h0.1 rfl fl_X10_21 dX10_add_1 ?_
  refine lv_bipush (v := 20) hx hb dX10_add_4 (by decide) ?_
  refine lv_icmp_lt (tgt := 10) hx hb dX10_add_6 (by decide) (fun c1 => ?_) (fun c1 => ?_)
  · have h := it_pos h c1
    refine lv_aload_n hx hb dX10_add_10 rfl (lv_at hl 0 rfl) ?_
    refine h_getr O hH h0.1 rfl fl_X10_9 dX10_add_11 ?_
    refine lv_aload_n hx hb dX10_add_14 rfl (lv_at hl 0 rfl) ?_
    refine h_geti O hH h0.1 rfl fl_X10_21 dX10_add_15 ?_
    refine lv_iload_n hx hb dX10_add_18 rfl (lv_at hl 1 rfl) ?_
    obtain ⟨g2, h⟩ := gd_some h
    obtain ⟨D3, e4, h⟩ := lt_some h
    refine h_iast O hH h0.2.1 g2 e4 dX10_add_19 (fun H locs hH => ?_)
    refine lv_aload_n hx hb dX10_add_20 rfl (lv_at hl 0 rfl) ?_
    refine h_getr O hH h0.1 rfl fl_X10_15 dX10_add_21 ?_
    refine lv_aload_n hx hb dX10_add_24 rfl (lv_at hl 0 rfl) ?_
    refine h_geti O hH h0.1 rfl fl_X10_21 dX10_add_25 ?_
    refine lv_iload_n hx hb dX10_add_28 rfl (lv_at hl 2 rfl) ?_
    obtain ⟨g5, h⟩ := gd_some h
    obtain ⟨D6, e7, h⟩ := lt_some h
    refine h_iast O hH h0.2.2.1 g5 e7 dX10_add_29 (fun H locs hH => ?_)
    refine lv_aload_n hx hb dX10_add_30 rfl (lv_at hl 0 rfl) ?_
    refine h_getr O hH h0.1 rfl fl_X10_18 dX10_add_31 ?_
    refine lv_aload_n hx hb dX10_add_34 rfl (lv_at hl 0 rfl) ?_
    refine h_geti O hH h0.1 rfl fl_X10_21 dX10_add_35 ?_
    refine lv_aload_n hx hb dX10_add_38 rfl (lv_at hl 0 rfl) ?_
    refine lv_iload_n hx hb dX10_add_39 rfl (lv_at hl 2 rfl) ?_
    obtain ⟨y10, D8, hc9, h⟩ := bI_some h
    refine h_callVi (As := [.int x2]) (rest := [.int (D6 r0 3), .ref (z + (r0 + 3))]) O hH (c_X10_leastOf h0 hc9) ml_X10_28 h0.1 rfl rfl hl.1 rfl ⟨Nat.le_of_ble_eq_true rfl, Nat.le_of_ble_eq_true rfl⟩ (Nat.le_of_ble_eq_true rfl) dX10_add_40 (fun H locs hH => ?_)
    obtain ⟨g11, h⟩ := gd_some h
    obtain ⟨D12, e13, h⟩ := lt_some h
    refine h_iast O hH h0.2.2.2 g11 e13 dX10_add_43 (fun H locs hH => ?_)
    refine lv_aload_n hx hb dX10_add_44 rfl (lv_at hl 0 rfl) ?_
    refine h_getr O hH h0.1 rfl fl_X10_18 dX10_add_45 ?_
    refine lv_aload_n hx hb dX10_add_48 rfl (lv_at hl 0 rfl) ?_
    refine h_geti O hH h0.1 rfl fl_X10_21 dX10_add_49 ?_
    obtain ⟨g14, h⟩ := gd_some h
    refine h_iald O hH h0.2.2.2 g14 dX10_add_52 ?_
    refine lv_aload_n hx hb dX10_add_53 rfl (lv_at hl 0 rfl) ?_
    refine h_geti O hH h0.1 rfl fl_X10_25 dX10_add_54 ?_
    refine lv_icmp_ne (tgt := 70) hx hb dX10_add_57 (by decide) (fun c15 => ?_) (fun c15 => ?_)
    · have h := it_neg h c15
      exact w_X10_add_70 O hr hlk _ h0 _ h _ _ _ hH (lv_sub hl [0] rfl)
    · have h := it_pos h c15
      refine lv_aload_n hx hb dX10_add_60 rfl (lv_at hl 0 rfl) ?_
      refine lv_dup hx hb dX10_add_61 rfl ?_
      refine h_geti O hH h0.1 rfl fl_X10_25 dX10_add_62 ?_
      refine lv_iconst (v := 1) hx hb dX10_add_65 (by decide) ?_
      refine lv_iadd hx hb dX10_add_66 ?_
      obtain ⟨D16, e17, h⟩ := lt_some h
      refine h_puti O hH h0.1 rfl fl_X10_25 e17 dX10_add_67 (fun H locs hH => ?_)
      exact w_X10_add_70 O hr hlk _ h0 _ h _ _ _ hH (lv_sub hl [0] rfl)
  · have h := it_neg h c1
    obtain rfl := ret_v h
    exact h_vret O hr hlk hH dX10_add_9
set_option maxHeartbeats 4000000 in
theorem c_X10_add {l : Launch} {G : va_G} {tA : Nat → ClassId} {z : Nat} {E : Ex} {r0 : Nat} {x1 : Int32} {x2 : Int32} (h0 : isC10 r0) {D D' : Dm} (h : f_X10_add r0 x1 x2 D = some D') : CtV l yX10_add cX10_add 3 G tA z E 2 0 0 [.ref (z + r0), .int x1, .int x2] LAY D LAY D' :=
  ct_BV (by decide +kernel) (Nat.le_of_ble_eq_true rfl) (fun _ _ _ _ _ _ _ _ O hr hlk => w_X10_add O hr hlk _ _ _ h0 _ h)
set_option maxHeartbeats 4000000 in
theorem w_X10_copyLeast_6_b {G : va_G} {tA : Nat → ClassId} {z : Nat} {E : Ex} {p : Program} {l : Launch} {e : Env} {s : State} {m : MethodId} {args : Array Value} {below : List Frame} {meth : Method} {c : Code} {D' : Dm} (O : Ok G tA z E cX10_copyLeast RX10 3 p s m args c) (hr : meth.sig.returnType = none) (hlk : meth.locks = false) {k6 : Nat → Nat → Int32 → Dm → Option Dm} (hk6 : ∀ (r0 : Nat) (r1 : Nat) (x2 : Int32) (h0 : isC10 r0) (h1 : isC10 r1) (D : Dm), k6 r0 r1 x2 D = some D' → BV G tA z E p l e (rmC 3 0 0) s m args below meth c LAY D D' 3 6 [(0, .ref (z + r0)), (1, .ref (z + r1)), (2, .int x2)] []) (r0 : Nat) (r1 : Nat) (x2 : Int32) (h0 : isC10 r0) (h1 : isC10 r1) (D : Dm) (h : f_X10_copyLeast_6_b k6 r0 r1 x2 D = some D') : BV G tA z E p l e (rmC 3 0 0) s m args below meth c LAY D D' 3 6 [(0, .ref (z + r0)), (1, .ref (z + r1)), (2, .int x2)] [] := by
  obtain ⟨hx, hb, -, hown, hts, -⟩ := id O
  unfold f_X10_copyLeast_6_b at h
  intro H locs ls hH hl
  refine lv_iload_n hx hb dX10_copyLeast_6 rfl (lv_at hl 2 rfl) ?_
  refine lv_aload_n hx hb dX10_copyLeast_7 rfl (lv_at hl 1 rfl) ?_
  refine h_geti O hH h1.1 rfl fl_X10_21 dX10_copyLeast_8 ?_
  refine lv_icmp_ge (tgt := 36) hx hb dX10_copyLeast_11 (by decide) (fun c1 => ?_) (fun c1 => ?_)
  · have h := it_pos h c1
    obtain rfl := ret_v h
    exact h_vret O hr hlk hH dX10_copyLeast_36
  · have h := it_neg h c1
    refine lv_aload_n hx hb dX10_copyLeast_14 rfl (lv_at hl 0 rfl) ?_
    refine lv_aload_n hx hb dX10_copyLeast_15 rfl (lv_at hl 1 rfl) ?_
    refine h_getr O hH h1.1 rfl fl_X10_9 dX10_copyLeast_16 ?_
    refine lv_iload_n hx hb dX10_copyLeast_19 rfl (lv_at hl 2 rfl) ?_
    obtain ⟨g2, h⟩ := gd_some h
    refine h_iald O hH h1.2.1 g2 dX10_copyLeast_20 ?_
    refine lv_aload_n hx hb dX10_copyLeast_21 rfl (lv_at hl 1 rfl) ?_
    refine h_getr O hH h1.1 rfl fl_X10_18 dX10_copyLeast_22 ?_
    refine lv_iload_n hx hb dX10_copyLeast_25 rfl (lv_at hl 2 rfl) ?_
    obtain ⟨g3, h⟩ := gd_some h
    refine h_iald O hH h1.2.2.2 g3 dX10_copyLeast_26 ?_
    obtain ⟨D4, hc5, h⟩ := bV_some h
    refine h_callVv (As := [.int (D (r1 + 1) (Int32.toNatClampNeg x2)), .int (D (r1 + 3) (Int32.toNatClampNeg x2))]) (rest := []) O hH (c_X10_add h0 hc5) ml_X10_35 h0.1 rfl rfl hl.1 rfl ⟨Nat.le_of_ble_eq_true rfl, Nat.le_of_ble_eq_true rfl⟩ (Nat.le_of_ble_eq_true rfl) dX10_copyLeast_27 (fun H locs hH => ?_)
    obtain ⟨y6, e7, h⟩ := lt_some h
    refine lv_iinc (v := y6) (lv' := [(2, .int y6), (0, .ref (z + r0)), (1, .ref (z + r1))]) hx hb dX10_copyLeast_30 hl (k := 2) rfl (by rw [e7]; rfl) (by decide) rfl (fun ls hl => ?_)
    refine lv_goto (tgt := 6) hx hb dX10_copyLeast_33 (by decide) ?_
    exact hk6 _ _ _ h0 h1 _ h _ _ _ hH (lv_sub hl [1, 2, 0] rfl)
set_option maxHeartbeats 4000000 in
theorem w_X10_copyLeast_6 {G : va_G} {tA : Nat → ClassId} {z : Nat} {E : Ex} {p : Program} {l : Launch} {e : Env} {s : State} {m : MethodId} {args : Array Value} {below : List Frame} {meth : Method} {c : Code} {D' : Dm} (O : Ok G tA z E cX10_copyLeast RX10 3 p s m args c) (hr : meth.sig.returnType = none) (hlk : meth.locks = false) : ∀ (n : Nat) (r0 : Nat) (r1 : Nat) (x2 : Int32) (h0 : isC10 r0) (h1 : isC10 r1) (D : Dm) (h : f_X10_copyLeast_6 n r0 r1 x2 D = some D'), BV G tA z E p l e (rmC 3 0 0) s m args below meth c LAY D D' 3 6 [(0, .ref (z + r0)), (1, .ref (z + r1)), (2, .int x2)] [] := by
  intro n
  induction n with
  | zero => intro r0 r1 x2 h0 h1 D h; exact no_some h
  | succ n ih => intro r0 r1 x2 h0 h1 D h; exact w_X10_copyLeast_6_b O hr hlk (fun r0 r1 x2 h0 h1 D h => ih r0 r1 x2 h0 h1 D h) r0 r1 x2 h0 h1 D h
set_option maxHeartbeats 4000000 in
theorem w_X10_copyLeast {G : va_G} {tA : Nat → ClassId} {z : Nat} {E : Ex} {p : Program} {l : Launch} {e : Env} {s : State} {m : MethodId} {args : Array Value} {below : List Frame} {meth : Method} {c : Code} {D' : Dm} (O : Ok G tA z E cX10_copyLeast RX10 3 p s m args c) (hr : meth.sig.returnType = none) (hlk : meth.locks = false) (r0 : Nat) (r1 : Nat) (h0 : isC10 r0) (h1 : isC10 r1) (D : Dm) (h : f_X10_copyLeast r0 r1 D = some D') : BV G tA z E p l e (rmC 3 0 0) s m args below meth c LAY D D' 3 0 [(0, .ref (z + r0)), (1, .ref (z + r1))] [] := by
  obtain ⟨hx, hb, -, hown, hts, -⟩ := id O
  unfold f_X10_copyLeast at h
  intro H locs ls hH hl
  refine lv_aload_n hx hb dX10_copyLeast_0 rfl (lv_at hl 0 rfl) ?_
  obtain ⟨D1, hc2, h⟩ := bV_some h
  refine h_callVv (As := []) (rest := []) O hH (c_X10_clear h0 hc2) ml_X10_32 h0.1 rfl rfl hl.1 rfl ⟨Nat.le_of_ble_eq_true rfl, Nat.le_of_ble_eq_true rfl⟩ (Nat.le_of_ble_eq_true rfl) dX10_copyLeast_1 (fun H locs hH => ?_)
  refine lv_iconst (v := 0) hx hb dX10_copyLeast_4 (by decide) ?_
  refine lv_istore_n (lv' := [(2, .int 0), (0, .ref (z + r0)), (1, .ref (z + r1))]) hx hb dX10_copyLeast_5 rfl hl (by decide) rfl (fun ls hl => ?_)
  exact w_X10_copyLeast_6 O hr hlk FU _ _ _ h0 h1 _ h _ _ _ hH (lv_sub hl [1, 2, 0] rfl)
set_option maxHeartbeats 4000000 in
theorem c_X10_copyLeast {l : Launch} {G : va_G} {tA : Nat → ClassId} {z : Nat} {E : Ex} {r0 : Nat} {r1 : Nat} (h0 : isC10 r0) (h1 : isC10 r1) {D D' : Dm} (h : f_X10_copyLeast r0 r1 D = some D') : CtV l yX10_copyLeast cX10_copyLeast 3 G tA z E 3 0 0 [.ref (z + r0), .ref (z + r1)] LAY D LAY D' :=
  ct_BV (by decide +kernel) (Nat.le_of_ble_eq_true rfl) (fun _ _ _ _ _ _ _ _ O hr hlk => w_X10_copyLeast O hr hlk _ _ h0 h1 _ h)
set_option maxHeartbeats 4000000 in
theorem w_X10_copy_6_b {G : va_G} {tA : Nat → ClassId} {z : Nat} {E : Ex} {p : Program} {l : Launch} {e : Env} {s : State} {m : MethodId} {args : Array Value} {below : List Frame} {meth : Method} {c : Code} {D' : Dm} (O : Ok G tA z E cX10_copy RX10 3 p s m args c) (hr : meth.sig.returnType = none) (hlk : meth.locks = false) {k6 : Nat → Nat → Int32 → Dm → Option Dm} (hk6 : ∀ (r0 : Nat) (r1 : Nat) (x2 : Int32) (h0 : isC10 r0) (h1 : isC10 r1) (D : Dm), k6 r0 r1 x2 D = some D' → BV G tA z E p l e (rmC 3 0 0) s m args below meth c LAY D D' 3 6 [(0, .ref (z + r0)), (1, .ref (z + r1)), (2, .int x2)] []) (r0 : Nat) (r1 : Nat) (x2 : Int32) (h0 : isC10 r0) (h1 : isC10 r1) (D : Dm) (h : f_X10_copy_6_b k6 r0 r1 x2 D = some D') : BV G tA z E p l e (rmC 3 0 0) s m args below meth c LAY D D' 3 6 [(0, .ref (z + r0)), (1, .ref (z + r1)), (2, .int x2)] [] := by
  obtain ⟨hx, hb, -, hown, hts, -⟩ := id O
  unfold f_X10_copy_6_b at h
  intro H locs ls hH hl
  refine lv_iload_n hx hb dX10_copy_6 rfl (lv_at hl 2 rfl) ?_
  refine lv_aload_n hx hb dX10_copy_7 rfl (lv_at hl 1 rfl) ?_
  refine h_geti O hH h1.1 rfl fl_X10_21 dX10_copy_8 ?_
  refine lv_icmp_ge (tgt := 36) hx hb dX10_copy_11 (by decide) (fun c1 => ?_) (fun c1 => ?_)
  · have h := it_pos h c1
    obtain rfl := ret_v h
    exact h_vret O hr hlk hH dX10_copy_36
  · have h := it_neg h c1
    refine lv_aload_n hx hb dX10_copy_14 rfl (lv_at hl 0 rfl) ?_
    refine lv_aload_n hx hb dX10_copy_15 rfl (lv_at hl 1 rfl) ?_
    refine h_getr O hH h1.1 rfl fl_X10_9 dX10_copy_16 ?_
    refine lv_iload_n hx hb dX10_copy_19 rfl (lv_at hl 2 rfl) ?_
    obtain ⟨g2, h⟩ := gd_some h
    refine h_iald O hH h1.2.1 g2 dX10_copy_20 ?_
    refine lv_aload_n hx hb dX10_copy_21 rfl (lv_at hl 1 rfl) ?_
    refine h_getr O hH h1.1 rfl fl_X10_15 dX10_copy_22 ?_
    refine lv_iload_n hx hb dX10_copy_25 rfl (lv_at hl 2 rfl) ?_
    obtain ⟨g3, h⟩ := gd_some h
    refine h_iald O hH h1.2.2.1 g3 dX10_copy_26 ?_
    obtain ⟨D4, hc5, h⟩ := bV_some h
    refine h_callVv (As := [.int (D (r1 + 1) (Int32.toNatClampNeg x2)), .int (D (r1 + 2) (Int32.toNatClampNeg x2))]) (rest := []) O hH (c_X10_add h0 hc5) ml_X10_35 h0.1 rfl rfl hl.1 rfl ⟨Nat.le_of_ble_eq_true rfl, Nat.le_of_ble_eq_true rfl⟩ (Nat.le_of_ble_eq_true rfl) dX10_copy_27 (fun H locs hH => ?_)
    obtain ⟨y6, e7, h⟩ := lt_some h
    refine lv_iinc (v := y6) (lv' := [(2, .int y6), (0, .ref (z + r0)), (1, .ref (z + r1))]) hx hb dX10_copy_30 hl (k := 2) rfl (by rw [e7]; rfl) (by decide) rfl (fun ls hl => ?_)
    refine lv_goto (tgt := 6) hx hb dX10_copy_33 (by decide) ?_
    exact hk6 _ _ _ h0 h1 _ h _ _ _ hH (lv_sub hl [1, 2, 0] rfl)
set_option maxHeartbeats 4000000 in
theorem w_X10_copy_6 {G : va_G} {tA : Nat → ClassId} {z : Nat} {E : Ex} {p : Program} {l : Launch} {e : Env} {s : State} {m : MethodId} {args : Array Value} {below : List Frame} {meth : Method} {c : Code} {D' : Dm} (O : Ok G tA z E cX10_copy RX10 3 p s m args c) (hr : meth.sig.returnType = none) (hlk : meth.locks = false) : ∀ (n : Nat) (r0 : Nat) (r1 : Nat) (x2 : Int32) (h0 : isC10 r0) (h1 : isC10 r1) (D : Dm) (h : f_X10_copy_6 n r0 r1 x2 D = some D'), BV G tA z E p l e (rmC 3 0 0) s m args below meth c LAY D D' 3 6 [(0, .ref (z + r0)), (1, .ref (z + r1)), (2, .int x2)] [] := by
  intro n
  induction n with
  | zero => intro r0 r1 x2 h0 h1 D h; exact no_some h
  | succ n ih => intro r0 r1 x2 h0 h1 D h; exact w_X10_copy_6_b O hr hlk (fun r0 r1 x2 h0 h1 D h => ih r0 r1 x2 h0 h1 D h) r0 r1 x2 h0 h1 D h
set_option maxHeartbeats 4000000 in
theorem w_X10_copy {G : va_G} {tA : Nat → ClassId} {z : Nat} {E : Ex} {p : Program} {l : Launch} {e : Env} {s : State} {m : MethodId} {args : Array Value} {below : List Frame} {meth : Method} {c : Code} {D' : Dm} (O : Ok G tA z E cX10_copy RX10 3 p s m args c) (hr : meth.sig.returnType = none) (hlk : meth.locks = false) (r0 : Nat) (r1 : Nat) (h0 : isC10 r0) (h1 : isC10 r1) (D : Dm) (h : f_X10_copy r0 r1 D = some D') : BV G tA z E p l e (rmC 3 0 0) s m args below meth c LAY D D' 3 0 [(0, .ref (z + r0)), (1, .ref (z + r1))] [] := by
  obtain ⟨hx, hb, -, hown, hts, -⟩ := id O
  unfold f_X10_copy at h
  intro H locs ls hH hl
  refine lv_aload_n hx hb dX10_copy_0 rfl (lv_at hl 0 rfl) ?_
  obtain ⟨D1, hc2, h⟩ := bV_some h
  refine h_callVv (As := []) (rest := []) O hH (c_X10_clear h0 hc2) ml_X10_32 h0.1 rfl rfl hl.1 rfl ⟨Nat.le_of_ble_eq_true rfl, Nat.le_of_ble_eq_true rfl⟩ (Nat.le_of_ble_eq_true rfl) dX10_copy_1 (fun H locs hH => ?_)
  refine lv_iconst (v := 0) hx hb dX10_copy_4 (by decide) ?_
  refine lv_istore_n (lv' := [(2, .int 0), (0, .ref (z + r0)), (1, .ref (z + r1))]) hx hb dX10_copy_5 rfl hl (by decide) rfl (fun ls hl => ?_)
  exact w_X10_copy_6 O hr hlk FU _ _ _ h0 h1 _ h _ _ _ hH (lv_sub hl [1, 2, 0] rfl)
set_option maxHeartbeats 4000000 in
theorem c_X10_copy {l : Launch} {G : va_G} {tA : Nat → ClassId} {z : Nat} {E : Ex} {r0 : Nat} {r1 : Nat} (h0 : isC10 r0) (h1 : isC10 r1) {D D' : Dm} (h : f_X10_copy r0 r1 D = some D') : CtV l yX10_copy cX10_copy 3 G tA z E 3 0 0 [.ref (z + r0), .ref (z + r1)] LAY D LAY D' :=
  ct_BV (by decide +kernel) (Nat.le_of_ble_eq_true rfl) (fun _ _ _ _ _ _ _ _ O hr hlk => w_X10_copy O hr hlk _ _ h0 h1 _ h)
set_option maxHeartbeats 4000000 in
theorem w_X10_isLeastAs_15_b {G : va_G} {tA : Nat → ClassId} {z : Nat} {E : Ex} {p : Program} {l : Launch} {e : Env} {s : State} {m : MethodId} {args : Array Value} {below : List Frame} {meth : Method} {c : Code} {r : Int32} {D' : Dm} (O : Ok G tA z E cX10_isLeastAs RX10 3 p s m args c) (hr : meth.sig.returnType = some .boolean) (hlk : meth.locks = false) {k15 : Nat → Nat → Int32 → Dm → Option (Int32 × Dm)} (hk15 : ∀ (r0 : Nat) (r1 : Nat) (x2 : Int32) (h0 : isC10 r0) (h1 : isC10 r1) (D : Dm), k15 r0 r1 x2 D = some (r, D') → BI G tA z E p l e (rmC 1 0 0) s m args below meth c LAY D r D' 3 15 [(0, .ref (z + r0)), (1, .ref (z + r1)), (2, .int x2)] []) (r0 : Nat) (r1 : Nat) (x2 : Int32) (h0 : isC10 r0) (h1 : isC10 r1) (D : Dm) (h : f_X10_isLeastAs_15_b k15 r0 r1 x2 D = some (r, D')) : BI G tA z E p l e (rmC 1 0 0) s m args below meth c LAY D r D' 3 15 [(0, .ref (z + r0)), (1, .ref (z + r1)), (2, .int x2)] [] := by
  obtain ⟨hx, hb, -, hown, hts, -⟩ := id O
  unfold f_X10_isLeastAs_15_b at h
  intro H locs ls hH hl
  refine lv_iload_n hx hb dX10_isLeastAs_15 rfl (lv_at hl 2 rfl) ?_
  refine lv_aload_n hx hb dX10_isLeastAs_16 rfl (lv_at hl 0 rfl) ?_
  refine h_geti O hH h0.1 rfl fl_X10_21 dX10_isLeastAs_17 ?_
  refine lv_icmp_ge (tgt := 61) hx hb dX10_isLeastAs_20 (by decide) (fun c1 => ?_) (fun c1 => ?_)
  · have h := it_pos h c1
    refine lv_iconst (v := 1) hx hb dX10_isLeastAs_61 (by decide) ?_
    obtain ⟨rfl, rfl⟩ := ret_i h
    exact h_zret O hr hlk zb_1 hH dX10_isLeastAs_62
  · have h := it_neg h c1
    refine lv_aload_n hx hb dX10_isLeastAs_23 rfl (lv_at hl 0 rfl) ?_
    refine h_getr O hH h0.1 rfl fl_X10_9 dX10_isLeastAs_24 ?_
    refine lv_iload_n hx hb dX10_isLeastAs_27 rfl (lv_at hl 2 rfl) ?_
    obtain ⟨g2, h⟩ := gd_some h
    refine h_iald O hH h0.2.1 g2 dX10_isLeastAs_28 ?_
    refine lv_aload_n hx hb dX10_isLeastAs_29 rfl (lv_at hl 1 rfl) ?_
    refine h_getr O hH h1.1 rfl fl_X10_9 dX10_isLeastAs_30 ?_
    refine lv_iload_n hx hb dX10_isLeastAs_33 rfl (lv_at hl 2 rfl) ?_
    obtain ⟨g3, h⟩ := gd_some h
    refine h_iald O hH h1.2.1 g3 dX10_isLeastAs_34 ?_
    refine lv_icmp_ne (tgt := 53) hx hb dX10_isLeastAs_35 (by decide) (fun c4 => ?_) (fun c4 => ?_)
    · have h := it_neg h c4
      refine lv_iconst (v := 0) hx hb dX10_isLeastAs_53 (by decide) ?_
      obtain ⟨rfl, rfl⟩ := ret_i h
      exact h_zret O hr hlk zb_0 hH dX10_isLeastAs_54
    · have h := it_pos h c4
      refine lv_aload_n hx hb dX10_isLeastAs_38 rfl (lv_at hl 0 rfl) ?_
      refine h_getr O hH h0.1 rfl fl_X10_18 dX10_isLeastAs_39 ?_
      refine lv_iload_n hx hb dX10_isLeastAs_42 rfl (lv_at hl 2 rfl) ?_
      obtain ⟨g5, h⟩ := gd_some h
      refine h_iald O hH h0.2.2.2 g5 dX10_isLeastAs_43 ?_
      refine lv_aload_n hx hb dX10_isLeastAs_44 rfl (lv_at hl 1 rfl) ?_
      refine h_getr O hH h1.1 rfl fl_X10_18 dX10_isLeastAs_45 ?_
      refine lv_iload_n hx hb dX10_isLeastAs_48 rfl (lv_at hl 2 rfl) ?_
      obtain ⟨g6, h⟩ := gd_some h
      refine h_iald O hH h1.2.2.2 g6 dX10_isLeastAs_49 ?_
      refine lv_icmp_eq (tgt := 55) hx hb dX10_isLeastAs_50 (by decide) (fun c7 => ?_) (fun c7 => ?_)
      · have h := it_pos h c7
        obtain ⟨y8, e9, h⟩ := lt_some h
        refine lv_iinc (v := y8) (lv' := [(2, .int y8), (0, .ref (z + r0)), (1, .ref (z + r1))]) hx hb dX10_isLeastAs_55 hl (k := 2) rfl (by rw [e9]; rfl) (by decide) rfl (fun ls hl => ?_)
        refine lv_goto (tgt := 15) hx hb dX10_isLeastAs_58 (by decide) ?_
        exact hk15 _ _ _ h0 h1 _ h _ _ _ hH (lv_sub hl [1, 2, 0] rfl)
      · have h := it_neg h c7
        refine lv_iconst (v := 0) hx hb dX10_isLeastAs_53 (by decide) ?_
        obtain ⟨rfl, rfl⟩ := ret_i h
        exact h_zret O hr hlk zb_0 hH dX10_isLeastAs_54
set_option maxHeartbeats 4000000 in
theorem w_X10_isLeastAs_15 {G : va_G} {tA : Nat → ClassId} {z : Nat} {E : Ex} {p : Program} {l : Launch} {e : Env} {s : State} {m : MethodId} {args : Array Value} {below : List Frame} {meth : Method} {c : Code} {r : Int32} {D' : Dm} (O : Ok G tA z E cX10_isLeastAs RX10 3 p s m args c) (hr : meth.sig.returnType = some .boolean) (hlk : meth.locks = false) : ∀ (n : Nat) (r0 : Nat) (r1 : Nat) (x2 : Int32) (h0 : isC10 r0) (h1 : isC10 r1) (D : Dm) (h : f_X10_isLeastAs_15 n r0 r1 x2 D = some (r, D')), BI G tA z E p l e (rmC 1 0 0) s m args below meth c LAY D r D' 3 15 [(0, .ref (z + r0)), (1, .ref (z + r1)), (2, .int x2)] [] := by
  intro n
  induction n with
  | zero => intro r0 r1 x2 h0 h1 D h; exact no_some h
  | succ n ih => intro r0 r1 x2 h0 h1 D h; exact w_X10_isLeastAs_15_b O hr hlk (fun r0 r1 x2 h0 h1 D h => ih r0 r1 x2 h0 h1 D h) r0 r1 x2 h0 h1 D h
set_option maxHeartbeats 4000000 in
theorem w_X10_isLeastAs {G : va_G} {tA : Nat → ClassId} {z : Nat} {E : Ex} {p : Program} {l : Launch} {e : Env} {s : State} {m : MethodId} {args : Array Value} {below : List Frame} {meth : Method} {c : Code} {r : Int32} {D' : Dm} (O : Ok G tA z E cX10_isLeastAs RX10 3 p s m args c) (hr : meth.sig.returnType = some .boolean) (hlk : meth.locks = false) (r0 : Nat) (r1 : Nat) (h0 : isC10 r0) (h1 : isC10 r1) (D : Dm) (h : f_X10_isLeastAs r0 r1 D = some (r, D')) : BI G tA z E p l e (rmC 1 0 0) s m args below meth c LAY D r D' 3 0 [(0, .ref (z + r0)), (1, .ref (z + r1))] [] := by
  obtain ⟨hx, hb, -, hown, hts, -⟩ := id O
  unfold f_X10_isLeastAs at h
  intro H locs ls hH hl
  refine lv_aload_n hx hb dX10_isLeastAs_0 rfl (lv_at hl 0 rfl) ?_
  refine h_geti O hH h0.1 rfl fl_X10_21 dX10_isLeastAs_1 ?_
  refine lv_aload_n hx hb dX10_isLeastAs_4 rfl (lv_at hl 1 rfl) ?_
  refine h_geti O hH h1.1 rfl fl_X10_21 dX10_isLeastAs_5 ?_
  refine lv_icmp_eq (tgt := 13) hx hb dX10_isLeastAs_8 (by decide) (fun c1 => ?_) (fun c1 => ?_)
  · have h := it_pos h c1
    refine lv_iconst (v := 0) hx hb dX10_isLeastAs_13 (by decide) ?_
    refine lv_istore_n (lv' := [(2, .int 0), (0, .ref (z + r0)), (1, .ref (z + r1))]) hx hb dX10_isLeastAs_14 rfl hl (by decide) rfl (fun ls hl => ?_)
    exact w_X10_isLeastAs_15 O hr hlk FU _ _ _ h0 h1 _ h _ _ _ hH (lv_sub hl [1, 2, 0] rfl)
  · have h := it_neg h c1
    refine lv_iconst (v := 0) hx hb dX10_isLeastAs_11 (by decide) ?_
    obtain ⟨rfl, rfl⟩ := ret_i h
    exact h_zret O hr hlk zb_0 hH dX10_isLeastAs_12
set_option maxHeartbeats 4000000 in
theorem c_X10_isLeastAs {l : Launch} {G : va_G} {tA : Nat → ClassId} {z : Nat} {E : Ex} {r0 : Nat} {r1 : Nat} (h0 : isC10 r0) (h1 : isC10 r1) {D D' : Dm} {r : Int32} (h : f_X10_isLeastAs r0 r1 D = some (r, D')) : CtI l yX10_isLeastAs cX10_isLeastAs 3 (some .boolean) G tA z E 1 0 0 [.ref (z + r0), .ref (z + r1)] LAY D r LAY D' :=
  ct_BI (by decide +kernel) (Nat.le_of_ble_eq_true rfl) (fun _ _ _ _ _ _ _ _ O hr hlk => w_X10_isLeastAs O hr hlk _ _ h0 h1 _ h)
