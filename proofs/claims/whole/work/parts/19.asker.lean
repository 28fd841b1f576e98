theorem dX0_countInstances_0 : decode cX0_countInstances 0 = .ok (.getstatic 36, 3) := by decide +kernel
theorem dX0_countInstances_3 : decode cX0_countInstances 3 = .ok (.aload_n 0, 1) := by decide +kernel
theorem dX0_countInstances_4 : decode cX0_countInstances 4 = .ok (.getfield 39, 3) := by decide +kernel
theorem dX0_countInstances_7 : decode cX0_countInstances 7 = .ok (.iconst 3, 1) := by decide +kernel
theorem dX0_countInstances_8 : decode cX0_countInstances 8 = .ok (.invokestatic 43, 3) := by decide +kernel
theorem dX0_countInstances_11 : decode cX0_countInstances 11 = .ok (.iaload, 1) := by decide +kernel
theorem dX0_countInstances_12 : decode cX0_countInstances 12 = .ok (.ireturn, 1) := by decide +kernel
theorem dX0_nameBy_0 : decode cX0_nameBy 0 = .ok (.aload_n 0, 1) := by decide +kernel
theorem dX0_nameBy_1 : decode cX0_nameBy 1 = .ok (.getfield 21, 3) := by decide +kernel
theorem dX0_nameBy_4 : decode cX0_nameBy 4 = .ok (.iconst 1, 1) := by decide +kernel
theorem dX0_nameBy_5 : decode cX0_nameBy 5 = .ok (.iconst 0, 1) := by decide +kernel
theorem dX0_nameBy_6 : decode cX0_nameBy 6 = .ok (.iastore, 1) := by decide +kernel
theorem dX0_nameBy_7 : decode cX0_nameBy 7 = .ok (.aload_n 0, 1) := by decide +kernel
theorem dX0_nameBy_8 : decode cX0_nameBy 8 = .ok (.getfield 21, 3) := by decide +kernel
theorem dX0_nameBy_11 : decode cX0_nameBy 11 = .ok (.iconst 2, 1) := by decide +kernel
theorem dX0_nameBy_12 : decode cX0_nameBy 12 = .ok (.iconst 0, 1) := by decide +kernel
theorem dX0_nameBy_13 : decode cX0_nameBy 13 = .ok (.iastore, 1) := by decide +kernel
theorem dX0_nameBy_14 : decode cX0_nameBy 14 = .ok (.iload_n 1, 1) := by decide +kernel
theorem dX0_nameBy_15 : decode cX0_nameBy 15 = .ok (.istore 5, 2) := by decide +kernel
theorem dX0_nameBy_17 : decode cX0_nameBy 17 = .ok (.iconst 1, 1) := by decide +kernel
theorem dX0_nameBy_18 : decode cX0_nameBy 18 = .ok (.istore 6, 2) := by decide +kernel
theorem dX0_nameBy_20 : decode cX0_nameBy 20 = .ok (.aload_n 2, 1) := by decide +kernel
theorem dX0_nameBy_21 : decode cX0_nameBy 21 = .ok (.getfield 39, 3) := by decide +kernel
theorem dX0_nameBy_24 : decode cX0_nameBy 24 = .ok (.iconst 3, 1) := by decide +kernel
theorem dX0_nameBy_25 : decode cX0_nameBy 25 = .ok (.invokestatic 43, 3) := by decide +kernel
theorem dX0_nameBy_28 : decode cX0_nameBy 28 = .ok (.iconst 1, 1) := by decide +kernel
theorem dX0_nameBy_29 : decode cX0_nameBy 29 = .ok (.isub, 1) := by decide +kernel
theorem dX0_nameBy_30 : decode cX0_nameBy 30 = .ok (.istore 7, 2) := by decide +kernel
theorem dX0_nameBy_32 : decode cX0_nameBy 32 = .ok (.iload 7, 2) := by decide +kernel
theorem dX0_nameBy_34 : decode cX0_nameBy 34 = .ok (.ifCond .lt 87, 3) := by decide +kernel
theorem dX0_nameBy_37 : decode cX0_nameBy 37 = .ok (.iload 5, 2) := by decide +kernel
theorem dX0_nameBy_39 : decode cX0_nameBy 39 = .ok (.iconst 3, 1) := by decide +kernel
theorem dX0_nameBy_40 : decode cX0_nameBy 40 = .ok (.irem, 1) := by decide +kernel
theorem dX0_nameBy_41 : decode cX0_nameBy 41 = .ok (.istore 8, 2) := by decide +kernel
theorem dX0_nameBy_43 : decode cX0_nameBy 43 = .ok (.iload 8, 2) := by decide +kernel
theorem dX0_nameBy_45 : decode cX0_nameBy 45 = .ok (.iload 4, 2) := by decide +kernel
theorem dX0_nameBy_47 : decode cX0_nameBy 47 = .ok (.if_icmp .gt 18, 3) := by decide +kernel
theorem dX0_nameBy_50 : decode cX0_nameBy 50 = .ok (.iload 8, 2) := by decide +kernel
theorem dX0_nameBy_52 : decode cX0_nameBy 52 = .ok (.ifCond .le 15, 3) := by decide +kernel
theorem dX0_nameBy_55 : decode cX0_nameBy 55 = .ok (.aload_n 0, 1) := by decide +kernel
theorem dX0_nameBy_56 : decode cX0_nameBy 56 = .ok (.getfield 21, 3) := by decide +kernel
theorem dX0_nameBy_59 : decode cX0_nameBy 59 = .ok (.iload 8, 2) := by decide +kernel
theorem dX0_nameBy_61 : decode cX0_nameBy 61 = .ok (.iaload, 1) := by decide +kernel
theorem dX0_nameBy_62 : decode cX0_nameBy 62 = .ok (.ifCond .eq 5, 3) := by decide +kernel
theorem dX0_nameBy_65 : decode cX0_nameBy 65 = .ok (.iconst 0, 1) := by decide +kernel
theorem dX0_nameBy_66 : decode cX0_nameBy 66 = .ok (.ireturn, 1) := by decide +kernel
theorem dX0_nameBy_67 : decode cX0_nameBy 67 = .ok (.aload_n 0, 1) := by decide +kernel
theorem dX0_nameBy_68 : decode cX0_nameBy 68 = .ok (.getfield 21, 3) := by decide +kernel
theorem dX0_nameBy_71 : decode cX0_nameBy 71 = .ok (.iload 8, 2) := by decide +kernel
theorem dX0_nameBy_73 : decode cX0_nameBy 73 = .ok (.iload 6, 2) := by decide +kernel
theorem dX0_nameBy_75 : decode cX0_nameBy 75 = .ok (.iastore, 1) := by decide +kernel
theorem dX0_nameBy_76 : decode cX0_nameBy 76 = .ok (.aload_n 0, 1) := by decide +kernel
theorem dX0_nameBy_77 : decode cX0_nameBy 77 = .ok (.getfield 17, 3) := by decide +kernel
theorem dX0_nameBy_80 : decode cX0_nameBy 80 = .ok (.iload 7, 2) := by decide +kernel
theorem dX0_nameBy_82 : decode cX0_nameBy 82 = .ok (.iload 8, 2) := by decide +kernel
theorem dX0_nameBy_84 : decode cX0_nameBy 84 = .ok (.ifCond .ne 12, 3) := by decide +kernel
theorem dX0_nameBy_87 : decode cX0_nameBy 87 = .ok (.sipush 1000, 3) := by decide +kernel
theorem dX0_nameBy_90 : decode cX0_nameBy 90 = .ok (.iload 7, 2) := by decide +kernel
theorem dX0_nameBy_92 : decode cX0_nameBy 92 = .ok (.iadd, 1) := by decide +kernel
theorem dX0_nameBy_93 : decode cX0_nameBy 93 = .ok (.goto 9, 3) := by decide +kernel
theorem dX0_nameBy_96 : decode cX0_nameBy 96 = .ok (.aload_n 3, 1) := by decide +kernel
theorem dX0_nameBy_97 : decode cX0_nameBy 97 = .ok (.iload 8, 2) := by decide +kernel
theorem dX0_nameBy_99 : decode cX0_nameBy 99 = .ok (.iconst 1, 1) := by decide +kernel
theorem dX0_nameBy_100 : decode cX0_nameBy 100 = .ok (.isub, 1) := by decide +kernel
theorem dX0_nameBy_101 : decode cX0_nameBy 101 = .ok (.iaload, 1) := by decide +kernel
theorem dX0_nameBy_102 : decode cX0_nameBy 102 = .ok (.iastore, 1) := by decide +kernel
theorem dX0_nameBy_103 : decode cX0_nameBy 103 = .ok (.iload 5, 2) := by decide +kernel
theorem dX0_nameBy_105 : decode cX0_nameBy 105 = .ok (.iconst 3, 1) := by decide +kernel
theorem dX0_nameBy_106 : decode cX0_nameBy 106 = .ok (.idiv, 1) := by decide +kernel
theorem dX0_nameBy_107 : decode cX0_nameBy 107 = .ok (.istore 5, 2) := by decide +kernel
theorem dX0_nameBy_109 : decode cX0_nameBy 109 = .ok (.iload 6, 2) := by decide +kernel
theorem dX0_nameBy_111 : decode cX0_nameBy 111 = .ok (.iconst 3, 1) := by decide +kernel
theorem dX0_nameBy_112 : decode cX0_nameBy 112 = .ok (.imul, 1) := by decide +kernel
theorem dX0_nameBy_113 : decode cX0_nameBy 113 = .ok (.istore 6, 2) := by decide +kernel
theorem dX0_nameBy_115 : decode cX0_nameBy 115 = .ok (.iinc 7 (-1), 3) := by decide +kernel
theorem dX0_nameBy_118 : decode cX0_nameBy 118 = .ok (.goto (-86), 3) := by decide +kernel
theorem dX0_nameBy_121 : decode cX0_nameBy 121 = .ok (.iconst 1, 1) := by decide +kernel
theorem dX0_nameBy_122 : decode cX0_nameBy 122 = .ok (.ireturn, 1) := by decide +kernel
theorem dX0_answers_0 : decode cX0_answers 0 = .ok (.iconst 0, 1) := by decide +kernel
theorem dX0_answers_1 : decode cX0_answers 1 = .ok (.istore 5, 2) := by decide +kernel
theorem dX0_answers_3 : decode cX0_answers 3 = .ok (.aload_n 2, 1) := by decide +kernel
theorem dX0_answers_4 : decode cX0_answers 4 = .ok (.invokestatic 49, 3) := by decide +kernel
theorem dX0_answers_7 : decode cX0_answers 7 = .ok (.istore 6, 2) := by decide +kernel
theorem dX0_answers_9 : decode cX0_answers 9 = .ok (.iconst 0, 1) := by decide +kernel
theorem dX0_answers_10 : decode cX0_answers 10 = .ok (.istore 7, 2) := by decide +kernel
theorem dX0_answers_12 : decode cX0_answers 12 = .ok (.iload 7, 2) := by decide +kernel
theorem dX0_answers_14 : decode cX0_answers 14 = .ok (.iload 6, 2) := by decide +kernel
theorem dX0_answers_16 : decode cX0_answers 16 = .ok (.if_icmp .ge 104, 3) := by decide +kernel
theorem dX0_answers_19 : decode cX0_answers 19 = .ok (.aload_n 0, 1) := by decide +kernel
theorem dX0_answers_20 : decode cX0_answers 20 = .ok (.iload 7, 2) := by decide +kernel
theorem dX0_answers_22 : decode cX0_answers 22 = .ok (.aload_n 2, 1) := by decide +kernel
theorem dX0_answers_23 : decode cX0_answers 23 = .ok (.aload_n 3, 1) := by decide +kernel
theorem dX0_answers_24 : decode cX0_answers 24 = .ok (.iload 4, 2) := by decide +kernel
theorem dX0_answers_26 : decode cX0_answers 26 = .ok (.invokevirtual 53, 3) := by decide +kernel
theorem dX0_answers_29 : decode cX0_answers 29 = .ok (.ifCond .ne 6, 3) := by decide +kernel
theorem dX0_answers_32 : decode cX0_answers 32 = .ok (.goto 82, 3) := by decide +kernel
theorem dX0_answers_35 : decode cX0_answers 35 = .ok (.aload_n 0, 1) := by decide +kernel
theorem dX0_answers_36 : decode cX0_answers 36 = .ok (.getfield 27, 3) := by decide +kernel
theorem dX0_answers_39 : decode cX0_answers 39 = .ok (.aload_n 1, 1) := by decide +kernel
theorem dX0_answers_40 : decode cX0_answers 40 = .ok (.invokevirtual 57, 3) := by decide +kernel
theorem dX0_answers_43 : decode cX0_answers 43 = .ok (.iconst 0, 1) := by decide +kernel
theorem dX0_answers_44 : decode cX0_answers 44 = .ok (.istore 8, 2) := by decide +kernel
theorem dX0_answers_46 : decode cX0_answers 46 = .ok (.iload 8, 2) := by decide +kernel
theorem dX0_answers_48 : decode cX0_answers 48 = .ok (.aload_n 2, 1) := by decide +kernel
theorem dX0_answers_49 : decode cX0_answers 49 = .ok (.getfield 61, 3) := by decide +kernel
theorem dX0_answers_52 : decode cX0_answers 52 = .ok (.if_icmp .ge 39, 3) := by decide +kernel
theorem dX0_answers_55 : decode cX0_answers 55 = .ok (.aload_n 0, 1) := by decide +kernel
theorem dX0_answers_56 : decode cX0_answers 56 = .ok (.getfield 31, 3) := by decide +kernel
theorem dX0_answers_59 : decode cX0_answers 59 = .ok (.aload_n 0, 1) := by decide +kernel
theorem dX0_answers_60 : decode cX0_answers 60 = .ok (.getfield 27, 3) := by decide +kernel
theorem dX0_answers_63 : decode cX0_answers 63 = .ok (.aload_n 2, 1) := by decide +kernel
theorem dX0_answers_64 : decode cX0_answers 64 = .ok (.getfield 64, 3) := by decide +kernel
theorem dX0_answers_67 : decode cX0_answers 67 = .ok (.iload 8, 2) := by decide +kernel
theorem dX0_answers_69 : decode cX0_answers 69 = .ok (.iaload, 1) := by decide +kernel
theorem dX0_answers_70 : decode cX0_answers 70 = .ok (.aload_n 0, 1) := by decide +kernel
theorem dX0_answers_71 : decode cX0_answers 71 = .ok (.getfield 17, 3) := by decide +kernel
theorem dX0_answers_74 : decode cX0_answers 74 = .ok (.aload_n 2, 1) := by decide +kernel
theorem dX0_answers_75 : decode cX0_answers 75 = .ok (.getfield 67, 3) := by decide +kernel
theorem dX0_answers_78 : decode cX0_answers 78 = .ok (.iload 8, 2) := by decide +kernel
theorem dX0_answers_80 : decode cX0_answers 80 = .ok (.iaload, 1) := by decide +kernel
theorem dX0_answers_81 : decode cX0_answers 81 = .ok (.iaload, 1) := by decide +kernel
theorem dX0_answers_82 : decode cX0_answers 82 = .ok (.invokevirtual 70, 3) := by decide +kernel
theorem dX0_answers_85 : decode cX0_answers 85 = .ok (.iinc 8 1, 3) := by decide +kernel
theorem dX0_answers_88 : decode cX0_answers 88 = .ok (.goto (-42), 3) := by decide +kernel
theorem dX0_answers_91 : decode cX0_answers 91 = .ok (.aload_n 0, 1) := by decide +kernel
theorem dX0_answers_92 : decode cX0_answers 92 = .ok (.getfield 31, 3) := by decide +kernel
theorem dX0_answers_95 : decode cX0_answers 95 = .ok (.aload_n 0, 1) := by decide +kernel
theorem dX0_answers_96 : decode cX0_answers 96 = .ok (.getfield 27, 3) := by decide +kernel
theorem dX0_answers_99 : decode cX0_answers 99 = .ok (.invokevirtual 76, 3) := by decide +kernel
theorem dX0_answers_102 : decode cX0_answers 102 = .ok (.ifCond .eq 12, 3) := by decide +kernel
theorem dX0_answers_105 : decode cX0_answers 105 = .ok (.iload 5, 2) := by decide +kernel
theorem dX0_answers_107 : decode cX0_answers 107 = .ok (.iconst 1, 1) := by decide +kernel
theorem dX0_answers_108 : decode cX0_answers 108 = .ok (.iload 7, 2) := by decide +kernel
theorem dX0_answers_110 : decode cX0_answers 110 = .ok (.ishl, 1) := by decide +kernel
theorem dX0_answers_111 : decode cX0_answers 111 = .ok (.ior, 1) := by decide +kernel
theorem dX0_answers_112 : decode cX0_answers 112 = .ok (.istore 5, 2) := by decide +kernel
theorem dX0_answers_114 : decode cX0_answers 114 = .ok (.iinc 7 1, 3) := by decide +kernel
theorem dX0_answers_117 : decode cX0_answers 117 = .ok (.goto (-105), 3) := by decide +kernel
theorem dX0_answers_120 : decode cX0_answers 120 = .ok (.iload 5, 2) := by decide +kernel
theorem dX0_answers_122 : decode cX0_answers 122 = .ok (.ireturn, 1) := by decide +kernel
theorem dX0_firstShowing_0 : decode cX0_firstShowing 0 = .ok (.aload_n 2, 1) := by decide +kernel
theorem dX0_firstShowing_1 : decode cX0_firstShowing 1 = .ok (.invokestatic 49, 3) := by decide +kernel
theorem dX0_firstShowing_4 : decode cX0_firstShowing 4 = .ok (.istore 6, 2) := by decide +kernel
theorem dX0_firstShowing_6 : decode cX0_firstShowing 6 = .ok (.iconst 0, 1) := by decide +kernel
theorem dX0_firstShowing_7 : decode cX0_firstShowing 7 = .ok (.istore 7, 2) := by decide +kernel
theorem dX0_firstShowing_9 : decode cX0_firstShowing 9 = .ok (.iload 7, 2) := by decide +kernel
theorem dX0_firstShowing_11 : decode cX0_firstShowing 11 = .ok (.iload 6, 2) := by decide +kernel
theorem dX0_firstShowing_13 : decode cX0_firstShowing 13 = .ok (.if_icmp .ge 63, 3) := by decide +kernel
theorem dX0_firstShowing_16 : decode cX0_firstShowing 16 = .ok (.aload_n 0, 1) := by decide +kernel
theorem dX0_firstShowing_17 : decode cX0_firstShowing 17 = .ok (.iload 7, 2) := by decide +kernel
theorem dX0_firstShowing_19 : decode cX0_firstShowing 19 = .ok (.aload_n 2, 1) := by decide +kernel
theorem dX0_firstShowing_20 : decode cX0_firstShowing 20 = .ok (.aload 4, 2) := by decide +kernel
theorem dX0_firstShowing_22 : decode cX0_firstShowing 22 = .ok (.iload 5, 2) := by decide +kernel
theorem dX0_firstShowing_24 : decode cX0_firstShowing 24 = .ok (.invokevirtual 53, 3) := by decide +kernel
theorem dX0_firstShowing_27 : decode cX0_firstShowing 27 = .ok (.ifCond .eq 43, 3) := by decide +kernel
theorem dX0_firstShowing_30 : decode cX0_firstShowing 30 = .ok (.aload_n 0, 1) := by decide +kernel
theorem dX0_firstShowing_31 : decode cX0_firstShowing 31 = .ok (.getfield 21, 3) := by decide +kernel
theorem dX0_firstShowing_34 : decode cX0_firstShowing 34 = .ok (.iload_n 3, 1) := by decide +kernel
theorem dX0_firstShowing_35 : decode cX0_firstShowing 35 = .ok (.iaload, 1) := by decide +kernel
theorem dX0_firstShowing_36 : decode cX0_firstShowing 36 = .ok (.ifCond .eq 34, 3) := by decide +kernel
theorem dX0_firstShowing_39 : decode cX0_firstShowing 39 = .ok (.iload 7, 2) := by decide +kernel
theorem dX0_firstShowing_41 : decode cX0_firstShowing 41 = .ok (.iload_n 3, 1) := by decide +kernel
theorem dX0_firstShowing_42 : decode cX0_firstShowing 42 = .ok (.aload_n 0, 1) := by decide +kernel
theorem dX0_firstShowing_43 : decode cX0_firstShowing 43 = .ok (.getfield 21, 3) := by decide +kernel
theorem dX0_firstShowing_46 : decode cX0_firstShowing 46 = .ok (.iload_n 3, 1) := by decide +kernel
theorem dX0_firstShowing_47 : decode cX0_firstShowing 47 = .ok (.iaload, 1) := by decide +kernel
theorem dX0_firstShowing_48 : decode cX0_firstShowing 48 = .ok (.imul, 1) := by decide +kernel
theorem dX0_firstShowing_49 : decode cX0_firstShowing 49 = .ok (.isub, 1) := by decide +kernel
theorem dX0_firstShowing_50 : decode cX0_firstShowing 50 = .ok (.istore 8, 2) := by decide +kernel
theorem dX0_firstShowing_52 : decode cX0_firstShowing 52 = .ok (.iload_n 1, 1) := by decide +kernel
theorem dX0_firstShowing_53 : decode cX0_firstShowing 53 = .ok (.iload 7, 2) := by decide +kernel
theorem dX0_firstShowing_55 : decode cX0_firstShowing 55 = .ok (.ishr, 1) := by decide +kernel
theorem dX0_firstShowing_56 : decode cX0_firstShowing 56 = .ok (.iconst 1, 1) := by decide +kernel
theorem dX0_firstShowing_57 : decode cX0_firstShowing 57 = .ok (.iand, 1) := by decide +kernel
theorem dX0_firstShowing_58 : decode cX0_firstShowing 58 = .ok (.iload_n 1, 1) := by decide +kernel
theorem dX0_firstShowing_59 : decode cX0_firstShowing 59 = .ok (.iload 8, 2) := by decide +kernel
theorem dX0_firstShowing_61 : decode cX0_firstShowing 61 = .ok (.ishr, 1) := by decide +kernel
theorem dX0_firstShowing_62 : decode cX0_firstShowing 62 = .ok (.iconst 1, 1) := by decide +kernel
theorem dX0_firstShowing_63 : decode cX0_firstShowing 63 = .ok (.iand, 1) := by decide +kernel
theorem dX0_firstShowing_64 : decode cX0_firstShowing 64 = .ok (.if_icmp .eq 6, 3) := by decide +kernel
theorem dX0_firstShowing_67 : decode cX0_firstShowing 67 = .ok (.iload 7, 2) := by decide +kernel
theorem dX0_firstShowing_69 : decode cX0_firstShowing 69 = .ok (.ireturn, 1) := by decide +kernel
theorem dX0_firstShowing_70 : decode cX0_firstShowing 70 = .ok (.iinc 7 1, 3) := by decide +kernel
theorem dX0_firstShowing_73 : decode cX0_firstShowing 73 = .ok (.goto (-64), 3) := by decide +kernel
theorem dX0_firstShowing_76 : decode cX0_firstShowing 76 = .ok (.iconst (-1), 1) := by decide +kernel
theorem dX0_firstShowing_77 : decode cX0_firstShowing 77 = .ok (.ireturn, 1) := by decide +kernel
def f_X0_countInstances (r0 : Nat) (D : Dm) : Option (Int32 × Dm) := gd (inB (mnI (D r0 4) 3) 4) (some ((tab0 (Int32.toNatClampNeg (mnI (D r0 4) 3))), D))
def f_X0_nameBy_102 (k32 : Nat → Nat → Int32 → Int32 → Int32 → Int32 → Dm → Option (Int32 × Dm)) (r3 : Nat) (n3 : Nat) (x4 : Int32) (x5 : Int32) (x6 : Int32) (x7 : Int32) (xs0 : Int32) (xs1 : Int32) (D : Dm) : Option (Int32 × Dm) := gd (inB xs1 3) (lt (ud D 78 (Int32.toNatClampNeg xs1) xs0) fun D2 => lt (x5 / 3) fun y4 => lt (x6 * 3) fun y6 => lt (x7 + (-1)) fun y8 => k32 r3 n3 x4 y4 y6 y8 D2)
def f_X0_nameBy_67 (k32 : Nat → Nat → Int32 → Int32 → Int32 → Int32 → Dm → Option (Int32 × Dm)) (r3 : Nat) (n3 : Nat) (x4 : Int32) (x5 : Int32) (x6 : Int32) (x7 : Int32) (x8 : Int32) (D : Dm) : Option (Int32 × Dm) := gd (inB x8 3) (lt (ud D 79 (Int32.toNatClampNeg x8) x6) fun D2 => if x8 = 0 then (f_X0_nameBy_102 k32 r3 n3 x4 x5 x6 x7 (1000 + x7) x7 D2) else (gd (inB (x8 - 1) n3) (f_X0_nameBy_102 k32 r3 n3 x4 x5 x6 x7 (D2 r3 (Int32.toNatClampNeg (x8 - 1))) x7 D2)))
def f_X0_nameBy_32_b (k32 : Nat → Nat → Int32 → Int32 → Int32 → Int32 → Dm → Option (Int32 × Dm)) (r3 : Nat) (n3 : Nat) (x4 : Int32) (x5 : Int32) (x6 : Int32) (x7 : Int32) (D : Dm) : Option (Int32 × Dm) := if x7 < 0 then (some (1, D)) else (lt (x5 - x5 / 3 * 3) fun y2 => if x4 < y2 then (some (0, D)) else (if y2 ≤ 0 then (f_X0_nameBy_67 k32 r3 n3 x4 x5 x6 x7 y2 D) else (gd (inB y2 3) (if (D 79 (Int32.toNatClampNeg y2)) = 0 then (f_X0_nameBy_67 k32 r3 n3 x4 x5 x6 x7 y2 D) else (some (0, D))))))
def f_X0_nameBy_32 : Nat → Nat → Nat → Int32 → Int32 → Int32 → Int32 → Dm → Option (Int32 × Dm)
  | 0, _, _, _, _, _, _, _ => none
  | n + 1, r3, n3, x4, x5, x6, x7, D => f_X0_nameBy_32_b (f_X0_nameBy_32 n) r3 n3 x4 x5 x6 x7 D
def f_X0_nameBy (x1 : Int32) (r2 : Nat) (r3 : Nat) (n3 : Nat) (x4 : Int32) (D : Dm) : Option (Int32 × Dm) := lt (ud D 79 1 0) fun D2 => lt (ud D2 79 2 0) fun D5 => lt ((mnI (D5 r2 4) 3) - 1) fun y7 => f_X0_nameBy_32 FU r3 n3 x4 x1 1 y7 D5
def f_X0_answers_114 (k12 : Nat → Nat → Nat → Nat → Int32 → Int32 → Int32 → Int32 → Dm → Option (Int32 × Dm)) (r1 : Nat) (r2 : Nat) (r3 : Nat) (n3 : Nat) (x4 : Int32) (x5 : Int32) (x6 : Int32) (x7 : Int32) (D : Dm) : Option (Int32 × Dm) := lt (x7 + 1) fun y1 => k12 r1 r2 r3 n3 x4 x5 x6 y1 D
def f_X0_answers_46_b (k12 : Nat → Nat → Nat → Nat → Int32 → Int32 → Int32 → Int32 → Dm → Option (Int32 × Dm)) (k46 : Nat → Nat → Nat → Nat → Int32 → Int32 → Int32 → Int32 → Int32 → Dm → Option (Int32 × Dm)) (r1 : Nat) (r2 : Nat) (r3 : Nat) (n3 : Nat) (x4 : Int32) (x5 : Int32) (x6 : Int32) (x7 : Int32) (x8 : Int32) (D : Dm) : Option (Int32 × Dm) := if (D r2 3) ≤ x8 then (bI (f_X4_takes 9 80 D) fun y4 D2 => if y4 = 0 then (f_X0_answers_114 k12 r1 r2 r3 n3 x4 x5 x6 x7 D2) else (lt (x5 ||| (1 <<< (x7 &&& 31))) fun y6 => f_X0_answers_114 k12 r1 r2 r3 n3 x4 y6 x6 x7 D2)) else (gd (inB x8 20) (gd (inB x8 20) (gd (inB (D (r2 + 2) (Int32.toNatClampNeg x8)) 3) (bV (f_X4_advance 9 80 (D (r2 + 1) (Int32.toNatClampNeg x8)) (D 78 (Int32.toNatClampNeg (D (r2 + 2) (Int32.toNatClampNeg x8)))) D) fun D11 => lt (x8 + 1) fun y13 => k46 r1 r2 r3 n3 x4 x5 x6 x7 y13 D11))))
def f_X0_answers_46 (k12 : Nat → Nat → Nat → Nat → Int32 → Int32 → Int32 → Int32 → Dm → Option (Int32 × Dm)) : Nat → Nat → Nat → Nat → Nat → Int32 → Int32 → Int32 → Int32 → Int32 → Dm → Option (Int32 × Dm)
  | 0, _, _, _, _, _, _, _, _, _, _ => none
  | n + 1, r1, r2, r3, n3, x4, x5, x6, x7, x8, D => f_X0_answers_46_b k12 (f_X0_answers_46 k12 n) r1 r2 r3 n3 x4 x5 x6 x7 x8 D
def f_X0_answers_12_b (k12 : Nat → Nat → Nat → Nat → Int32 → Int32 → Int32 → Int32 → Dm → Option (Int32 × Dm)) (r1 : Nat) (r2 : Nat) (r3 : Nat) (n3 : Nat) (x4 : Int32) (x5 : Int32) (x6 : Int32) (x7 : Int32) (D : Dm) : Option (Int32 × Dm) := if x6 ≤ x7 then (some (x5, D)) else (bI (f_X0_nameBy x7 r2 r3 n3 x4 D) fun y4 D2 => if y4 = 0 then (f_X0_answers_114 k12 r1 r2 r3 n3 x4 x5 x6 x7 D2) else (bV (f_X1_copy 80 r1 D2) fun D6 => f_X0_answers_46 k12 FU r1 r2 r3 n3 x4 x5 x6 x7 0 D6))
def f_X0_answers_12 : Nat → Nat → Nat → Nat → Nat → Int32 → Int32 → Int32 → Int32 → Dm → Option (Int32 × Dm)
  | 0, _, _, _, _, _, _, _, _, _ => none
  | n + 1, r1, r2, r3, n3, x4, x5, x6, x7, D => f_X0_answers_12_b (f_X0_answers_12 n) r1 r2 r3 n3 x4 x5 x6 x7 D
def f_X0_answers (r1 : Nat) (r2 : Nat) (r3 : Nat) (n3 : Nat) (x4 : Int32) (D : Dm) : Option (Int32 × Dm) := bI (f_X0_countInstances r2 D) fun y3 D1 => f_X0_answers_12 FU r1 r2 r3 n3 x4 0 y3 0 D1
def f_X0_firstShowing_70 (k9 : Int32 → Nat → Int32 → Nat → Nat → Int32 → Int32 → Int32 → Dm → Option (Int32 × Dm)) (x1 : Int32) (r2 : Nat) (x3 : Int32) (r4 : Nat) (n4 : Nat) (x5 : Int32) (x6 : Int32) (x7 : Int32) (D : Dm) : Option (Int32 × Dm) := lt (x7 + 1) fun y1 => k9 x1 r2 x3 r4 n4 x5 x6 y1 D
def f_X0_firstShowing_9_b (k9 : Int32 → Nat → Int32 → Nat → Nat → Int32 → Int32 → Int32 → Dm → Option (Int32 × Dm)) (x1 : Int32) (r2 : Nat) (x3 : Int32) (r4 : Nat) (n4 : Nat) (x5 : Int32) (x6 : Int32) (x7 : Int32) (D : Dm) : Option (Int32 × Dm) := if x6 ≤ x7 then (some ((-1), D)) else (bI (f_X0_nameBy x7 r2 r4 n4 x5 D) fun y4 D2 => if y4 = 0 then (f_X0_firstShowing_70 k9 x1 r2 x3 r4 n4 x5 x6 x7 D2) else (gd (inB x3 3) (if (D2 79 (Int32.toNatClampNeg x3)) = 0 then (f_X0_firstShowing_70 k9 x1 r2 x3 r4 n4 x5 x6 x7 D2) else (gd (inB x3 3) (lt (x7 - (x3 * (D2 79 (Int32.toNatClampNeg x3)))) fun y9 => if ((x1 >>> (x7 &&& 31)) &&& 1) = ((x1 >>> (y9 &&& 31)) &&& 1) then (f_X0_firstShowing_70 k9 x1 r2 x3 r4 n4 x5 x6 x7 D2) else (some (x7, D2)))))))
def f_X0_firstShowing_9 : Nat → Int32 → Nat → Int32 → Nat → Nat → Int32 → Int32 → Int32 → Dm → Option (Int32 × Dm)
  | 0, _, _, _, _, _, _, _, _, _ => none
  | n + 1, x1, r2, x3, r4, n4, x5, x6, x7, D => f_X0_firstShowing_9_b (f_X0_firstShowing_9 n) x1 r2 x3 r4 n4 x5 x6 x7 D
def f_X0_firstShowing (x1 : Int32) (r2 : Nat) (x3 : Int32) (r4 : Nat) (n4 : Nat) (x5 : Int32) (D : Dm) : Option (Int32 × Dm) := bI (f_X0_countInstances r2 D) fun y3 D1 => f_X0_firstShowing_9 FU x1 r2 x3 r4 n4 x5 y3 0 D1
set_option maxHeartbeats 4000000 in
theorem w_X0_countInstances {G : va_G} {tA : Nat → ClassId} {z : Nat} {E : Ex} {p : Program} {l : Launch} {e : Env} {s : State} {m : MethodId} {args : Array Value} {below : List Frame} {meth : Method} {c : Code} {r : Int32} {D' : Dm} (O : Ok G tA z E cX0_countInstances RX0 1 p s m args c) (hr : meth.sig.returnType = some .int) (hlk : meth.locks = false) (r0 : Nat) (h0 : isC10 r0) (D : Dm) (h : f_X0_countInstances r0 D = some (r, D')) : BI G tA z E p l e (rmC 1 0 0) s m args below meth c LAY D r D' 1 0 [(0, .ref (z + r0))] [] := by
  obtain ⟨hx, hb, -, hown, hts, -⟩ := id O
  unfold f_X0_countInstances at h
  intro H locs ls hH hl
  refine h_gst0 O hH dX0_countInstances_0 ?_
  refine lv_aload_n hx hb dX0_countInstances_3 rfl (lv_at hl 0 rfl) ?_
  refine h_geti O hH h0.1 rfl fl_X0_39 dX0_countInstances_4 ?_
  refine lv_iconst (v := 3) hx hb dX0_countInstances_7 (by decide) ?_
  refine h_min O hl.1 ww_900 (Nat.le_of_ble_eq_true rfl) (Nat.le_of_ble_eq_true rfl) dX0_countInstances_8 ?_
  obtain ⟨g1, h⟩ := gd_some h
  refine h_tald0 O hH g1 dX0_countInstances_11 ?_
  obtain ⟨rfl, rfl⟩ := ret_i h
  exact h_iret O hr hlk hH dX0_countInstances_12
set_option maxHeartbeats 4000000 in
theorem c_X0_countInstances {l : Launch} {G : va_G} {tA : Nat → ClassId} {z : Nat} {E : Ex} {r0 : Nat} (h0 : isC10 r0) {D D' : Dm} {r : Int32} (h : f_X0_countInstances r0 D = some (r, D')) : CtI l yX0_countInstances cX0_countInstances 1 (some .int) G tA z E 1 0 0 [.ref (z + r0)] LAY D r LAY D' :=
  ct_BI (by decide +kernel) (Nat.le_of_ble_eq_true rfl) (fun _ _ _ _ _ _ _ _ O hr hlk => w_X0_countInstances O hr hlk _ h0 _ h)
set_option maxHeartbeats 4000000 in
theorem w_X0_nameBy_102 {G : va_G} {tA : Nat → ClassId} {z : Nat} {E : Ex} {p : Program} {l : Launch} {e : Env} {s : State} {m : MethodId} {args : Array Value} {below : List Frame} {meth : Method} {c : Code} {r : Int32} {D' : Dm} (O : Ok G tA z E cX0_nameBy RX0 9 p s m args c) (hr : meth.sig.returnType = some .boolean) (hlk : meth.locks = false) {k32 : Nat → Nat → Int32 → Int32 → Int32 → Int32 → Dm → Option (Int32 × Dm)} (hk32 : ∀ (r3 : Nat) (n3 : Nat) (x4 : Int32) (x5 : Int32) (x6 : Int32) (x7 : Int32) (h3 : LAY[r3]? = some (.inl (0, n3))) (D : Dm), k32 r3 n3 x4 x5 x6 x7 D = some (r, D') → BI G tA z E p l e (rmC 1 0 0) s m args below meth c LAY D r D' 9 32 [(0, .ref (z + 76)), (3, .ref (z + r3)), (4, .int x4), (5, .int x5), (6, .int x6), (7, .int x7)] []) (r3 : Nat) (n3 : Nat) (x4 : Int32) (x5 : Int32) (x6 : Int32) (x7 : Int32) (xs0 : Int32) (xs1 : Int32) (h3 : LAY[r3]? = some (.inl (0, n3))) (D : Dm) (h : f_X0_nameBy_102 k32 r3 n3 x4 x5 x6 x7 xs0 xs1 D = some (r, D')) : BI G tA z E p l e (rmC 1 0 0) s m args below meth c LAY D r D' 9 102 [(0, .ref (z + 76)), (3, .ref (z + r3)), (4, .int x4), (5, .int x5), (6, .int x6), (7, .int x7)] [.int xs0, .int xs1, .ref (z + 78)] := by
  obtain ⟨hx, hb, -, hown, hts, -⟩ := id O
  unfold f_X0_nameBy_102 at h
  intro H locs ls hH hl
  obtain ⟨g1, h⟩ := gd_some h
  obtain ⟨D2, e3, h⟩ := lt_some h
  refine h_iast O hH ly_78 g1 e3 dX0_nameBy_102 (fun H locs hH => ?_)
  refine lv_iload hx hb dX0_nameBy_103 (lv_at hl 3 rfl) ?_
  refine lv_iconst (v := 3) hx hb dX0_nameBy_105 (by decide) ?_
  refine lv_idiv hx hb dX0_nameBy_106 (by decide) ?_
  refine lv_topi (fun y4 e5 => ?_)
  have h := lt_at e5 h
  refine lv_istore (lv' := [(5, .int y4), (0, .ref (z + 76)), (3, .ref (z + r3)), (4, .int x4), (6, .int x6), (7, .int x7)]) hx hb dX0_nameBy_107 hl (by decide) rfl (fun ls hl => ?_)
  refine lv_iload hx hb dX0_nameBy_109 (lv_at hl 4 rfl) ?_
  refine lv_iconst (v := 3) hx hb dX0_nameBy_111 (by decide) ?_
  refine lv_imul hx hb dX0_nameBy_112 ?_
  refine lv_topi (fun y6 e7 => ?_)
  have h := lt_at e7 h
  refine lv_istore (lv' := [(6, .int y6), (5, .int y4), (0, .ref (z + 76)), (3, .ref (z + r3)), (4, .int x4), (7, .int x7)]) hx hb dX0_nameBy_113 hl (by decide) rfl (fun ls hl => ?_)
  obtain ⟨y8, e9, h⟩ := lt_some h
  refine lv_iinc (v := y8) (lv' := [(7, .int y8), (6, .int y6), (5, .int y4), (0, .ref (z + 76)), (3, .ref (z + r3)), (4, .int x4)]) hx hb dX0_nameBy_115 hl (k := 5) rfl (by rw [e9]; rfl) (by decide) rfl (fun ls hl => ?_)
  refine lv_goto (tgt := 32) hx hb dX0_nameBy_118 (by decide) ?_
  exact hk32 _ _ _ _ _ _ h3 _ h _ _ _ hH (lv_sub hl [3, 4, 5, 2, 1, 0] rfl)
set_option maxHeartbeats 4000000 in
theorem w_X0_nameBy_67 {G : va_G} {tA : Nat → ClassId} {z : Nat} {E : Ex} {p : Program} {l : Launch} {e : Env} {s : State} {m : MethodId} {args : Array Value} {below : List Frame} {meth : Method} {c : Code} {r : Int32} {D' : Dm} (O : Ok G tA z E cX0_nameBy RX0 9 p s m args c) (hr : meth.sig.returnType = some .boolean) (hlk : meth.locks = false) {k32 : Nat → Nat → Int32 → Int32 → Int32 → Int32 → Dm → Option (Int32 × Dm)} (hk32 : ∀ (r3 : Nat) (n3 : Nat) (x4 : Int32) (x5 : Int32) (x6 : Int32) (x7 : Int32) (h3 : LAY[r3]? = some (.inl (0, n3))) (D : Dm), k32 r3 n3 x4 x5 x6 x7 D = some (r, D') → BI G tA z E p l e (rmC 1 0 0) s m args below meth c LAY D r D' 9 32 [(0, .ref (z + 76)), (3, .ref (z + r3)), (4, .int x4), (5, .int x5), (6, .int x6), (7, .int x7)] []) (r3 : Nat) (n3 : Nat) (x4 : Int32) (x5 : Int32) (x6 : Int32) (x7 : Int32) (x8 : Int32) (h3 : LAY[r3]? = some (.inl (0, n3))) (D : Dm) (h : f_X0_nameBy_67 k32 r3 n3 x4 x5 x6 x7 x8 D = some (r, D')) : BI G tA z E p l e (rmC 1 0 0) s m args below meth c LAY D r D' 9 67 [(0, .ref (z + 76)), (3, .ref (z + r3)), (4, .int x4), (5, .int x5), (6, .int x6), (7, .int x7), (8, .int x8)] [] := by
  obtain ⟨hx, hb, -, hown, hts, -⟩ := id O
  unfold f_X0_nameBy_67 at h
  intro H locs ls hH hl
  refine lv_aload_n hx hb dX0_nameBy_67 rfl (lv_at hl 0 rfl) ?_
  refine h_getr O hH ly_76 rfl fl_X0_21 dX0_nameBy_68 ?_
  refine lv_iload hx hb dX0_nameBy_71 (lv_at hl 6 rfl) ?_
  refine lv_iload hx hb dX0_nameBy_73 (lv_at hl 4 rfl) ?_
  obtain ⟨g1, h⟩ := gd_some h
  obtain ⟨D2, e3, h⟩ := lt_some h
  refine h_iast O hH ly_79 g1 e3 dX0_nameBy_75 (fun H locs hH => ?_)
  refine lv_aload_n hx hb dX0_nameBy_76 rfl (lv_at hl 0 rfl) ?_
  refine h_getr O hH ly_76 rfl fl_X0_17 dX0_nameBy_77 ?_
  refine lv_iload hx hb dX0_nameBy_80 (lv_at hl 5 rfl) ?_
  refine lv_iload hx hb dX0_nameBy_82 (lv_at hl 6 rfl) ?_
  refine lv_if_ne (tgt := 96) hx hb dX0_nameBy_84 (by decide) (fun c4 => ?_) (fun c4 => ?_)
  · have h := it_neg h c4
    refine lv_aload_n hx hb dX0_nameBy_96 rfl (lv_at hl 1 rfl) ?_
    refine lv_iload hx hb dX0_nameBy_97 (lv_at hl 6 rfl) ?_
    refine lv_iconst (v := 1) hx hb dX0_nameBy_99 (by decide) ?_
    refine lv_isub hx hb dX0_nameBy_100 ?_
    obtain ⟨g5, h⟩ := gd_some h
    refine h_iald O hH h3 g5 dX0_nameBy_101 ?_
    exact w_X0_nameBy_102 O hr hlk hk32 _ _ _ _ _ _ _ _ h3 _ h _ _ _ hH (lv_sub hl [0, 1, 2, 3, 4, 5] rfl)
  · have h := it_pos h c4
    refine lv_sipush (v := 1000) hx hb dX0_nameBy_87 (by decide) ?_
    refine lv_iload hx hb dX0_nameBy_90 (lv_at hl 5 rfl) ?_
    refine lv_iadd hx hb dX0_nameBy_92 ?_
    refine lv_goto (tgt := 102) hx hb dX0_nameBy_93 (by decide) ?_
    exact w_X0_nameBy_102 O hr hlk hk32 _ _ _ _ _ _ _ _ h3 _ h _ _ _ hH (lv_sub hl [0, 1, 2, 3, 4, 5] rfl)
set_option maxHeartbeats 4000000 in
theorem w_X0_nameBy_32_b {G : va_G} {tA : Nat → ClassId} {z : Nat} {E : Ex} {p : Program} {l : Launch} {e : Env} {s : State} {m : MethodId} {args : Array Value} {below : List Frame} {meth : Method} {c : Code} {r : Int32} {D' : Dm} (O : Ok G tA z E cX0_nameBy RX0 9 p s m args c) (hr : meth.sig.returnType = some .boolean) (hlk : meth.locks = false) {k32 : Nat → Nat → Int32 → Int32 → Int32 → Int32 → Dm → Option (Int32 × Dm)} (hk32 : ∀ (r3 : Nat) (n3 : Nat) (x4 : Int32) (x5 : Int32) (x6 : Int32) (x7 : Int32) (h3 : LAY[r3]? = some (.inl (0, n3))) (D : Dm), k32 r3 n3 x4 x5 x6 x7 D = some (r, D') → BI G tA z E p l e (rmC 1 0 0) s m args below meth c LAY D r D' 9 32 [(0, .ref (z + 76)), (3, .ref (z + r3)), (4, .int x4), (5, .int x5), (6, .int x6), (7, .int x7)] []) (r3 : Nat) (n3 : Nat) (x4 : Int32) (x5 : Int32) (x6 : Int32) (x7 : Int32) (h3 : LAY[r3]? = some (.inl (0, n3))) (D : Dm) (h : f_X0_nameBy_32_b k32 r3 n3 x4 x5 x6 x7 D = some (r, D')) : BI G tA z E p l e (rmC 1 0 0) s m args below meth c LAY D r D' 9 32 [(0, .ref (z + 76)), (3, .ref (z + r3)), (4, .int x4), (5, .int x5), (6, .int x6), (7, .int x7)] [] := by
  obtain ⟨hx, hb, -, hown, hts, -⟩ := id O
  unfold f_X0_nameBy_32_b at h
  intro H locs ls hH hl
  refine lv_iload hx hb dX0_nameBy_32 (lv_at hl 5 rfl) ?_
  refine lv_if_lt (tgt := 121) hx hb dX0_nameBy_34 (by decide) (fun c1 => ?_) (fun c1 => ?_)
  · have h := it_pos h c1
    refine lv_iconst (v := 1) hx hb dX0_nameBy_121 (by decide) ?_
    obtain ⟨rfl, rfl⟩ := ret_i h
    exact h_zret O hr hlk zb_1 hH dX0_nameBy_122
  · have h := it_neg h c1
    refine lv_iload hx hb dX0_nameBy_37 (lv_at hl 3 rfl) ?_
    refine lv_iconst (v := 3) hx hb dX0_nameBy_39 (by decide) ?_
    refine lv_irem hx hb dX0_nameBy_40 (by decide) ?_
    refine lv_topi (fun y2 e3 => ?_)
    have h := lt_at e3 h
    refine lv_istore (lv' := [(8, .int y2), (0, .ref (z + 76)), (3, .ref (z + r3)), (4, .int x4), (5, .int x5), (6, .int x6), (7, .int x7)]) hx hb dX0_nameBy_41 hl (by decide) rfl (fun ls hl => ?_)
    refine lv_iload hx hb dX0_nameBy_43 (lv_at hl 0 rfl) ?_
    refine lv_iload hx hb dX0_nameBy_45 (lv_at hl 3 rfl) ?_
    refine lv_icmp_gt (tgt := 65) hx hb dX0_nameBy_47 (by decide) (fun c4 => ?_) (fun c4 => ?_)
    · have h := it_pos h c4
      refine lv_iconst (v := 0) hx hb dX0_nameBy_65 (by decide) ?_
      obtain ⟨rfl, rfl⟩ := ret_i h
      exact h_zret O hr hlk zb_0 hH dX0_nameBy_66
    · have h := it_neg h c4
      refine lv_iload hx hb dX0_nameBy_50 (lv_at hl 0 rfl) ?_
      refine lv_if_le (tgt := 67) hx hb dX0_nameBy_52 (by decide) (fun c5 => ?_) (fun c5 => ?_)
      · have h := it_pos h c5
        exact w_X0_nameBy_67 O hr hlk hk32 _ _ _ _ _ _ _ h3 _ h _ _ _ hH (lv_sub hl [1, 2, 3, 4, 5, 6, 0] rfl)
      · have h := it_neg h c5
        refine lv_aload_n hx hb dX0_nameBy_55 rfl (lv_at hl 1 rfl) ?_
        refine h_getr O hH ly_76 rfl fl_X0_21 dX0_nameBy_56 ?_
        refine lv_iload hx hb dX0_nameBy_59 (lv_at hl 0 rfl) ?_
        obtain ⟨g6, h⟩ := gd_some h
        refine h_iald O hH ly_79 g6 dX0_nameBy_61 ?_
        refine lv_if_eq (tgt := 67) hx hb dX0_nameBy_62 (by decide) (fun c7 => ?_) (fun c7 => ?_)
        · have h := it_pos h c7
          exact w_X0_nameBy_67 O hr hlk hk32 _ _ _ _ _ _ _ h3 _ h _ _ _ hH (lv_sub hl [1, 2, 3, 4, 5, 6, 0] rfl)
        · have h := it_neg h c7
          refine lv_iconst (v := 0) hx hb dX0_nameBy_65 (by decide) ?_
          obtain ⟨rfl, rfl⟩ := ret_i h
          exact h_zret O hr hlk zb_0 hH dX0_nameBy_66
set_option maxHeartbeats 4000000 in
theorem w_X0_nameBy_32 {G : va_G} {tA : Nat → ClassId} {z : Nat} {E : Ex} {p : Program} {l : Launch} {e : Env} {s : State} {m : MethodId} {args : Array Value} {below : List Frame} {meth : Method} {c : Code} {r : Int32} {D' : Dm} (O : Ok G tA z E cX0_nameBy RX0 9 p s m args c) (hr : meth.sig.returnType = some .boolean) (hlk : meth.locks = false) : ∀ (n : Nat) (r3 : Nat) (n3 : Nat) (x4 : Int32) (x5 : Int32) (x6 : Int32) (x7 : Int32) (h3 : LAY[r3]? = some (.inl (0, n3))) (D : Dm) (h : f_X0_nameBy_32 n r3 n3 x4 x5 x6 x7 D = some (r, D')), BI G tA z E p l e (rmC 1 0 0) s m args below meth c LAY D r D' 9 32 [(0, .ref (z + 76)), (3, .ref (z + r3)), (4, .int x4), (5, .int x5), (6, .int x6), (7, .int x7)] [] := by
  intro n
  induction n with
  | zero => intro r3 n3 x4 x5 x6 x7 h3 D h; exact no_some h
  | succ n ih => intro r3 n3 x4 x5 x6 x7 h3 D h; exact w_X0_nameBy_32_b O hr hlk (fun r3 n3 x4 x5 x6 x7 h3 D h => ih r3 n3 x4 x5 x6 x7 h3 D h) r3 n3 x4 x5 x6 x7 h3 D h
set_option maxHeartbeats 4000000 in
theorem w_X0_nameBy {G : va_G} {tA : Nat → ClassId} {z : Nat} {E : Ex} {p : Program} {l : Launch} {e : Env} {s : State} {m : MethodId} {args : Array Value} {below : List Frame} {meth : Method} {c : Code} {r : Int32} {D' : Dm} (O : Ok G tA z E cX0_nameBy RX0 9 p s m args c) (hr : meth.sig.returnType = some .boolean) (hlk : meth.locks = false) (x1 : Int32) (r2 : Nat) (r3 : Nat) (n3 : Nat) (x4 : Int32) (h2 : isC10 r2) (h3 : LAY[r3]? = some (.inl (0, n3))) (D : Dm) (h : f_X0_nameBy x1 r2 r3 n3 x4 D = some (r, D')) : BI G tA z E p l e (rmC 1 0 0) s m args below meth c LAY D r D' 9 0 [(0, .ref (z + 76)), (1, .int x1), (2, .ref (z + r2)), (3, .ref (z + r3)), (4, .int x4)] [] := by
  obtain ⟨hx, hb, -, hown, hts, -⟩ := id O
  unfold f_X0_nameBy at h
  intro H locs ls hH hl
  refine lv_aload_n hx hb dX0_nameBy_0 rfl (lv_at hl 0 rfl) ?_
  refine h_getr O hH ly_76 rfl fl_X0_21 dX0_nameBy_1 ?_
  refine lv_iconst (v := 1) hx hb dX0_nameBy_4 (by decide) ?_
  refine lv_iconst (v := 0) hx hb dX0_nameBy_5 (by decide) ?_
  obtain ⟨D2, e3, h⟩ := lt_some h
  refine h_iastk (k := 1) O hH ly_79 (by decide) (by decide) (by decide) e3 dX0_nameBy_6 (fun H locs hH => ?_)
  refine lv_aload_n hx hb dX0_nameBy_7 rfl (lv_at hl 0 rfl) ?_
  refine h_getr O hH ly_76 rfl fl_X0_21 dX0_nameBy_8 ?_
  refine lv_iconst (v := 2) hx hb dX0_nameBy_11 (by decide) ?_
  refine lv_iconst (v := 0) hx hb dX0_nameBy_12 (by decide) ?_
  obtain ⟨D5, e6, h⟩ := lt_some h
  refine h_iastk (k := 2) O hH ly_79 (by decide) (by decide) (by decide) e6 dX0_nameBy_13 (fun H locs hH => ?_)
  refine lv_iload_n hx hb dX0_nameBy_14 rfl (lv_at hl 1 rfl) ?_
  refine lv_istore (lv' := [(5, .int x1), (0, .ref (z + 76)), (1, .int x1), (2, .ref (z + r2)), (3, .ref (z + r3)), (4, .int x4)]) hx hb dX0_nameBy_15 hl (by decide) rfl (fun ls hl => ?_)
  refine lv_iconst (v := 1) hx hb dX0_nameBy_17 (by decide) ?_
  refine lv_istore (lv' := [(6, .int 1), (5, .int x1), (0, .ref (z + 76)), (1, .int x1), (2, .ref (z + r2)), (3, .ref (z + r3)), (4, .int x4)]) hx hb dX0_nameBy_18 hl (by decide) rfl (fun ls hl => ?_)
  refine lv_aload_n hx hb dX0_nameBy_20 rfl (lv_at hl 4 rfl) ?_
  refine h_geti O hH h2.1 rfl fl_X0_39 dX0_nameBy_21 ?_
  refine lv_iconst (v := 3) hx hb dX0_nameBy_24 (by decide) ?_
  refine h_min O hl.1 ww_900 (Nat.le_of_ble_eq_true rfl) (Nat.le_of_ble_eq_true rfl) dX0_nameBy_25 ?_
  refine lv_iconst (v := 1) hx hb dX0_nameBy_28 (by decide) ?_
  refine lv_isub hx hb dX0_nameBy_29 ?_
  refine lv_topi (fun y7 e8 => ?_)
  have h := lt_at e8 h
  refine lv_istore (lv' := [(7, .int y7), (6, .int 1), (5, .int x1), (0, .ref (z + 76)), (1, .int x1), (2, .ref (z + r2)), (3, .ref (z + r3)), (4, .int x4)]) hx hb dX0_nameBy_30 hl (by decide) rfl (fun ls hl => ?_)
  exact w_X0_nameBy_32 O hr hlk FU _ _ _ _ _ _ h3 _ h _ _ _ hH (lv_sub hl [3, 6, 7, 2, 1, 0] rfl)
set_option maxHeartbeats 4000000 in
theorem c_X0_nameBy {l : Launch} {G : va_G} {tA : Nat → ClassId} {z : Nat} {E : Ex} {x1 : Int32} {r2 : Nat} {r3 : Nat} {n3 : Nat} {x4 : Int32} (h2 : isC10 r2) (h3 : LAY[r3]? = some (.inl (0, n3))) {D D' : Dm} {r : Int32} (h : f_X0_nameBy x1 r2 r3 n3 x4 D = some (r, D')) : CtI l yX0_nameBy cX0_nameBy 9 (some .boolean) G tA z E 1 0 0 [.ref (z + 76), .int x1, .ref (z + r2), .ref (z + r3), .int x4] LAY D r LAY D' :=
  ct_BI (by decide +kernel) (Nat.le_of_ble_eq_true rfl) (fun _ _ _ _ _ _ _ _ O hr hlk => w_X0_nameBy O hr hlk _ _ _ _ _ h2 h3 _ h)
set_option maxHeartbeats 4000000 in
theorem w_X0_answers_114 {G : va_G} {tA : Nat → ClassId} {z : Nat} {E : Ex} {p : Program} {l : Launch} {e : Env} {s : State} {m : MethodId} {args : Array Value} {below : List Frame} {meth : Method} {c : Code} {r : Int32} {D' : Dm} (O : Ok G tA z E cX0_answers RX0 9 p s m args c) (hr : meth.sig.returnType = some .int) (hlk : meth.locks = false) {k12 : Nat → Nat → Nat → Nat → Int32 → Int32 → Int32 → Int32 → Dm → Option (Int32 × Dm)} (hk12 : ∀ (r1 : Nat) (r2 : Nat) (r3 : Nat) (n3 : Nat) (x4 : Int32) (x5 : Int32) (x6 : Int32) (x7 : Int32) (h1 : isC1 r1) (h2 : isC10 r2) (h3 : LAY[r3]? = some (.inl (0, n3))) (D : Dm), k12 r1 r2 r3 n3 x4 x5 x6 x7 D = some (r, D') → BI G tA z E p l e (rmC 3 0 0) s m args below meth c LAY D r D' 9 12 [(0, .ref (z + 76)), (1, .ref (z + r1)), (2, .ref (z + r2)), (3, .ref (z + r3)), (4, .int x4), (5, .int x5), (6, .int x6), (7, .int x7)] []) (r1 : Nat) (r2 : Nat) (r3 : Nat) (n3 : Nat) (x4 : Int32) (x5 : Int32) (x6 : Int32) (x7 : Int32) (h1 : isC1 r1) (h2 : isC10 r2) (h3 : LAY[r3]? = some (.inl (0, n3))) (D : Dm) (h : f_X0_answers_114 k12 r1 r2 r3 n3 x4 x5 x6 x7 D = some (r, D')) : BI G tA z E p l e (rmC 3 0 0) s m args below meth c LAY D r D' 9 114 [(0, .ref (z + 76)), (1, .ref (z + r1)), (2, .ref (z + r2)), (3, .ref (z + r3)), (4, .int x4), (5, .int x5), (6, .int x6), (7, .int x7)] [] := by
  obtain ⟨hx, hb, -, hown, hts, -⟩ := id O
  unfold f_X0_answers_114 at h
  intro H locs ls hH hl
  obtain ⟨y1, e2, h⟩ := lt_some h
  refine lv_iinc (v := y1) (lv' := [(7, .int y1), (0, .ref (z + 76)), (1, .ref (z + r1)), (2, .ref (z + r2)), (3, .ref (z + r3)), (4, .int x4), (5, .int x5), (6, .int x6)]) hx hb dX0_answers_114 hl (k := 7) rfl (by rw [e2]; rfl) (by decide) rfl (fun ls hl => ?_)
  refine lv_goto (tgt := 12) hx hb dX0_answers_117 (by decide) ?_
  exact hk12 _ _ _ _ _ _ _ _ h1 h2 h3 _ h _ _ _ hH (lv_sub hl [1, 2, 3, 4, 5, 6, 7, 0] rfl)
set_option maxHeartbeats 4000000 in
theorem w_X0_answers_46_b {G : va_G} {tA : Nat → ClassId} {z : Nat} {E : Ex} {p : Program} {l : Launch} {e : Env} {s : State} {m : MethodId} {args : Array Value} {below : List Frame} {meth : Method} {c : Code} {r : Int32} {D' : Dm} (O : Ok G tA z E cX0_answers RX0 9 p s m args c) (hr : meth.sig.returnType = some .int) (hlk : meth.locks = false) {k12 : Nat → Nat → Nat → Nat → Int32 → Int32 → Int32 → Int32 → Dm → Option (Int32 × Dm)} (hk12 : ∀ (r1 : Nat) (r2 : Nat) (r3 : Nat) (n3 : Nat) (x4 : Int32) (x5 : Int32) (x6 : Int32) (x7 : Int32) (h1 : isC1 r1) (h2 : isC10 r2) (h3 : LAY[r3]? = some (.inl (0, n3))) (D : Dm), k12 r1 r2 r3 n3 x4 x5 x6 x7 D = some (r, D') → BI G tA z E p l e (rmC 3 0 0) s m args below meth c LAY D r D' 9 12 [(0, .ref (z + 76)), (1, .ref (z + r1)), (2, .ref (z + r2)), (3, .ref (z + r3)), (4, .int x4), (5, .int x5), (6, .int x6), (7, .int x7)] []) {k46 : Nat → Nat → Nat → Nat → Int32 → Int32 → Int32 → Int32 → Int32 → Dm → Option (Int32 × Dm)} (hk46 : ∀ (r1 : Nat) (r2 : Nat) (r3 : Nat) (n3 : Nat) (x4 : Int32) (x5 : Int32) (x6 : Int32) (x7 : Int32) (x8 : Int32) (h1 : isC1 r1) (h2 : isC10 r2) (h3 : LAY[r3]? = some (.inl (0, n3))) (D : Dm), k46 r1 r2 r3 n3 x4 x5 x6 x7 x8 D = some (r, D') → BI G tA z E p l e (rmC 3 0 0) s m args below meth c LAY D r D' 9 46 [(0, .ref (z + 76)), (1, .ref (z + r1)), (2, .ref (z + r2)), (3, .ref (z + r3)), (4, .int x4), (5, .int x5), (6, .int x6), (7, .int x7), (8, .int x8)] []) (r1 : Nat) (r2 : Nat) (r3 : Nat) (n3 : Nat) (x4 : Int32) (x5 : Int32) (x6 : Int32) (x7 : Int32) (x8 : Int32) (h1 : isC1 r1) (h2 : isC10 r2) (h3 : LAY[r3]? = some (.inl (0, n3))) (D : Dm) (h : f_X0_answers_46_b k12 k46 r1 r2 r3 n3 x4 x5 x6 x7 x8 D = some (r, D')) : BI G tA z E p l e (rmC 3 0 0) s m args below meth c LAY D r D' 9 46 [(0, .ref (z + 76)), (1, .ref (z + r1)), (2, .ref (z + r2)), (3, .ref (z + r3)), (4, .int x4), (5, .int x5), (6, .int x6), (7, .int x7), (8, .int x8)] [] := by
  obtain ⟨hx, hb, -, hown, hts, -⟩ := id O
  unfold f_X0_answers_46_b at h
  intro H locs ls hH hl
  refine lv_iload hx hb dX0_answers_46 (lv_at hl 8 rfl) ?_
  refine lv_aload_n hx hb dX0_answers_48 rfl (lv_at hl 2 rfl) ?_
  refine h_geti O hH h2.1 rfl fl_X0_61 dX0_answers_49 ?_
  refine lv_icmp_ge (tgt := 91) hx hb dX0_answers_52 (by decide) (fun c1 => ?_) (fun c1 => ?_)
  · have h := it_pos h c1
    refine lv_aload_n hx hb dX0_answers_91 rfl (lv_at hl 0 rfl) ?_
    refine h_getr O hH ly_76 rfl fl_X0_31 dX0_answers_92 ?_
    refine lv_aload_n hx hb dX0_answers_95 rfl (lv_at hl 0 rfl) ?_
    refine h_getr O hH ly_76 rfl fl_X0_27 dX0_answers_96 ?_
    obtain ⟨y4, D2, hc3, h⟩ := bI_some h
    refine h_callVi (As := [.ref (z + 80)]) (rest := []) O hH (c_X4_takes ic_9 ic_80 hc3) ml_X0_76 ly_9 rfl rfl hl.1 rfl ⟨Nat.le_of_ble_eq_true rfl, Nat.le_of_ble_eq_true rfl⟩ (Nat.le_of_ble_eq_true rfl) dX0_answers_99 (fun H locs hH => ?_)
    refine lv_if_eq (tgt := 114) hx hb dX0_answers_102 (by decide) (fun c5 => ?_) (fun c5 => ?_)
    · have h := it_pos h c5
      exact w_X0_answers_114 O hr hlk hk12 _ _ _ _ _ _ _ _ h1 h2 h3 _ h _ _ _ hH (lv_sub hl [0, 1, 2, 3, 4, 5, 6, 7] rfl)
    · have h := it_neg h c5
      refine lv_iload hx hb dX0_answers_105 (lv_at hl 5 rfl) ?_
      refine lv_iconst (v := 1) hx hb dX0_answers_107 (by decide) ?_
      refine lv_iload hx hb dX0_answers_108 (lv_at hl 7 rfl) ?_
      refine lv_ishl hx hb dX0_answers_110 ?_
      refine lv_ior hx hb dX0_answers_111 ?_
      refine lv_topi (fun y6 e7 => ?_)
      have h := lt_at e7 h
      refine lv_istore (lv' := [(5, .int y6), (0, .ref (z + 76)), (1, .ref (z + r1)), (2, .ref (z + r2)), (3, .ref (z + r3)), (4, .int x4), (6, .int x6), (7, .int x7), (8, .int x8)]) hx hb dX0_answers_112 hl (by decide) rfl (fun ls hl => ?_)
      exact w_X0_answers_114 O hr hlk hk12 _ _ _ _ _ _ _ _ h1 h2 h3 _ h _ _ _ hH (lv_sub hl [1, 2, 3, 4, 5, 0, 6, 7] rfl)
  · have h := it_neg h c1
    refine lv_aload_n hx hb dX0_answers_55 rfl (lv_at hl 0 rfl) ?_
    refine h_getr O hH ly_76 rfl fl_X0_31 dX0_answers_56 ?_
    refine lv_aload_n hx hb dX0_answers_59 rfl (lv_at hl 0 rfl) ?_
    refine h_getr O hH ly_76 rfl fl_X0_27 dX0_answers_60 ?_
    refine lv_aload_n hx hb dX0_answers_63 rfl (lv_at hl 2 rfl) ?_
    refine h_getr O hH h2.1 rfl fl_X0_64 dX0_answers_64 ?_
    refine lv_iload hx hb dX0_answers_67 (lv_at hl 8 rfl) ?_
    obtain ⟨g8, h⟩ := gd_some h
    refine h_iald O hH h2.2.1 g8 dX0_answers_69 ?_
    refine lv_aload_n hx hb dX0_answers_70 rfl (lv_at hl 0 rfl) ?_
    refine h_getr O hH ly_76 rfl fl_X0_17 dX0_answers_71 ?_
    refine lv_aload_n hx hb dX0_answers_74 rfl (lv_at hl 2 rfl) ?_
    refine h_getr O hH h2.1 rfl fl_X0_67 dX0_answers_75 ?_
    refine lv_iload hx hb dX0_answers_78 (lv_at hl 8 rfl) ?_
    obtain ⟨g9, h⟩ := gd_some h
    refine h_iald O hH h2.2.2.1 g9 dX0_answers_80 ?_
    obtain ⟨g10, h⟩ := gd_some h
    refine h_iald O hH ly_78 g10 dX0_answers_81 ?_
    obtain ⟨D11, hc12, h⟩ := bV_some h
    refine h_callVv (As := [.ref (z + 80), .int (D (r2 + 1) (Int32.toNatClampNeg x8)), .int (D 78 (Int32.toNatClampNeg (D (r2 + 2) (Int32.toNatClampNeg x8))))]) (rest := []) O hH (c_X4_advance ic_9 ic_80 hc12) ml_X0_70 ly_9 rfl rfl hl.1 rfl ⟨Nat.le_of_ble_eq_true rfl, Nat.le_of_ble_eq_true rfl⟩ (Nat.le_of_ble_eq_true rfl) dX0_answers_82 (fun H locs hH => ?_)
    obtain ⟨y13, e14, h⟩ := lt_some h
    refine lv_iinc (v := y13) (lv' := [(8, .int y13), (0, .ref (z + 76)), (1, .ref (z + r1)), (2, .ref (z + r2)), (3, .ref (z + r3)), (4, .int x4), (5, .int x5), (6, .int x6), (7, .int x7)]) hx hb dX0_answers_85 hl (k := 8) rfl (by rw [e14]; rfl) (by decide) rfl (fun ls hl => ?_)
    refine lv_goto (tgt := 46) hx hb dX0_answers_88 (by decide) ?_
    exact hk46 _ _ _ _ _ _ _ _ _ h1 h2 h3 _ h _ _ _ hH (lv_sub hl [1, 2, 3, 4, 5, 6, 7, 8, 0] rfl)
set_option maxHeartbeats 4000000 in
theorem w_X0_answers_46 {G : va_G} {tA : Nat → ClassId} {z : Nat} {E : Ex} {p : Program} {l : Launch} {e : Env} {s : State} {m : MethodId} {args : Array Value} {below : List Frame} {meth : Method} {c : Code} {r : Int32} {D' : Dm} (O : Ok G tA z E cX0_answers RX0 9 p s m args c) (hr : meth.sig.returnType = some .int) (hlk : meth.locks = false) {k12 : Nat → Nat → Nat → Nat → Int32 → Int32 → Int32 → Int32 → Dm → Option (Int32 × Dm)} (hk12 : ∀ (r1 : Nat) (r2 : Nat) (r3 : Nat) (n3 : Nat) (x4 : Int32) (x5 : Int32) (x6 : Int32) (x7 : Int32) (h1 : isC1 r1) (h2 : isC10 r2) (h3 : LAY[r3]? = some (.inl (0, n3))) (D : Dm), k12 r1 r2 r3 n3 x4 x5 x6 x7 D = some (r, D') → BI G tA z E p l e (rmC 3 0 0) s m args below meth c LAY D r D' 9 12 [(0, .ref (z + 76)), (1, .ref (z + r1)), (2, .ref (z + r2)), (3, .ref (z + r3)), (4, .int x4), (5, .int x5), (6, .int x6), (7, .int x7)] []) : ∀ (n : Nat) (r1 : Nat) (r2 : Nat) (r3 : Nat) (n3 : Nat) (x4 : Int32) (x5 : Int32) (x6 : Int32) (x7 : Int32) (x8 : Int32) (h1 : isC1 r1) (h2 : isC10 r2) (h3 : LAY[r3]? = some (.inl (0, n3))) (D : Dm) (h : f_X0_answers_46 k12 n r1 r2 r3 n3 x4 x5 x6 x7 x8 D = some (r, D')), BI G tA z E p l e (rmC 3 0 0) s m args below meth c LAY D r D' 9 46 [(0, .ref (z + 76)), (1, .ref (z + r1)), (2, .ref (z + r2)), (3, .ref (z + r3)), (4, .int x4), (5, .int x5), (6, .int x6), (7, .int x7), (8, .int x8)] [] := by
  intro n
  induction n with
  | zero => intro r1 r2 r3 n3 x4 x5 x6 x7 x8 h1 h2 h3 D h; exact no_some h
  | succ n ih => intro r1 r2 r3 n3 x4 x5 x6 x7 x8 h1 h2 h3 D h; exact w_X0_answers_46_b O hr hlk hk12 (fun r1 r2 r3 n3 x4 x5 x6 x7 x8 h1 h2 h3 D h => ih r1 r2 r3 n3 x4 x5 x6 x7 x8 h1 h2 h3 D h) r1 r2 r3 n3 x4 x5 x6 x7 x8 h1 h2 h3 D h
set_option maxHeartbeats 4000000 in
theorem w_X0_answers_12_b {G : va_G} {tA : Nat → ClassId} {z : Nat} {E : Ex} {p : Program} {l : Launch} {e : Env} {s : State} {m : MethodId} {args : Array Value} {below : List Frame} {meth : Method} {c : Code} {r : Int32} {D' : Dm} (O : Ok G tA z E cX0_answers RX0 9 p s m args c) (hr : meth.sig.returnType = some .int) (hlk : meth.locks = false) {k12 : Nat → Nat → Nat → Nat → Int32 → Int32 → Int32 → Int32 → Dm → Option (Int32 × Dm)} (hk12 : ∀ (r1 : Nat) (r2 : Nat) (r3 : Nat) (n3 : Nat) (x4 : Int32) (x5 : Int32) (x6 : Int32) (x7 : Int32) (h1 : isC1 r1) (h2 : isC10 r2) (h3 : LAY[r3]? = some (.inl (0, n3))) (D : Dm), k12 r1 r2 r3 n3 x4 x5 x6 x7 D = some (r, D') → BI G tA z E p l e (rmC 3 0 0) s m args below meth c LAY D r D' 9 12 [(0, .ref (z + 76)), (1, .ref (z + r1)), (2, .ref (z + r2)), (3, .ref (z + r3)), (4, .int x4), (5, .int x5), (6, .int x6), (7, .int x7)] []) (r1 : Nat) (r2 : Nat) (r3 : Nat) (n3 : Nat) (x4 : Int32) (x5 : Int32) (x6 : Int32) (x7 : Int32) (h1 : isC1 r1) (h2 : isC10 r2) (h3 : LAY[r3]? = some (.inl (0, n3))) (D : Dm) (h : f_X0_answers_12_b k12 r1 r2 r3 n3 x4 x5 x6 x7 D = some (r, D')) : BI G tA z E p l e (rmC 3 0 0) s m args below meth c LAY D r D' 9 12 [(0, .ref (z + 76)), (1, .ref (z + r1)), (2, .ref (z + r2)), (3, .ref (z + r3)), (4, .int x4), (5, .int x5), (6, .int x6), (7, .int x7)] [] := by
  obtain ⟨hx, hb, -, hown, hts, -⟩ := id O
  unfold f_X0_answers_12_b at h
  intro H locs ls hH hl
  refine lv_iload hx hb dX0_answers_12 (lv_at hl 7 rfl) ?_
  refine lv_iload hx hb dX0_answers_14 (lv_at hl 6 rfl) ?_
  refine lv_icmp_ge (tgt := 120) hx hb dX0_answers_16 (by decide) (fun c1 => ?_) (fun c1 => ?_)
  · have h := it_pos h c1
    refine lv_iload hx hb dX0_answers_120 (lv_at hl 5 rfl) ?_
    obtain ⟨rfl, rfl⟩ := ret_i h
    exact h_iret O hr hlk hH dX0_answers_122
  · have h := it_neg h c1
    refine lv_aload_n hx hb dX0_answers_19 rfl (lv_at hl 0 rfl) ?_
    refine lv_iload hx hb dX0_answers_20 (lv_at hl 7 rfl) ?_
    refine lv_aload_n hx hb dX0_answers_22 rfl (lv_at hl 2 rfl) ?_
    refine lv_aload_n hx hb dX0_answers_23 rfl (lv_at hl 3 rfl) ?_
    refine lv_iload hx hb dX0_answers_24 (lv_at hl 4 rfl) ?_
    obtain ⟨y4, D2, hc3, h⟩ := bI_some h
    refine h_callVi (As := [.int x7, .ref (z + r2), .ref (z + r3), .int x4]) (rest := []) O hH (c_X0_nameBy h2 h3 hc3) ml_X0_53 ly_76 rfl rfl hl.1 rfl ⟨Nat.le_of_ble_eq_true rfl, Nat.le_of_ble_eq_true rfl⟩ (Nat.le_of_ble_eq_true rfl) dX0_answers_26 (fun H locs hH => ?_)
    refine lv_if_ne (tgt := 35) hx hb dX0_answers_29 (by decide) (fun c5 => ?_) (fun c5 => ?_)
    · have h := it_neg h c5
      refine lv_aload_n hx hb dX0_answers_35 rfl (lv_at hl 0 rfl) ?_
      refine h_getr O hH ly_76 rfl fl_X0_27 dX0_answers_36 ?_
      refine lv_aload_n hx hb dX0_answers_39 rfl (lv_at hl 1 rfl) ?_
      obtain ⟨D6, hc7, h⟩ := bV_some h
      refine h_callVv (As := [.ref (z + r1)]) (rest := []) O hH (c_X1_copy ic_80 h1 hc7) ml_X0_57 ly_80 rfl rfl hl.1 rfl ⟨Nat.le_of_ble_eq_true rfl, Nat.le_of_ble_eq_true rfl⟩ (Nat.le_of_ble_eq_true rfl) dX0_answers_40 (fun H locs hH => ?_)
      refine lv_iconst (v := 0) hx hb dX0_answers_43 (by decide) ?_
      refine lv_istore (lv' := [(8, .int 0), (0, .ref (z + 76)), (1, .ref (z + r1)), (2, .ref (z + r2)), (3, .ref (z + r3)), (4, .int x4), (5, .int x5), (6, .int x6), (7, .int x7)]) hx hb dX0_answers_44 hl (by decide) rfl (fun ls hl => ?_)
      exact w_X0_answers_46 O hr hlk hk12 FU _ _ _ _ _ _ _ _ _ h1 h2 h3 _ h _ _ _ hH (lv_sub hl [1, 2, 3, 4, 5, 6, 7, 8, 0] rfl)
    · have h := it_pos h c5
      refine lv_goto (tgt := 114) hx hb dX0_answers_32 (by decide) ?_
      exact w_X0_answers_114 O hr hlk hk12 _ _ _ _ _ _ _ _ h1 h2 h3 _ h _ _ _ hH (lv_sub hl [0, 1, 2, 3, 4, 5, 6, 7] rfl)
set_option maxHeartbeats 4000000 in
theorem w_X0_answers_12 {G : va_G} {tA : Nat → ClassId} {z : Nat} {E : Ex} {p : Program} {l : Launch} {e : Env} {s : State} {m : MethodId} {args : Array Value} {below : List Frame} {meth : Method} {c : Code} {r : Int32} {D' : Dm} (O : Ok G tA z E cX0_answers RX0 9 p s m args c) (hr : meth.sig.returnType = some .int) (hlk : meth.locks = false) : ∀ (n : Nat) (r1 : Nat) (r2 : Nat) (r3 : Nat) (n3 : Nat) (x4 : Int32) (x5 : Int32) (x6 : Int32) (x7 : Int32) (h1 : isC1 r1) (h2 : isC10 r2) (h3 : LAY[r3]? = some (.inl (0, n3))) (D : Dm) (h : f_X0_answers_12 n r1 r2 r3 n3 x4 x5 x6 x7 D = some (r, D')), BI G tA z E p l e (rmC 3 0 0) s m args below meth c LAY D r D' 9 12 [(0, .ref (z + 76)), (1, .ref (z + r1)), (2, .ref (z + r2)), (3, .ref (z + r3)), (4, .int x4), (5, .int x5), (6, .int x6), (7, .int x7)] [] := by
  intro n
  induction n with
  | zero => intro r1 r2 r3 n3 x4 x5 x6 x7 h1 h2 h3 D h; exact no_some h
  | succ n ih => intro r1 r2 r3 n3 x4 x5 x6 x7 h1 h2 h3 D h; exact w_X0_answers_12_b O hr hlk (fun r1 r2 r3 n3 x4 x5 x6 x7 h1 h2 h3 D h => ih r1 r2 r3 n3 x4 x5 x6 x7 h1 h2 h3 D h) r1 r2 r3 n3 x4 x5 x6 x7 h1 h2 h3 D h
set_option maxHeartbeats 4000000 in
theorem w_X0_answers {G : va_G} {tA : Nat → ClassId} {z : Nat} {E : Ex} {p : Program} {l : Launch} {e : Env} {s : State} {m : MethodId} {args : Array Value} {below : List Frame} {meth : Method} {c : Code} {r : Int32} {D' : Dm} (O : Ok G tA z E cX0_answers RX0 9 p s m args c) (hr : meth.sig.returnType = some .int) (hlk : meth.locks = false) (r1 : Nat) (r2 : Nat) (r3 : Nat) (n3 : Nat) (x4 : Int32) (h1 : isC1 r1) (h2 : isC10 r2) (h3 : LAY[r3]? = some (.inl (0, n3))) (D : Dm) (h : f_X0_answers r1 r2 r3 n3 x4 D = some (r, D')) : BI G tA z E p l e (rmC 3 0 0) s m args below meth c LAY D r D' 9 0 [(0, .ref (z + 76)), (1, .ref (z + r1)), (2, .ref (z + r2)), (3, .ref (z + r3)), (4, .int x4)] [] := by
  obtain ⟨hx, hb, -, hown, hts, -⟩ := id O
  unfold f_X0_answers at h
  intro H locs ls hH hl
  refine lv_iconst (v := 0) hx hb dX0_answers_0 (by decide) ?_
  refine lv_istore (lv' := [(5, .int 0), (0, .ref (z + 76)), (1, .ref (z + r1)), (2, .ref (z + r2)), (3, .ref (z + r3)), (4, .int x4)]) hx hb dX0_answers_1 hl (by decide) rfl (fun ls hl => ?_)
  refine lv_aload_n hx hb dX0_answers_3 rfl (lv_at hl 3 rfl) ?_
  obtain ⟨y3, D1, hc2, h⟩ := bI_some h
  refine h_callSi (As := [.ref (z + r2)]) (rest := []) O hH (c_X0_countInstances h2 hc2) ml_X0_49 rfl hl.1 rfl ⟨Nat.le_of_ble_eq_true rfl, Nat.le_of_ble_eq_true rfl⟩ (Nat.le_of_ble_eq_true rfl) dX0_answers_4 (fun H locs hH => ?_)
  refine lv_istore (lv' := [(6, .int y3), (5, .int 0), (0, .ref (z + 76)), (1, .ref (z + r1)), (2, .ref (z + r2)), (3, .ref (z + r3)), (4, .int x4)]) hx hb dX0_answers_7 hl (by decide) rfl (fun ls hl => ?_)
  refine lv_iconst (v := 0) hx hb dX0_answers_9 (by decide) ?_
  refine lv_istore (lv' := [(7, .int 0), (6, .int y3), (5, .int 0), (0, .ref (z + 76)), (1, .ref (z + r1)), (2, .ref (z + r2)), (3, .ref (z + r3)), (4, .int x4)]) hx hb dX0_answers_10 hl (by decide) rfl (fun ls hl => ?_)
  exact w_X0_answers_12 O hr hlk FU _ _ _ _ _ _ _ _ h1 h2 h3 _ h _ _ _ hH (lv_sub hl [3, 4, 5, 6, 7, 2, 1, 0] rfl)
set_option maxHeartbeats 4000000 in
theorem c_X0_answers {l : Launch} {G : va_G} {tA : Nat → ClassId} {z : Nat} {E : Ex} {r1 : Nat} {r2 : Nat} {r3 : Nat} {n3 : Nat} {x4 : Int32} (h1 : isC1 r1) (h2 : isC10 r2) (h3 : LAY[r3]? = some (.inl (0, n3))) {D D' : Dm} {r : Int32} (h : f_X0_answers r1 r2 r3 n3 x4 D = some (r, D')) : CtI l yX0_answers cX0_answers 9 (some .int) G tA z E 3 0 0 [.ref (z + 76), .ref (z + r1), .ref (z + r2), .ref (z + r3), .int x4] LAY D r LAY D' :=
  ct_BI (by decide +kernel) (Nat.le_of_ble_eq_true rfl) (fun _ _ _ _ _ _ _ _ O hr hlk => w_X0_answers O hr hlk _ _ _ _ _ h1 h2 h3 _ h)
set_option maxHeartbeats 4000000 in
theorem w_X0_firstShowing_70 {G : va_G} {tA : Nat → ClassId} {z : Nat} {E : Ex} {p : Program} {l : Launch} {e : Env} {s : State} {m : MethodId} {args : Array Value} {below : List Frame} {meth : Method} {c : Code} {r : Int32} {D' : Dm} (O : Ok G tA z E cX0_firstShowing RX0 9 p s m args c) (hr : meth.sig.returnType = some .int) (hlk : meth.locks = false) {k9 : Int32 → Nat → Int32 → Nat → Nat → Int32 → Int32 → Int32 → Dm → Option (Int32 × Dm)} (hk9 : ∀ (x1 : Int32) (r2 : Nat) (x3 : Int32) (r4 : Nat) (n4 : Nat) (x5 : Int32) (x6 : Int32) (x7 : Int32) (h2 : isC10 r2) (h4 : LAY[r4]? = some (.inl (0, n4))) (D : Dm), k9 x1 r2 x3 r4 n4 x5 x6 x7 D = some (r, D') → BI G tA z E p l e (rmC 2 0 0) s m args below meth c LAY D r D' 9 9 [(0, .ref (z + 76)), (1, .int x1), (2, .ref (z + r2)), (3, .int x3), (4, .ref (z + r4)), (5, .int x5), (6, .int x6), (7, .int x7)] []) (x1 : Int32) (r2 : Nat) (x3 : Int32) (r4 : Nat) (n4 : Nat) (x5 : Int32) (x6 : Int32) (x7 : Int32) (h2 : isC10 r2) (h4 : LAY[r4]? = some (.inl (0, n4))) (D : Dm) (h : f_X0_firstShowing_70 k9 x1 r2 x3 r4 n4 x5 x6 x7 D = some (r, D')) : BI G tA z E p l e (rmC 2 0 0) s m args below meth c LAY D r D' 9 70 [(0, .ref (z + 76)), (1, .int x1), (2, .ref (z + r2)), (3, .int x3), (4, .ref (z + r4)), (5, .int x5), (6, .int x6), (7, .int x7)] [] := by
  obtain ⟨hx, hb, -, hown, hts, -⟩ := id O
  unfold f_X0_firstShowing_70 at h
  intro H locs ls hH hl
  obtain ⟨y1, e2, h⟩ := lt_some h
  refine lv_iinc (v := y1) (lv' := [(7, .int y1), (0, .ref (z + 76)), (1, .int x1), (2, .ref (z + r2)), (3, .int x3), (4, .ref (z + r4)), (5, .int x5), (6, .int x6)]) hx hb dX0_firstShowing_70 hl (k := 7) rfl (by rw [e2]; rfl) (by decide) rfl (fun ls hl => ?_)
  refine lv_goto (tgt := 9) hx hb dX0_firstShowing_73 (by decide) ?_
  exact hk9 _ _ _ _ _ _ _ _ h2 h4 _ h _ _ _ hH (lv_sub hl [1, 2, 3, 4, 5, 6, 7, 0] rfl)
set_option maxHeartbeats 4000000 in
theorem w_X0_firstShowing_9_b {G : va_G} {tA : Nat → ClassId} {z : Nat} {E : Ex} {p : Program} {l : Launch} {e : Env} {s : State} {m : MethodId} {args : Array Value} {below : List Frame} {meth : Method} {c : Code} {r : Int32} {D' : Dm} (O : Ok G tA z E cX0_firstShowing RX0 9 p s m args c) (hr : meth.sig.returnType = some .int) (hlk : meth.locks = false) {k9 : Int32 → Nat → Int32 → Nat → Nat → Int32 → Int32 → Int32 → Dm → Option (Int32 × Dm)} (hk9 : ∀ (x1 : Int32) (r2 : Nat) (x3 : Int32) (r4 : Nat) (n4 : Nat) (x5 : Int32) (x6 : Int32) (x7 : Int32) (h2 : isC10 r2) (h4 : LAY[r4]? = some (.inl (0, n4))) (D : Dm), k9 x1 r2 x3 r4 n4 x5 x6 x7 D = some (r, D') → BI G tA z E p l e (rmC 2 0 0) s m args below meth c LAY D r D' 9 9 [(0, .ref (z + 76)), (1, .int x1), (2, .ref (z + r2)), (3, .int x3), (4, .ref (z + r4)), (5, .int x5), (6, .int x6), (7, .int x7)] []) (x1 : Int32) (r2 : Nat) (x3 : Int32) (r4 : Nat) (n4 : Nat) (x5 : Int32) (x6 : Int32) (x7 : Int32) (h2 : isC10 r2) (h4 : LAY[r4]? = some (.inl (0, n4))) (D : Dm) (h : f_X0_firstShowing_9_b k9 x1 r2 x3 r4 n4 x5 x6 x7 D = some (r, D')) : BI G tA z E p l e (rmC 2 0 0) s m args below meth c LAY D r D' 9 9 [(0, .ref (z + 76)), (1, .int x1), (2, .ref (z + r2)), (3, .int x3), (4, .ref (z + r4)), (5, .int x5), (6, .int x6), (7, .int x7)] [] := by
  obtain ⟨hx, hb, -, hown, hts, -⟩ := id O
  unfold f_X0_firstShowing_9_b at h
  intro H locs ls hH hl
  refine lv_iload hx hb dX0_firstShowing_9 (lv_at hl 7 rfl) ?_
  refine lv_iload hx hb dX0_firstShowing_11 (lv_at hl 6 rfl) ?_
  refine lv_icmp_ge (tgt := 76) hx hb dX0_firstShowing_13 (by decide) (fun c1 => ?_) (fun c1 => ?_)
  · have h := it_pos h c1
    refine lv_iconst (v := (-1)) hx hb dX0_firstShowing_76 (by decide) ?_
    obtain ⟨rfl, rfl⟩ := ret_i h
    exact h_iret O hr hlk hH dX0_firstShowing_77
  · have h := it_neg h c1
    refine lv_aload_n hx hb dX0_firstShowing_16 rfl (lv_at hl 0 rfl) ?_
    refine lv_iload hx hb dX0_firstShowing_17 (lv_at hl 7 rfl) ?_
    refine lv_aload_n hx hb dX0_firstShowing_19 rfl (lv_at hl 2 rfl) ?_
    refine lv_aload hx hb dX0_firstShowing_20 (lv_at hl 4 rfl) ?_
    refine lv_iload hx hb dX0_firstShowing_22 (lv_at hl 5 rfl) ?_
    obtain ⟨y4, D2, hc3, h⟩ := bI_some h
    refine h_callVi (As := [.int x7, .ref (z + r2), .ref (z + r4), .int x5]) (rest := []) O hH (c_X0_nameBy h2 h4 hc3) ml_X0_53 ly_76 rfl rfl hl.1 rfl ⟨Nat.le_of_ble_eq_true rfl, Nat.le_of_ble_eq_true rfl⟩ (Nat.le_of_ble_eq_true rfl) dX0_firstShowing_24 (fun H locs hH => ?_)
    refine lv_if_eq (tgt := 70) hx hb dX0_firstShowing_27 (by decide) (fun c5 => ?_) (fun c5 => ?_)
    · have h := it_pos h c5
      exact w_X0_firstShowing_70 O hr hlk hk9 _ _ _ _ _ _ _ _ h2 h4 _ h _ _ _ hH (lv_sub hl [0, 1, 2, 3, 4, 5, 6, 7] rfl)
    · have h := it_neg h c5
      refine lv_aload_n hx hb dX0_firstShowing_30 rfl (lv_at hl 0 rfl) ?_
      refine h_getr O hH ly_76 rfl fl_X0_21 dX0_firstShowing_31 ?_
      refine lv_iload_n hx hb dX0_firstShowing_34 rfl (lv_at hl 3 rfl) ?_
      obtain ⟨g6, h⟩ := gd_some h
      refine h_iald O hH ly_79 g6 dX0_firstShowing_35 ?_
      refine lv_if_eq (tgt := 70) hx hb dX0_firstShowing_36 (by decide) (fun c7 => ?_) (fun c7 => ?_)
      · have h := it_pos h c7
        exact w_X0_firstShowing_70 O hr hlk hk9 _ _ _ _ _ _ _ _ h2 h4 _ h _ _ _ hH (lv_sub hl [0, 1, 2, 3, 4, 5, 6, 7] rfl)
      · have h := it_neg h c7
        refine lv_iload hx hb dX0_firstShowing_39 (lv_at hl 7 rfl) ?_
        refine lv_iload_n hx hb dX0_firstShowing_41 rfl (lv_at hl 3 rfl) ?_
        refine lv_aload_n hx hb dX0_firstShowing_42 rfl (lv_at hl 0 rfl) ?_
        refine h_getr O hH ly_76 rfl fl_X0_21 dX0_firstShowing_43 ?_
        refine lv_iload_n hx hb dX0_firstShowing_46 rfl (lv_at hl 3 rfl) ?_
        obtain ⟨g8, h⟩ := gd_some h
        refine h_iald O hH ly_79 g8 dX0_firstShowing_47 ?_
        refine lv_imul hx hb dX0_firstShowing_48 ?_
        refine lv_isub hx hb dX0_firstShowing_49 ?_
        refine lv_topi (fun y9 e10 => ?_)
        have h := lt_at e10 h
        refine lv_istore (lv' := [(8, .int y9), (0, .ref (z + 76)), (1, .int x1), (2, .ref (z + r2)), (3, .int x3), (4, .ref (z + r4)), (5, .int x5), (6, .int x6), (7, .int x7)]) hx hb dX0_firstShowing_50 hl (by decide) rfl (fun ls hl => ?_)
        refine lv_iload_n hx hb dX0_firstShowing_52 rfl (lv_at hl 2 rfl) ?_
        refine lv_iload hx hb dX0_firstShowing_53 (lv_at hl 8 rfl) ?_
        refine lv_ishr hx hb dX0_firstShowing_55 ?_
        refine lv_iconst (v := 1) hx hb dX0_firstShowing_56 (by decide) ?_
        refine lv_iand hx hb dX0_firstShowing_57 ?_
        refine lv_iload_n hx hb dX0_firstShowing_58 rfl (lv_at hl 2 rfl) ?_
        refine lv_iload hx hb dX0_firstShowing_59 (lv_at hl 0 rfl) ?_
        refine lv_ishr hx hb dX0_firstShowing_61 ?_
        refine lv_iconst (v := 1) hx hb dX0_firstShowing_62 (by decide) ?_
        refine lv_iand hx hb dX0_firstShowing_63 ?_
        refine lv_icmp_eq (tgt := 70) hx hb dX0_firstShowing_64 (by decide) (fun c11 => ?_) (fun c11 => ?_)
        · have h := it_pos h c11
          exact w_X0_firstShowing_70 O hr hlk hk9 _ _ _ _ _ _ _ _ h2 h4 _ h _ _ _ hH (lv_sub hl [1, 2, 3, 4, 5, 6, 7, 8] rfl)
        · have h := it_neg h c11
          refine lv_iload hx hb dX0_firstShowing_67 (lv_at hl 8 rfl) ?_
          obtain ⟨rfl, rfl⟩ := ret_i h
          exact h_iret O hr hlk hH dX0_firstShowing_69
set_option maxHeartbeats 4000000 in
theorem w_X0_firstShowing_9 {G : va_G} {tA : Nat → ClassId} {z : Nat} {E : Ex} {p : Program} {l : Launch} {e : Env} {s : State} {m : MethodId} {args : Array Value} {below : List Frame} {meth : Method} {c : Code} {r : Int32} {D' : Dm} (O : Ok G tA z E cX0_firstShowing RX0 9 p s m args c) (hr : meth.sig.returnType = some .int) (hlk : meth.locks = false) : ∀ (n : Nat) (x1 : Int32) (r2 : Nat) (x3 : Int32) (r4 : Nat) (n4 : Nat) (x5 : Int32) (x6 : Int32) (x7 : Int32) (h2 : isC10 r2) (h4 : LAY[r4]? = some (.inl (0, n4))) (D : Dm) (h : f_X0_firstShowing_9 n x1 r2 x3 r4 n4 x5 x6 x7 D = some (r, D')), BI G tA z E p l e (rmC 2 0 0) s m args below meth c LAY D r D' 9 9 [(0, .ref (z + 76)), (1, .int x1), (2, .ref (z + r2)), (3, .int x3), (4, .ref (z + r4)), (5, .int x5), (6, .int x6), (7, .int x7)] [] := by
  intro n
  induction n with
  | zero => intro x1 r2 x3 r4 n4 x5 x6 x7 h2 h4 D h; exact no_some h
  | succ n ih => intro x1 r2 x3 r4 n4 x5 x6 x7 h2 h4 D h; exact w_X0_firstShowing_9_b O hr hlk (fun x1 r2 x3 r4 n4 x5 x6 x7 h2 h4 D h => ih x1 r2 x3 r4 n4 x5 x6 x7 h2 h4 D h) x1 r2 x3 r4 n4 x5 x6 x7 h2 h4 D h
set_option maxHeartbeats 4000000 in
theorem w_X0_firstShowing {G : va_G} {tA : Nat → ClassId} {z : Nat} {E : Ex} {p : Program} {l : Launch} {e : Env} {s : State} {m : MethodId} {args : Array Value} {below : List Frame} {meth : Method} {c : Code} {r : Int32} {D' : Dm} (O : Ok G tA z E cX0_firstShowing RX0 9 p s m args c) (hr : meth.sig.returnType = some .int) (hlk : meth.locks = false) (x1 : Int32) (r2 : Nat) (x3 : Int32) (r4 : Nat) (n4 : Nat) (x5 : Int32) (h2 : isC10 r2) (h4 : LAY[r4]? = some (.inl (0, n4))) (D : Dm) (h : f_X0_firstShowing x1 r2 x3 r4 n4 x5 D = some (r, D')) : BI G tA z E p l e (rmC 2 0 0) s m args below meth c LAY D r D' 9 0 [(0, .ref (z + 76)), (1, .int x1), (2, .ref (z + r2)), (3, .int x3), (4, .ref (z + r4)), (5, .int x5)] [] := by
  obtain ⟨hx, hb, -, hown, hts, -⟩ := id O
  unfold f_X0_firstShowing at h
  intro H locs ls hH hl
  refine lv_aload_n hx hb dX0_firstShowing_0 rfl (lv_at hl 2 rfl) ?_
  obtain ⟨y3, D1, hc2, h⟩ := bI_some h
  refine h_callSi (As := [.ref (z + r2)]) (rest := []) O hH (c_X0_countInstances h2 hc2) ml_X0_49 rfl hl.1 rfl ⟨Nat.le_of_ble_eq_true rfl, Nat.le_of_ble_eq_true rfl⟩ (Nat.le_of_ble_eq_true rfl) dX0_firstShowing_1 (fun H locs hH => ?_)
  refine lv_istore (lv' := [(6, .int y3), (0, .ref (z + 76)), (1, .int x1), (2, .ref (z + r2)), (3, .int x3), (4, .ref (z + r4)), (5, .int x5)]) hx hb dX0_firstShowing_4 hl (by decide) rfl (fun ls hl => ?_)
  refine lv_iconst (v := 0) hx hb dX0_firstShowing_6 (by decide) ?_
  refine lv_istore (lv' := [(7, .int 0), (6, .int y3), (0, .ref (z + 76)), (1, .int x1), (2, .ref (z + r2)), (3, .int x3), (4, .ref (z + r4)), (5, .int x5)]) hx hb dX0_firstShowing_7 hl (by decide) rfl (fun ls hl => ?_)
  exact w_X0_firstShowing_9 O hr hlk FU _ _ _ _ _ _ _ _ h2 h4 _ h _ _ _ hH (lv_sub hl [2, 3, 4, 5, 6, 7, 1, 0] rfl)
set_option maxHeartbeats 4000000 in
theorem c_X0_firstShowing {l : Launch} {G : va_G} {tA : Nat → ClassId} {z : Nat} {E : Ex} {x1 : Int32} {r2 : Nat} {x3 : Int32} {r4 : Nat} {n4 : Nat} {x5 : Int32} (h2 : isC10 r2) (h4 : LAY[r4]? = some (.inl (0, n4))) {D D' : Dm} {r : Int32} (h : f_X0_firstShowing x1 r2 x3 r4 n4 x5 D = some (r, D')) : CtI l yX0_firstShowing cX0_firstShowing 9 (some .int) G tA z E 2 0 0 [.ref (z + 76), .int x1, .ref (z + r2), .int x3, .ref (z + r4), .int x5] LAY D r LAY D' :=
  ct_BI (by decide +kernel) (Nat.le_of_ble_eq_true rfl) (fun _ _ _ _ _ _ _ _ O hr hlk => w_X0_firstShowing O hr hlk _ _ _ _ _ _ h2 h4 _ h)
