theorem dX12_fault_0 : decode cX12_fault 0 = .ok (.aload_n 0, 1) := by decide +kernel
theorem dX12_fault_1 : decode cX12_fault 1 = .ok (.iconst 0, 1) := by decide +kernel
theorem dX12_fault_2 : decode cX12_fault 2 = .ok (.putfield 1, 3) := by decide +kernel
theorem dX12_fault_5 : decode cX12_fault 5 = .ok (.iload_n 1, 1) := by decide +kernel
theorem dX12_fault_6 : decode cX12_fault 6 = .ok (.ifCond .ne 10, 3) := by decide +kernel
theorem dX12_fault_9 : decode cX12_fault 9 = .ok (.aload_n 0, 1) := by decide +kernel
theorem dX12_fault_10 : decode cX12_fault 10 = .ok (.getfield 168, 3) := by decide +kernel
theorem dX12_fault_13 : decode cX12_fault 13 = .ok (.goto 16, 3) := by decide +kernel
theorem dX12_fault_16 : decode cX12_fault 16 = .ok (.iload_n 1, 1) := by decide +kernel
theorem dX12_fault_17 : decode cX12_fault 17 = .ok (.iconst 1, 1) := by decide +kernel
theorem dX12_fault_18 : decode cX12_fault 18 = .ok (.if_icmp .ne 10, 3) := by decide +kernel
theorem dX12_fault_21 : decode cX12_fault 21 = .ok (.aload_n 0, 1) := by decide +kernel
theorem dX12_fault_22 : decode cX12_fault 22 = .ok (.getfield 24, 3) := by decide +kernel
theorem dX12_fault_25 : decode cX12_fault 25 = .ok (.goto 4, 3) := by decide +kernel
theorem dX12_fault_28 : decode cX12_fault 28 = .ok (.iconst (-1), 1) := by decide +kernel
theorem dX12_fault_29 : decode cX12_fault 29 = .ok (.ireturn, 1) := by decide +kernel
theorem dX12_accept_0 : decode cX12_accept 0 = .ok (.aload_n 0, 1) := by decide +kernel
theorem dX12_accept_1 : decode cX12_accept 1 = .ok (.iconst 0, 1) := by decide +kernel
theorem dX12_accept_2 : decode cX12_accept 2 = .ok (.putfield 1, 3) := by decide +kernel
theorem dX12_accept_5 : decode cX12_accept 5 = .ok (.iload_n 1, 1) := by decide +kernel
theorem dX12_accept_6 : decode cX12_accept 6 = .ok (.invokestatic 243, 3) := by decide +kernel
theorem dX12_accept_9 : decode cX12_accept 9 = .ok (.ifCond .eq 21, 3) := by decide +kernel
theorem dX12_accept_12 : decode cX12_accept 12 = .ok (.iload_n 2, 1) := by decide +kernel
theorem dX12_accept_13 : decode cX12_accept 13 = .ok (.i2l, 1) := by decide +kernel
theorem dX12_accept_14 : decode cX12_accept 14 = .ok (.lconst 0, 1) := by decide +kernel
theorem dX12_accept_15 : decode cX12_accept 15 = .ok (.aload_n 0, 1) := by decide +kernel
theorem dX12_accept_16 : decode cX12_accept 16 = .ok (.iload_n 1, 1) := by decide +kernel
theorem dX12_accept_17 : decode cX12_accept 17 = .ok (.iconst 0, 1) := by decide +kernel
theorem dX12_accept_18 : decode cX12_accept 18 = .ok (.invokevirtual 155, 3) := by decide +kernel
theorem dX12_accept_21 : decode cX12_accept 21 = .ok (.iconst 1, 1) := by decide +kernel
theorem dX12_accept_22 : decode cX12_accept 22 = .ok (.isub, 1) := by decide +kernel
theorem dX12_accept_23 : decode cX12_accept 23 = .ok (.i2l, 1) := by decide +kernel
theorem dX12_accept_24 : decode cX12_accept 24 = .ok (.invokestatic 182, 3) := by decide +kernel
theorem dX12_accept_27 : decode cX12_accept 27 = .ok (.ifCond .ne 6, 3) := by decide +kernel
theorem dX12_accept_30 : decode cX12_accept 30 = .ok (.bipush (-2), 2) := by decide +kernel
theorem dX12_accept_32 : decode cX12_accept 32 = .ok (.ireturn, 1) := by decide +kernel
theorem dX12_accept_33 : decode cX12_accept 33 = .ok (.iload_n 3, 1) := by decide +kernel
theorem dX12_accept_34 : decode cX12_accept 34 = .ok (.i2l, 1) := by decide +kernel
theorem dX12_accept_35 : decode cX12_accept 35 = .ok (.lconst 0, 1) := by decide +kernel
theorem dX12_accept_36 : decode cX12_accept 36 = .ok (.lconst 1, 1) := by decide +kernel
theorem dX12_accept_37 : decode cX12_accept 37 = .ok (.invokestatic 182, 3) := by decide +kernel
theorem dX12_accept_40 : decode cX12_accept 40 = .ok (.ifCond .ne 6, 3) := by decide +kernel
theorem dX12_accept_43 : decode cX12_accept 43 = .ok (.bipush (-3), 2) := by decide +kernel
theorem dX12_accept_45 : decode cX12_accept 45 = .ok (.ireturn, 1) := by decide +kernel
theorem dX12_accept_46 : decode cX12_accept 46 = .ok (.aload_n 0, 1) := by decide +kernel
theorem dX12_accept_47 : decode cX12_accept 47 = .ok (.iload_n 1, 1) := by decide +kernel
theorem dX12_accept_48 : decode cX12_accept 48 = .ok (.iconst 3, 1) := by decide +kernel
theorem dX12_accept_49 : decode cX12_accept 49 = .ok (.invokevirtual 155, 3) := by decide +kernel
theorem dX12_accept_52 : decode cX12_accept 52 = .ok (.iload_n 2, 1) := by decide +kernel
theorem dX12_accept_53 : decode cX12_accept 53 = .ok (.ishr, 1) := by decide +kernel
theorem dX12_accept_54 : decode cX12_accept 54 = .ok (.iconst 1, 1) := by decide +kernel
theorem dX12_accept_55 : decode cX12_accept 55 = .ok (.iand, 1) := by decide +kernel
theorem dX12_accept_56 : decode cX12_accept 56 = .ok (.istore 4, 2) := by decide +kernel
theorem dX12_accept_58 : decode cX12_accept 58 = .ok (.iload 4, 2) := by decide +kernel
theorem dX12_accept_60 : decode cX12_accept 60 = .ok (.iload_n 3, 1) := by decide +kernel
theorem dX12_accept_61 : decode cX12_accept 61 = .ok (.if_icmp .ne 6, 3) := by decide +kernel
theorem dX12_accept_64 : decode cX12_accept 64 = .ok (.iload 4, 2) := by decide +kernel
theorem dX12_accept_66 : decode cX12_accept 66 = .ok (.ireturn, 1) := by decide +kernel
theorem dX12_accept_67 : decode cX12_accept 67 = .ok (.aload_n 0, 1) := by decide +kernel
theorem dX12_accept_68 : decode cX12_accept 68 = .ok (.getfield 13, 3) := by decide +kernel
theorem dX12_accept_71 : decode cX12_accept 71 = .ok (.bipush 94, 2) := by decide +kernel
theorem dX12_accept_73 : decode cX12_accept 73 = .ok (.iload_n 1, 1) := by decide +kernel
theorem dX12_accept_74 : decode cX12_accept 74 = .ok (.imul, 1) := by decide +kernel
theorem dX12_accept_75 : decode cX12_accept 75 = .ok (.iconst 3, 1) := by decide +kernel
theorem dX12_accept_76 : decode cX12_accept 76 = .ok (.iadd, 1) := by decide +kernel
theorem dX12_accept_77 : decode cX12_accept 77 = .ok (.dup2, 1) := by decide +kernel
theorem dX12_accept_78 : decode cX12_accept 78 = .ok (.iaload, 1) := by decide +kernel
theorem dX12_accept_79 : decode cX12_accept 79 = .ok (.iconst 1, 1) := by decide +kernel
theorem dX12_accept_80 : decode cX12_accept 80 = .ok (.iload_n 2, 1) := by decide +kernel
theorem dX12_accept_81 : decode cX12_accept 81 = .ok (.ishl, 1) := by decide +kernel
theorem dX12_accept_82 : decode cX12_accept 82 = .ok (.ixor, 1) := by decide +kernel
theorem dX12_accept_83 : decode cX12_accept 83 = .ok (.iastore, 1) := by decide +kernel
theorem dX12_accept_84 : decode cX12_accept 84 = .ok (.iload_n 1, 1) := by decide +kernel
theorem dX12_accept_85 : decode cX12_accept 85 = .ok (.ifCond .ne 7, 3) := by decide +kernel
theorem dX12_accept_88 : decode cX12_accept 88 = .ok (.aload_n 0, 1) := by decide +kernel
theorem dX12_accept_89 : decode cX12_accept 89 = .ok (.invokevirtual 132, 3) := by decide +kernel
theorem dX12_accept_92 : decode cX12_accept 92 = .ok (.iload 4, 2) := by decide +kernel
theorem dX12_accept_94 : decode cX12_accept 94 = .ok (.ireturn, 1) := by decide +kernel
theorem dX12_isRegister_0 : decode cX12_isRegister 0 = .ok (.iload_n 2, 1) := by decide +kernel
theorem dX12_isRegister_1 : decode cX12_isRegister 1 = .ok (.i2l, 1) := by decide +kernel
theorem dX12_isRegister_2 : decode cX12_isRegister 2 = .ok (.lconst 0, 1) := by decide +kernel
theorem dX12_isRegister_3 : decode cX12_isRegister 3 = .ok (.aload_n 0, 1) := by decide +kernel
theorem dX12_isRegister_4 : decode cX12_isRegister 4 = .ok (.iload_n 1, 1) := by decide +kernel
theorem dX12_isRegister_5 : decode cX12_isRegister 5 = .ok (.iconst 1, 1) := by decide +kernel
theorem dX12_isRegister_6 : decode cX12_isRegister 6 = .ok (.invokevirtual 155, 3) := by decide +kernel
theorem dX12_isRegister_9 : decode cX12_isRegister 9 = .ok (.iconst 1, 1) := by decide +kernel
theorem dX12_isRegister_10 : decode cX12_isRegister 10 = .ok (.isub, 1) := by decide +kernel
theorem dX12_isRegister_11 : decode cX12_isRegister 11 = .ok (.i2l, 1) := by decide +kernel
theorem dX12_isRegister_12 : decode cX12_isRegister 12 = .ok (.invokestatic 182, 3) := by decide +kernel
theorem dX12_isRegister_15 : decode cX12_isRegister 15 = .ok (.ireturn, 1) := by decide +kernel
theorem dX12_isMove_0 : decode cX12_isMove 0 = .ok (.iload_n 1, 1) := by decide +kernel
theorem dX12_isMove_1 : decode cX12_isMove 1 = .ok (.invokestatic 243, 3) := by decide +kernel
theorem dX12_isMove_4 : decode cX12_isMove 4 = .ok (.ifCond .eq 59, 3) := by decide +kernel
theorem dX12_isMove_7 : decode cX12_isMove 7 = .ok (.iload_n 2, 1) := by decide +kernel
theorem dX12_isMove_8 : decode cX12_isMove 8 = .ok (.i2l, 1) := by decide +kernel
theorem dX12_isMove_9 : decode cX12_isMove 9 = .ok (.lconst 0, 1) := by decide +kernel
theorem dX12_isMove_10 : decode cX12_isMove 10 = .ok (.aload_n 0, 1) := by decide +kernel
theorem dX12_isMove_11 : decode cX12_isMove 11 = .ok (.iload_n 1, 1) := by decide +kernel
theorem dX12_isMove_12 : decode cX12_isMove 12 = .ok (.iconst 0, 1) := by decide +kernel
theorem dX12_isMove_13 : decode cX12_isMove 13 = .ok (.invokevirtual 155, 3) := by decide +kernel
theorem dX12_isMove_16 : decode cX12_isMove 16 = .ok (.iconst 1, 1) := by decide +kernel
theorem dX12_isMove_17 : decode cX12_isMove 17 = .ok (.isub, 1) := by decide +kernel
theorem dX12_isMove_18 : decode cX12_isMove 18 = .ok (.i2l, 1) := by decide +kernel
theorem dX12_isMove_19 : decode cX12_isMove 19 = .ok (.invokestatic 182, 3) := by decide +kernel
theorem dX12_isMove_22 : decode cX12_isMove 22 = .ok (.ifCond .eq 41, 3) := by decide +kernel
theorem dX12_isMove_25 : decode cX12_isMove 25 = .ok (.iload_n 3, 1) := by decide +kernel
theorem dX12_isMove_26 : decode cX12_isMove 26 = .ok (.i2l, 1) := by decide +kernel
theorem dX12_isMove_27 : decode cX12_isMove 27 = .ok (.lconst 0, 1) := by decide +kernel
theorem dX12_isMove_28 : decode cX12_isMove 28 = .ok (.aload_n 0, 1) := by decide +kernel
theorem dX12_isMove_29 : decode cX12_isMove 29 = .ok (.iload_n 1, 1) := by decide +kernel
theorem dX12_isMove_30 : decode cX12_isMove 30 = .ok (.iconst 2, 1) := by decide +kernel
theorem dX12_isMove_31 : decode cX12_isMove 31 = .ok (.invokevirtual 155, 3) := by decide +kernel
theorem dX12_isMove_34 : decode cX12_isMove 34 = .ok (.iconst 1, 1) := by decide +kernel
theorem dX12_isMove_35 : decode cX12_isMove 35 = .ok (.isub, 1) := by decide +kernel
theorem dX12_isMove_36 : decode cX12_isMove 36 = .ok (.i2l, 1) := by decide +kernel
theorem dX12_isMove_37 : decode cX12_isMove 37 = .ok (.invokestatic 182, 3) := by decide +kernel
theorem dX12_isMove_40 : decode cX12_isMove 40 = .ok (.ifCond .eq 23, 3) := by decide +kernel
theorem dX12_isMove_43 : decode cX12_isMove 43 = .ok (.iload 4, 2) := by decide +kernel
theorem dX12_isMove_45 : decode cX12_isMove 45 = .ok (.iconst 2, 1) := by decide +kernel
theorem dX12_isMove_46 : decode cX12_isMove 46 = .ok (.if_icmp .eq 13, 3) := by decide +kernel
theorem dX12_isMove_49 : decode cX12_isMove 49 = .ok (.aload_n 0, 1) := by decide +kernel
theorem dX12_isMove_50 : decode cX12_isMove 50 = .ok (.iload_n 1, 1) := by decide +kernel
theorem dX12_isMove_51 : decode cX12_isMove 51 = .ok (.iload 4, 2) := by decide +kernel
theorem dX12_isMove_53 : decode cX12_isMove 53 = .ok (.invokevirtual 262, 3) := by decide +kernel
theorem dX12_isMove_56 : decode cX12_isMove 56 = .ok (.ifCond .eq 7, 3) := by decide +kernel
theorem dX12_isMove_59 : decode cX12_isMove 59 = .ok (.iconst 1, 1) := by decide +kernel
theorem dX12_isMove_60 : decode cX12_isMove 60 = .ok (.goto 4, 3) := by decide +kernel
theorem dX12_isMove_63 : decode cX12_isMove 63 = .ok (.iconst 0, 1) := by decide +kernel
theorem dX12_isMove_64 : decode cX12_isMove 64 = .ok (.ireturn, 1) := by decide +kernel
theorem dX12_move_0 : decode cX12_move 0 = .ok (.aload_n 0, 1) := by decide +kernel
theorem dX12_move_1 : decode cX12_move 1 = .ok (.iconst 0, 1) := by decide +kernel
theorem dX12_move_2 : decode cX12_move 2 = .ok (.putfield 1, 3) := by decide +kernel
theorem dX12_move_5 : decode cX12_move 5 = .ok (.aload_n 0, 1) := by decide +kernel
theorem dX12_move_6 : decode cX12_move 6 = .ok (.iload_n 1, 1) := by decide +kernel
theorem dX12_move_7 : decode cX12_move 7 = .ok (.iload_n 2, 1) := by decide +kernel
theorem dX12_move_8 : decode cX12_move 8 = .ok (.iload_n 3, 1) := by decide +kernel
theorem dX12_move_9 : decode cX12_move 9 = .ok (.iload 4, 2) := by decide +kernel
theorem dX12_move_11 : decode cX12_move 11 = .ok (.invokevirtual 266, 3) := by decide +kernel
theorem dX12_move_14 : decode cX12_move 14 = .ok (.ifCond .ne 6, 3) := by decide +kernel
theorem dX12_move_17 : decode cX12_move 17 = .ok (.bipush (-2), 2) := by decide +kernel
theorem dX12_move_19 : decode cX12_move 19 = .ok (.ireturn, 1) := by decide +kernel
theorem dX12_move_20 : decode cX12_move 20 = .ok (.iload 5, 2) := by decide +kernel
theorem dX12_move_22 : decode cX12_move 22 = .ok (.i2l, 1) := by decide +kernel
theorem dX12_move_23 : decode cX12_move 23 = .ok (.ldc2_w 270, 3) := by decide +kernel
theorem dX12_move_26 : decode cX12_move 26 = .ok (.aload_n 0, 1) := by decide +kernel
theorem dX12_move_27 : decode cX12_move 27 = .ok (.iload_n 1, 1) := by decide +kernel
theorem dX12_move_28 : decode cX12_move 28 = .ok (.iconst 0, 1) := by decide +kernel
theorem dX12_move_29 : decode cX12_move 29 = .ok (.invokevirtual 155, 3) := by decide +kernel
theorem dX12_move_32 : decode cX12_move 32 = .ok (.iconst 1, 1) := by decide +kernel
theorem dX12_move_33 : decode cX12_move 33 = .ok (.isub, 1) := by decide +kernel
theorem dX12_move_34 : decode cX12_move 34 = .ok (.i2l, 1) := by decide +kernel
theorem dX12_move_35 : decode cX12_move 35 = .ok (.invokestatic 182, 3) := by decide +kernel
theorem dX12_move_38 : decode cX12_move 38 = .ok (.ifCond .eq 35, 3) := by decide +kernel
theorem dX12_move_41 : decode cX12_move 41 = .ok (.iload 6, 2) := by decide +kernel
theorem dX12_move_43 : decode cX12_move 43 = .ok (.iconst (-1), 1) := by decide +kernel
theorem dX12_move_44 : decode cX12_move 44 = .ok (.if_icmp .eq 13, 3) := by decide +kernel
theorem dX12_move_47 : decode cX12_move 47 = .ok (.aload_n 0, 1) := by decide +kernel
theorem dX12_move_48 : decode cX12_move 48 = .ok (.iload_n 1, 1) := by decide +kernel
theorem dX12_move_49 : decode cX12_move 49 = .ok (.iload 6, 2) := by decide +kernel
theorem dX12_move_51 : decode cX12_move 51 = .ok (.invokevirtual 262, 3) := by decide +kernel
theorem dX12_move_54 : decode cX12_move 54 = .ok (.ifCond .eq 19, 3) := by decide +kernel
theorem dX12_move_57 : decode cX12_move 57 = .ok (.iload 7, 2) := by decide +kernel
theorem dX12_move_59 : decode cX12_move 59 = .ok (.iconst (-1), 1) := by decide +kernel
theorem dX12_move_60 : decode cX12_move 60 = .ok (.if_icmp .eq 16, 3) := by decide +kernel
theorem dX12_move_63 : decode cX12_move 63 = .ok (.aload_n 0, 1) := by decide +kernel
theorem dX12_move_64 : decode cX12_move 64 = .ok (.iload_n 1, 1) := by decide +kernel
theorem dX12_move_65 : decode cX12_move 65 = .ok (.iload 7, 2) := by decide +kernel
theorem dX12_move_67 : decode cX12_move 67 = .ok (.invokevirtual 262, 3) := by decide +kernel
theorem dX12_move_70 : decode cX12_move 70 = .ok (.ifCond .ne 6, 3) := by decide +kernel
theorem dX12_move_73 : decode cX12_move 73 = .ok (.bipush (-3), 2) := by decide +kernel
theorem dX12_move_75 : decode cX12_move 75 = .ok (.ireturn, 1) := by decide +kernel
theorem dX12_move_76 : decode cX12_move 76 = .ok (.bipush 94, 2) := by decide +kernel
theorem dX12_move_78 : decode cX12_move 78 = .ok (.iload_n 1, 1) := by decide +kernel
theorem dX12_move_79 : decode cX12_move 79 = .ok (.imul, 1) := by decide +kernel
theorem dX12_move_80 : decode cX12_move 80 = .ok (.iload_n 2, 1) := by decide +kernel
theorem dX12_move_81 : decode cX12_move 81 = .ok (.iload_n 3, 1) := by decide +kernel
theorem dX12_move_82 : decode cX12_move 82 = .ok (.iload 4, 2) := by decide +kernel
theorem dX12_move_84 : decode cX12_move 84 = .ok (.invokestatic 148, 3) := by decide +kernel
theorem dX12_move_87 : decode cX12_move 87 = .ok (.iadd, 1) := by decide +kernel
theorem dX12_move_88 : decode cX12_move 88 = .ok (.istore 8, 2) := by decide +kernel
theorem dX12_move_90 : decode cX12_move 90 = .ok (.aload_n 0, 1) := by decide +kernel
theorem dX12_move_91 : decode cX12_move 91 = .ok (.getfield 13, 3) := by decide +kernel
theorem dX12_move_94 : decode cX12_move 94 = .ok (.iload 8, 2) := by decide +kernel
theorem dX12_move_96 : decode cX12_move 96 = .ok (.iaload, 1) := by decide +kernel
theorem dX12_move_97 : decode cX12_move 97 = .ok (.iconst (-1), 1) := by decide +kernel
theorem dX12_move_98 : decode cX12_move 98 = .ok (.if_icmp .ne 7, 3) := by decide +kernel
theorem dX12_move_101 : decode cX12_move 101 = .ok (.iconst 0, 1) := by decide +kernel
theorem dX12_move_102 : decode cX12_move 102 = .ok (.goto 4, 3) := by decide +kernel
theorem dX12_move_105 : decode cX12_move 105 = .ok (.iconst 1, 1) := by decide +kernel
theorem dX12_move_106 : decode cX12_move 106 = .ok (.istore 9, 2) := by decide +kernel
theorem dX12_move_108 : decode cX12_move 108 = .ok (.iload 5, 2) := by decide +kernel
theorem dX12_move_110 : decode cX12_move 110 = .ok (.iconst (-1), 1) := by decide +kernel
theorem dX12_move_111 : decode cX12_move 111 = .ok (.if_icmp .ne 7, 3) := by decide +kernel
theorem dX12_move_114 : decode cX12_move 114 = .ok (.iconst (-1), 1) := by decide +kernel
theorem dX12_move_115 : decode cX12_move 115 = .ok (.goto 5, 3) := by decide +kernel
theorem dX12_move_118 : decode cX12_move 118 = .ok (.iload 6, 2) := by decide +kernel
theorem dX12_move_120 : decode cX12_move 120 = .ok (.istore 10, 2) := by decide +kernel
theorem dX12_move_122 : decode cX12_move 122 = .ok (.iload 5, 2) := by decide +kernel
theorem dX12_move_124 : decode cX12_move 124 = .ok (.iconst (-1), 1) := by decide +kernel
theorem dX12_move_125 : decode cX12_move 125 = .ok (.if_icmp .ne 7, 3) := by decide +kernel
theorem dX12_move_128 : decode cX12_move 128 = .ok (.iconst (-1), 1) := by decide +kernel
theorem dX12_move_129 : decode cX12_move 129 = .ok (.goto 5, 3) := by decide +kernel
theorem dX12_move_132 : decode cX12_move 132 = .ok (.iload 7, 2) := by decide +kernel
theorem dX12_move_134 : decode cX12_move 134 = .ok (.istore 11, 2) := by decide +kernel
theorem dX12_move_136 : decode cX12_move 136 = .ok (.aload_n 0, 1) := by decide +kernel
theorem dX12_move_137 : decode cX12_move 137 = .ok (.getfield 13, 3) := by decide +kernel
theorem dX12_move_140 : decode cX12_move 140 = .ok (.iload 8, 2) := by decide +kernel
theorem dX12_move_142 : decode cX12_move 142 = .ok (.iaload, 1) := by decide +kernel
theorem dX12_move_143 : decode cX12_move 143 = .ok (.iload 5, 2) := by decide +kernel
theorem dX12_move_145 : decode cX12_move 145 = .ok (.if_icmp .ne 35, 3) := by decide +kernel
theorem dX12_move_148 : decode cX12_move 148 = .ok (.aload_n 0, 1) := by decide +kernel
theorem dX12_move_149 : decode cX12_move 149 = .ok (.getfield 13, 3) := by decide +kernel
theorem dX12_move_152 : decode cX12_move 152 = .ok (.iload 8, 2) := by decide +kernel
theorem dX12_move_154 : decode cX12_move 154 = .ok (.iconst 1, 1) := by decide +kernel
theorem dX12_move_155 : decode cX12_move 155 = .ok (.iadd, 1) := by decide +kernel
theorem dX12_move_156 : decode cX12_move 156 = .ok (.iaload, 1) := by decide +kernel
theorem dX12_move_157 : decode cX12_move 157 = .ok (.iload 10, 2) := by decide +kernel
theorem dX12_move_159 : decode cX12_move 159 = .ok (.if_icmp .ne 21, 3) := by decide +kernel
theorem dX12_move_162 : decode cX12_move 162 = .ok (.aload_n 0, 1) := by decide +kernel
theorem dX12_move_163 : decode cX12_move 163 = .ok (.getfield 13, 3) := by decide +kernel
theorem dX12_move_166 : decode cX12_move 166 = .ok (.iload 8, 2) := by decide +kernel
theorem dX12_move_168 : decode cX12_move 168 = .ok (.iconst 2, 1) := by decide +kernel
theorem dX12_move_169 : decode cX12_move 169 = .ok (.iadd, 1) := by decide +kernel
theorem dX12_move_170 : decode cX12_move 170 = .ok (.iaload, 1) := by decide +kernel
theorem dX12_move_171 : decode cX12_move 171 = .ok (.iload 11, 2) := by decide +kernel
theorem dX12_move_173 : decode cX12_move 173 = .ok (.if_icmp .ne 7, 3) := by decide +kernel
theorem dX12_move_176 : decode cX12_move 176 = .ok (.iconst 1, 1) := by decide +kernel
theorem dX12_move_177 : decode cX12_move 177 = .ok (.goto 4, 3) := by decide +kernel
theorem dX12_move_180 : decode cX12_move 180 = .ok (.iconst 0, 1) := by decide +kernel
theorem dX12_move_181 : decode cX12_move 181 = .ok (.istore 12, 2) := by decide +kernel
theorem dX12_move_183 : decode cX12_move 183 = .ok (.aload_n 0, 1) := by decide +kernel
theorem dX12_move_184 : decode cX12_move 184 = .ok (.getfield 13, 3) := by decide +kernel
theorem dX12_move_187 : decode cX12_move 187 = .ok (.iload 8, 2) := by decide +kernel
theorem dX12_move_189 : decode cX12_move 189 = .ok (.iload 5, 2) := by decide +kernel
theorem dX12_move_191 : decode cX12_move 191 = .ok (.iastore, 1) := by decide +kernel
theorem dX12_move_192 : decode cX12_move 192 = .ok (.aload_n 0, 1) := by decide +kernel
theorem dX12_move_193 : decode cX12_move 193 = .ok (.getfield 13, 3) := by decide +kernel
theorem dX12_move_196 : decode cX12_move 196 = .ok (.iload 8, 2) := by decide +kernel
theorem dX12_move_198 : decode cX12_move 198 = .ok (.iconst 1, 1) := by decide +kernel
theorem dX12_move_199 : decode cX12_move 199 = .ok (.iadd, 1) := by decide +kernel
theorem dX12_move_200 : decode cX12_move 200 = .ok (.iload 10, 2) := by decide +kernel
theorem dX12_move_202 : decode cX12_move 202 = .ok (.iastore, 1) := by decide +kernel
theorem dX12_move_203 : decode cX12_move 203 = .ok (.aload_n 0, 1) := by decide +kernel
theorem dX12_move_204 : decode cX12_move 204 = .ok (.getfield 13, 3) := by decide +kernel
theorem dX12_move_207 : decode cX12_move 207 = .ok (.iload 8, 2) := by decide +kernel
theorem dX12_move_209 : decode cX12_move 209 = .ok (.iconst 2, 1) := by decide +kernel
theorem dX12_move_210 : decode cX12_move 210 = .ok (.iadd, 1) := by decide +kernel
theorem dX12_move_211 : decode cX12_move 211 = .ok (.iload 11, 2) := by decide +kernel
theorem dX12_move_213 : decode cX12_move 213 = .ok (.iastore, 1) := by decide +kernel
theorem dX12_move_214 : decode cX12_move 214 = .ok (.iload_n 1, 1) := by decide +kernel
theorem dX12_move_215 : decode cX12_move 215 = .ok (.ifCond .ne 12, 3) := by decide +kernel
theorem dX12_move_218 : decode cX12_move 218 = .ok (.iload 12, 2) := by decide +kernel
theorem dX12_move_220 : decode cX12_move 220 = .ok (.ifCond .ne 7, 3) := by decide +kernel
theorem dX12_move_223 : decode cX12_move 223 = .ok (.aload_n 0, 1) := by decide +kernel
theorem dX12_move_224 : decode cX12_move 224 = .ok (.invokevirtual 132, 3) := by decide +kernel
theorem dX12_move_227 : decode cX12_move 227 = .ok (.iload 9, 2) := by decide +kernel
theorem dX12_move_229 : decode cX12_move 229 = .ok (.ireturn, 1) := by decide +kernel
theorem dX12_of_0 : decode cX12_of 0 = .ok (.aload_n 0, 1) := by decide +kernel
theorem dX12_of_1 : decode cX12_of 1 = .ok (.iconst 0, 1) := by decide +kernel
theorem dX12_of_2 : decode cX12_of 2 = .ok (.putfield 1, 3) := by decide +kernel
theorem dX12_of_5 : decode cX12_of 5 = .ok (.iload_n 1, 1) := by decide +kernel
theorem dX12_of_6 : decode cX12_of 6 = .ok (.invokestatic 243, 3) := by decide +kernel
theorem dX12_of_9 : decode cX12_of 9 = .ok (.ifCond .eq 15, 3) := by decide +kernel
theorem dX12_of_12 : decode cX12_of 12 = .ok (.iload_n 2, 1) := by decide +kernel
theorem dX12_of_13 : decode cX12_of 13 = .ok (.i2l, 1) := by decide +kernel
theorem dX12_of_14 : decode cX12_of 14 = .ok (.lconst 0, 1) := by decide +kernel
theorem dX12_of_15 : decode cX12_of 15 = .ok (.ldc2_w 272, 3) := by decide +kernel
theorem dX12_of_18 : decode cX12_of 18 = .ok (.invokestatic 182, 3) := by decide +kernel
theorem dX12_of_21 : decode cX12_of 21 = .ok (.ifCond .ne 6, 3) := by decide +kernel
theorem dX12_of_24 : decode cX12_of 24 = .ok (.bipush (-2), 2) := by decide +kernel
theorem dX12_of_26 : decode cX12_of 26 = .ok (.ireturn, 1) := by decide +kernel
theorem dX12_of_27 : decode cX12_of 27 = .ok (.iload_n 2, 1) := by decide +kernel
theorem dX12_of_28 : decode cX12_of 28 = .ok (.iconst 3, 1) := by decide +kernel
theorem dX12_of_29 : decode cX12_of 29 = .ok (.if_icmp .ne 11, 3) := by decide +kernel
theorem dX12_of_32 : decode cX12_of 32 = .ok (.aload_n 0, 1) := by decide +kernel
theorem dX12_of_33 : decode cX12_of 33 = .ok (.iload_n 1, 1) := by decide +kernel
theorem dX12_of_34 : decode cX12_of 34 = .ok (.invokevirtual 256, 3) := by decide +kernel
theorem dX12_of_37 : decode cX12_of 37 = .ok (.goto 18, 3) := by decide +kernel
theorem dX12_of_40 : decode cX12_of 40 = .ok (.aload_n 0, 1) := by decide +kernel
theorem dX12_of_41 : decode cX12_of 41 = .ok (.iload_n 1, 1) := by decide +kernel
theorem dX12_of_42 : decode cX12_of 42 = .ok (.iload_n 2, 1) := by decide +kernel
theorem dX12_of_43 : decode cX12_of 43 = .ok (.iconst 4, 1) := by decide +kernel
theorem dX12_of_44 : decode cX12_of 44 = .ok (.if_icmp .ne 7, 3) := by decide +kernel
theorem dX12_of_47 : decode cX12_of 47 = .ok (.iconst 3, 1) := by decide +kernel
theorem dX12_of_48 : decode cX12_of 48 = .ok (.goto 4, 3) := by decide +kernel
theorem dX12_of_51 : decode cX12_of 51 = .ok (.iload_n 2, 1) := by decide +kernel
theorem dX12_of_52 : decode cX12_of 52 = .ok (.invokevirtual 155, 3) := by decide +kernel
theorem dX12_of_55 : decode cX12_of 55 = .ok (.ireturn, 1) := by decide +kernel
theorem dX12_moved_0 : decode cX12_moved 0 = .ok (.aload_n 0, 1) := by decide +kernel
theorem dX12_moved_1 : decode cX12_moved 1 = .ok (.iconst 0, 1) := by decide +kernel
theorem dX12_moved_2 : decode cX12_moved 2 = .ok (.putfield 1, 3) := by decide +kernel
theorem dX12_moved_5 : decode cX12_moved 5 = .ok (.aload_n 0, 1) := by decide +kernel
theorem dX12_moved_6 : decode cX12_moved 6 = .ok (.iload_n 1, 1) := by decide +kernel
theorem dX12_moved_7 : decode cX12_moved 7 = .ok (.iload_n 2, 1) := by decide +kernel
theorem dX12_moved_8 : decode cX12_moved 8 = .ok (.iload_n 3, 1) := by decide +kernel
theorem dX12_moved_9 : decode cX12_moved 9 = .ok (.iload 4, 2) := by decide +kernel
theorem dX12_moved_11 : decode cX12_moved 11 = .ok (.invokevirtual 266, 3) := by decide +kernel
theorem dX12_moved_14 : decode cX12_moved 14 = .ok (.ifCond .eq 16, 3) := by decide +kernel
theorem dX12_moved_17 : decode cX12_moved 17 = .ok (.iload 5, 2) := by decide +kernel
theorem dX12_moved_19 : decode cX12_moved 19 = .ok (.i2l, 1) := by decide +kernel
theorem dX12_moved_20 : decode cX12_moved 20 = .ok (.lconst 0, 1) := by decide +kernel
theorem dX12_moved_21 : decode cX12_moved 21 = .ok (.ldc2_w 274, 3) := by decide +kernel
theorem dX12_moved_24 : decode cX12_moved 24 = .ok (.invokestatic 182, 3) := by decide +kernel
theorem dX12_moved_27 : decode cX12_moved 27 = .ok (.ifCond .ne 6, 3) := by decide +kernel
theorem dX12_moved_30 : decode cX12_moved 30 = .ok (.bipush (-2), 2) := by decide +kernel
theorem dX12_moved_32 : decode cX12_moved 32 = .ok (.ireturn, 1) := by decide +kernel
theorem dX12_moved_33 : decode cX12_moved 33 = .ok (.aload_n 0, 1) := by decide +kernel
theorem dX12_moved_34 : decode cX12_moved 34 = .ok (.iload_n 1, 1) := by decide +kernel
theorem dX12_moved_35 : decode cX12_moved 35 = .ok (.iload_n 2, 1) := by decide +kernel
theorem dX12_moved_36 : decode cX12_moved 36 = .ok (.iload_n 3, 1) := by decide +kernel
theorem dX12_moved_37 : decode cX12_moved 37 = .ok (.iload 4, 2) := by decide +kernel
theorem dX12_moved_39 : decode cX12_moved 39 = .ok (.invokestatic 148, 3) := by decide +kernel
theorem dX12_moved_42 : decode cX12_moved 42 = .ok (.iload 5, 2) := by decide +kernel
theorem dX12_moved_44 : decode cX12_moved 44 = .ok (.iadd, 1) := by decide +kernel
theorem dX12_moved_45 : decode cX12_moved 45 = .ok (.invokevirtual 155, 3) := by decide +kernel
theorem dX12_moved_48 : decode cX12_moved 48 = .ok (.ireturn, 1) := by decide +kernel
theorem dX12_goesAlong_0 : decode cX12_goesAlong 0 = .ok (.aload_n 0, 1) := by decide +kernel
theorem dX12_goesAlong_1 : decode cX12_goesAlong 1 = .ok (.invokevirtual 276, 3) := by decide +kernel
theorem dX12_goesAlong_4 : decode cX12_goesAlong 4 = .ok (.iconst 0, 1) := by decide +kernel
theorem dX12_goesAlong_5 : decode cX12_goesAlong 5 = .ok (.istore_n 3, 1) := by decide +kernel
theorem dX12_goesAlong_6 : decode cX12_goesAlong 6 = .ok (.iload_n 3, 1) := by decide +kernel
theorem dX12_goesAlong_7 : decode cX12_goesAlong 7 = .ok (.iload_n 2, 1) := by decide +kernel
theorem dX12_goesAlong_8 : decode cX12_goesAlong 8 = .ok (.if_icmp .ge 26, 3) := by decide +kernel
theorem dX12_goesAlong_11 : decode cX12_goesAlong 11 = .ok (.aload_n 0, 1) := by decide +kernel
theorem dX12_goesAlong_12 : decode cX12_goesAlong 12 = .ok (.iload_n 1, 1) := by decide +kernel
theorem dX12_goesAlong_13 : decode cX12_goesAlong 13 = .ok (.aload_n 0, 1) := by decide +kernel
theorem dX12_goesAlong_14 : decode cX12_goesAlong 14 = .ok (.getfield 27, 3) := by decide +kernel
theorem dX12_goesAlong_17 : decode cX12_goesAlong 17 = .ok (.iload_n 3, 1) := by decide +kernel
theorem dX12_goesAlong_18 : decode cX12_goesAlong 18 = .ok (.iaload, 1) := by decide +kernel
theorem dX12_goesAlong_19 : decode cX12_goesAlong 19 = .ok (.aload_n 0, 1) := by decide +kernel
theorem dX12_goesAlong_20 : decode cX12_goesAlong 20 = .ok (.getfield 30, 3) := by decide +kernel
theorem dX12_goesAlong_23 : decode cX12_goesAlong 23 = .ok (.iload_n 3, 1) := by decide +kernel
theorem dX12_goesAlong_24 : decode cX12_goesAlong 24 = .ok (.iaload, 1) := by decide +kernel
theorem dX12_goesAlong_25 : decode cX12_goesAlong 25 = .ok (.invokevirtual 279, 3) := by decide +kernel
theorem dX12_goesAlong_28 : decode cX12_goesAlong 28 = .ok (.iinc 3 1, 3) := by decide +kernel
theorem dX12_goesAlong_31 : decode cX12_goesAlong 31 = .ok (.goto (-25), 3) := by decide +kernel
theorem dX12_goesAlong_34 : decode cX12_goesAlong 34 = .ok (.return_, 1) := by decide +kernel
theorem dX12_ask_0 : decode cX12_ask 0 = .ok (.aload_n 0, 1) := by decide +kernel
theorem dX12_ask_1 : decode cX12_ask 1 = .ok (.iconst 0, 1) := by decide +kernel
theorem dX12_ask_2 : decode cX12_ask 2 = .ok (.putfield 1, 3) := by decide +kernel
theorem dX12_ask_5 : decode cX12_ask 5 = .ok (.iload_n 1, 1) := by decide +kernel
theorem dX12_ask_6 : decode cX12_ask 6 = .ok (.invokestatic 243, 3) := by decide +kernel
theorem dX12_ask_9 : decode cX12_ask 9 = .ok (.ifCond .ne 6, 3) := by decide +kernel
theorem dX12_ask_12 : decode cX12_ask 12 = .ok (.bipush (-2), 2) := by decide +kernel
theorem dX12_ask_14 : decode cX12_ask 14 = .ok (.ireturn, 1) := by decide +kernel
theorem dX12_ask_15 : decode cX12_ask 15 = .ok (.aload_n 0, 1) := by decide +kernel
theorem dX12_ask_16 : decode cX12_ask 16 = .ok (.iload_n 1, 1) := by decide +kernel
theorem dX12_ask_17 : decode cX12_ask 17 = .ok (.aload_n 0, 1) := by decide +kernel
theorem dX12_ask_18 : decode cX12_ask 18 = .ok (.getfield 259, 3) := by decide +kernel
theorem dX12_ask_21 : decode cX12_ask 21 = .ok (.invokevirtual 282, 3) := by decide +kernel
theorem dX12_ask_24 : decode cX12_ask 24 = .ok (.aload_n 0, 1) := by decide +kernel
theorem dX12_ask_25 : decode cX12_ask 25 = .ok (.iload_n 1, 1) := by decide +kernel
theorem dX12_ask_26 : decode cX12_ask 26 = .ok (.invokevirtual 285, 3) := by decide +kernel
theorem dX12_ask_29 : decode cX12_ask 29 = .ok (.ifCond .eq 7, 3) := by decide +kernel
theorem dX12_ask_32 : decode cX12_ask 32 = .ok (.iconst 1, 1) := by decide +kernel
theorem dX12_ask_33 : decode cX12_ask 33 = .ok (.goto 4, 3) := by decide +kernel
theorem dX12_ask_36 : decode cX12_ask 36 = .ok (.iconst 0, 1) := by decide +kernel
theorem dX12_ask_37 : decode cX12_ask 37 = .ok (.ireturn, 1) := by decide +kernel
theorem dX12_behind_0 : decode cX12_behind 0 = .ok (.aload_n 0, 1) := by decide +kernel
theorem dX12_behind_1 : decode cX12_behind 1 = .ok (.iconst 0, 1) := by decide +kernel
theorem dX12_behind_2 : decode cX12_behind 2 = .ok (.putfield 1, 3) := by decide +kernel
theorem dX12_behind_5 : decode cX12_behind 5 = .ok (.iload_n 1, 1) := by decide +kernel
theorem dX12_behind_6 : decode cX12_behind 6 = .ok (.invokestatic 243, 3) := by decide +kernel
theorem dX12_behind_9 : decode cX12_behind 9 = .ok (.ifCond .eq 15, 3) := by decide +kernel
theorem dX12_behind_12 : decode cX12_behind 12 = .ok (.iload_n 3, 1) := by decide +kernel
theorem dX12_behind_13 : decode cX12_behind 13 = .ok (.i2l, 1) := by decide +kernel
theorem dX12_behind_14 : decode cX12_behind 14 = .ok (.lconst 0, 1) := by decide +kernel
theorem dX12_behind_15 : decode cX12_behind 15 = .ok (.ldc2_w 274, 3) := by decide +kernel
theorem dX12_behind_18 : decode cX12_behind 18 = .ok (.invokestatic 182, 3) := by decide +kernel
theorem dX12_behind_21 : decode cX12_behind 21 = .ok (.ifCond .ne 6, 3) := by decide +kernel
theorem dX12_behind_24 : decode cX12_behind 24 = .ok (.bipush (-2), 2) := by decide +kernel
theorem dX12_behind_26 : decode cX12_behind 26 = .ok (.ireturn, 1) := by decide +kernel
theorem dX12_behind_27 : decode cX12_behind 27 = .ok (.iload_n 2, 1) := by decide +kernel
theorem dX12_behind_28 : decode cX12_behind 28 = .ok (.i2l, 1) := by decide +kernel
theorem dX12_behind_29 : decode cX12_behind 29 = .ok (.lconst 0, 1) := by decide +kernel
theorem dX12_behind_30 : decode cX12_behind 30 = .ok (.aload_n 0, 1) := by decide +kernel
theorem dX12_behind_31 : decode cX12_behind 31 = .ok (.getfield 259, 3) := by decide +kernel
theorem dX12_behind_34 : decode cX12_behind 34 = .ok (.i2l, 1) := by decide +kernel
theorem dX12_behind_35 : decode cX12_behind 35 = .ok (.invokestatic 182, 3) := by decide +kernel
theorem dX12_behind_38 : decode cX12_behind 38 = .ok (.ifCond .ne 6, 3) := by decide +kernel
theorem dX12_behind_41 : decode cX12_behind 41 = .ok (.bipush (-3), 2) := by decide +kernel
theorem dX12_behind_43 : decode cX12_behind 43 = .ok (.ireturn, 1) := by decide +kernel
theorem dX12_behind_44 : decode cX12_behind 44 = .ok (.aload_n 0, 1) := by decide +kernel
theorem dX12_behind_45 : decode cX12_behind 45 = .ok (.iload_n 1, 1) := by decide +kernel
theorem dX12_behind_46 : decode cX12_behind 46 = .ok (.iload_n 2, 1) := by decide +kernel
theorem dX12_behind_47 : decode cX12_behind 47 = .ok (.invokevirtual 282, 3) := by decide +kernel
theorem dX12_behind_50 : decode cX12_behind 50 = .ok (.iload_n 3, 1) := by decide +kernel
theorem dX12_behind_51 : decode cX12_behind 51 = .ok (.ifCond .ne 10, 3) := by decide +kernel
theorem dX12_behind_54 : decode cX12_behind 54 = .ok (.aload_n 0, 1) := by decide +kernel
theorem dX12_behind_55 : decode cX12_behind 55 = .ok (.getfield 135, 3) := by decide +kernel
theorem dX12_behind_58 : decode cX12_behind 58 = .ok (.goto 19, 3) := by decide +kernel
theorem dX12_behind_61 : decode cX12_behind 61 = .ok (.iload_n 3, 1) := by decide +kernel
theorem dX12_behind_62 : decode cX12_behind 62 = .ok (.iconst 1, 1) := by decide +kernel
theorem dX12_behind_63 : decode cX12_behind 63 = .ok (.if_icmp .ne 10, 3) := by decide +kernel
theorem dX12_behind_66 : decode cX12_behind 66 = .ok (.aload_n 0, 1) := by decide +kernel
theorem dX12_behind_67 : decode cX12_behind 67 = .ok (.getfield 138, 3) := by decide +kernel
theorem dX12_behind_70 : decode cX12_behind 70 = .ok (.goto 7, 3) := by decide +kernel
theorem dX12_behind_73 : decode cX12_behind 73 = .ok (.aload_n 0, 1) := by decide +kernel
theorem dX12_behind_74 : decode cX12_behind 74 = .ok (.getfield 141, 3) := by decide +kernel
theorem dX12_behind_77 : decode cX12_behind 77 = .ok (.ireturn, 1) := by decide +kernel
theorem dX12_counts_0 : decode cX12_counts 0 = .ok (.iload_n 2, 1) := by decide +kernel
theorem dX12_counts_1 : decode cX12_counts 1 = .ok (.ifCond .ne 36, 3) := by decide +kernel
theorem dX12_counts_4 : decode cX12_counts 4 = .ok (.aload_n 0, 1) := by decide +kernel
theorem dX12_counts_5 : decode cX12_counts 5 = .ok (.dup, 1) := by decide +kernel
theorem dX12_counts_6 : decode cX12_counts 6 = .ok (.getfield 288, 3) := by decide +kernel
theorem dX12_counts_9 : decode cX12_counts 9 = .ok (.iconst 1, 1) := by decide +kernel
theorem dX12_counts_10 : decode cX12_counts 10 = .ok (.iadd, 1) := by decide +kernel
theorem dX12_counts_11 : decode cX12_counts 11 = .ok (.putfield 288, 3) := by decide +kernel
theorem dX12_counts_14 : decode cX12_counts 14 = .ok (.aload_n 0, 1) := by decide +kernel
theorem dX12_counts_15 : decode cX12_counts 15 = .ok (.dup, 1) := by decide +kernel
theorem dX12_counts_16 : decode cX12_counts 16 = .ok (.getfield 291, 3) := by decide +kernel
theorem dX12_counts_19 : decode cX12_counts 19 = .ok (.aload_n 0, 1) := by decide +kernel
theorem dX12_counts_20 : decode cX12_counts 20 = .ok (.iload_n 1, 1) := by decide +kernel
theorem dX12_counts_21 : decode cX12_counts 21 = .ok (.invokevirtual 285, 3) := by decide +kernel
theorem dX12_counts_24 : decode cX12_counts 24 = .ok (.ifCond .eq 7, 3) := by decide +kernel
theorem dX12_counts_27 : decode cX12_counts 27 = .ok (.iconst 1, 1) := by decide +kernel
theorem dX12_counts_28 : decode cX12_counts 28 = .ok (.goto 4, 3) := by decide +kernel
theorem dX12_counts_31 : decode cX12_counts 31 = .ok (.iconst 0, 1) := by decide +kernel
theorem dX12_counts_32 : decode cX12_counts 32 = .ok (.iadd, 1) := by decide +kernel
theorem dX12_counts_33 : decode cX12_counts 33 = .ok (.putfield 291, 3) := by decide +kernel
theorem dX12_counts_36 : decode cX12_counts 36 = .ok (.return_, 1) := by decide +kernel
theorem dX12_counts_37 : decode cX12_counts 37 = .ok (.aload_n 0, 1) := by decide +kernel
theorem dX12_counts_38 : decode cX12_counts 38 = .ok (.getfield 135, 3) := by decide +kernel
theorem dX12_counts_41 : decode cX12_counts 41 = .ok (.istore 4, 2) := by decide +kernel
theorem dX12_counts_43 : decode cX12_counts 43 = .ok (.aload_n 0, 1) := by decide +kernel
theorem dX12_counts_44 : decode cX12_counts 44 = .ok (.getfield 138, 3) := by decide +kernel
theorem dX12_counts_47 : decode cX12_counts 47 = .ok (.istore 5, 2) := by decide +kernel
theorem dX12_counts_49 : decode cX12_counts 49 = .ok (.aload_n 0, 1) := by decide +kernel
theorem dX12_counts_50 : decode cX12_counts 50 = .ok (.getfield 141, 3) := by decide +kernel
theorem dX12_counts_53 : decode cX12_counts 53 = .ok (.istore 6, 2) := by decide +kernel
theorem dX12_counts_55 : decode cX12_counts 55 = .ok (.iconst 0, 1) := by decide +kernel
theorem dX12_counts_56 : decode cX12_counts 56 = .ok (.istore 7, 2) := by decide +kernel
theorem dX12_counts_58 : decode cX12_counts 58 = .ok (.iload 7, 2) := by decide +kernel
theorem dX12_counts_60 : decode cX12_counts 60 = .ok (.aload_n 0, 1) := by decide +kernel
theorem dX12_counts_61 : decode cX12_counts 61 = .ok (.iload_n 1, 1) := by decide +kernel
theorem dX12_counts_62 : decode cX12_counts 62 = .ok (.iconst 2, 1) := by decide +kernel
theorem dX12_counts_63 : decode cX12_counts 63 = .ok (.invokevirtual 155, 3) := by decide +kernel
theorem dX12_counts_66 : decode cX12_counts 66 = .ok (.if_icmp .ge 64, 3) := by decide +kernel
theorem dX12_counts_69 : decode cX12_counts 69 = .ok (.iconst 0, 1) := by decide +kernel
theorem dX12_counts_70 : decode cX12_counts 70 = .ok (.istore 8, 2) := by decide +kernel
theorem dX12_counts_72 : decode cX12_counts 72 = .ok (.iload 8, 2) := by decide +kernel
theorem dX12_counts_74 : decode cX12_counts 74 = .ok (.iload_n 3, 1) := by decide +kernel
theorem dX12_counts_75 : decode cX12_counts 75 = .ok (.if_icmp .gt 49, 3) := by decide +kernel
theorem dX12_counts_78 : decode cX12_counts 78 = .ok (.aload_n 0, 1) := by decide +kernel
theorem dX12_counts_79 : decode cX12_counts 79 = .ok (.iload 4, 2) := by decide +kernel
theorem dX12_counts_81 : decode cX12_counts 81 = .ok (.iload 5, 2) := by decide +kernel
theorem dX12_counts_83 : decode cX12_counts 83 = .ok (.iload 6, 2) := by decide +kernel
theorem dX12_counts_85 : decode cX12_counts 85 = .ok (.invokevirtual 144, 3) := by decide +kernel
theorem dX12_counts_88 : decode cX12_counts 88 = .ok (.aload_n 0, 1) := by decide +kernel
theorem dX12_counts_89 : decode cX12_counts 89 = .ok (.iload_n 1, 1) := by decide +kernel
theorem dX12_counts_90 : decode cX12_counts 90 = .ok (.iload 7, 2) := by decide +kernel
theorem dX12_counts_92 : decode cX12_counts 92 = .ok (.iload 8, 2) := by decide +kernel
theorem dX12_counts_94 : decode cX12_counts 94 = .ok (.invokevirtual 279, 3) := by decide +kernel
theorem dX12_counts_97 : decode cX12_counts 97 = .ok (.aload_n 0, 1) := by decide +kernel
theorem dX12_counts_98 : decode cX12_counts 98 = .ok (.iload_n 1, 1) := by decide +kernel
theorem dX12_counts_99 : decode cX12_counts 99 = .ok (.iload_n 2, 1) := by decide +kernel
theorem dX12_counts_100 : decode cX12_counts 100 = .ok (.iconst 1, 1) := by decide +kernel
theorem dX12_counts_101 : decode cX12_counts 101 = .ok (.isub, 1) := by decide +kernel
theorem dX12_counts_102 : decode cX12_counts 102 = .ok (.iload 8, 2) := by decide +kernel
theorem dX12_counts_104 : decode cX12_counts 104 = .ok (.iload_n 3, 1) := by decide +kernel
theorem dX12_counts_105 : decode cX12_counts 105 = .ok (.if_icmp .ne 9, 3) := by decide +kernel
theorem dX12_counts_108 : decode cX12_counts 108 = .ok (.iload_n 3, 1) := by decide +kernel
theorem dX12_counts_109 : decode cX12_counts 109 = .ok (.iconst 1, 1) := by decide +kernel
theorem dX12_counts_110 : decode cX12_counts 110 = .ok (.iadd, 1) := by decide +kernel
theorem dX12_counts_111 : decode cX12_counts 111 = .ok (.goto 4, 3) := by decide +kernel
theorem dX12_counts_114 : decode cX12_counts 114 = .ok (.iload_n 3, 1) := by decide +kernel
theorem dX12_counts_115 : decode cX12_counts 115 = .ok (.invokevirtual 294, 3) := by decide +kernel
theorem dX12_counts_118 : decode cX12_counts 118 = .ok (.iinc 8 1, 3) := by decide +kernel
theorem dX12_counts_121 : decode cX12_counts 121 = .ok (.goto (-49), 3) := by decide +kernel
theorem dX12_counts_124 : decode cX12_counts 124 = .ok (.iinc 7 1, 3) := by decide +kernel
theorem dX12_counts_127 : decode cX12_counts 127 = .ok (.goto (-69), 3) := by decide +kernel
theorem dX12_counts_130 : decode cX12_counts 130 = .ok (.return_, 1) := by decide +kernel
theorem dX12_laysCounts_0 : decode cX12_laysCounts 0 = .ok (.iload_n 1, 1) := by decide +kernel
theorem dX12_laysCounts_1 : decode cX12_laysCounts 1 = .ok (.invokestatic 243, 3) := by decide +kernel
theorem dX12_laysCounts_4 : decode cX12_laysCounts 4 = .ok (.ifCond .ne 6, 3) := by decide +kernel
theorem dX12_laysCounts_7 : decode cX12_laysCounts 7 = .ok (.bipush (-2), 2) := by decide +kernel
theorem dX12_laysCounts_9 : decode cX12_laysCounts 9 = .ok (.ireturn, 1) := by decide +kernel
theorem dX12_laysCounts_10 : decode cX12_laysCounts 10 = .ok (.iload_n 2, 1) := by decide +kernel
theorem dX12_laysCounts_11 : decode cX12_laysCounts 11 = .ok (.i2l, 1) := by decide +kernel
theorem dX12_laysCounts_12 : decode cX12_laysCounts 12 = .ok (.lconst 0, 1) := by decide +kernel
theorem dX12_laysCounts_13 : decode cX12_laysCounts 13 = .ok (.ldc2_w 297, 3) := by decide +kernel
theorem dX12_laysCounts_16 : decode cX12_laysCounts 16 = .ok (.invokestatic 182, 3) := by decide +kernel
theorem dX12_laysCounts_19 : decode cX12_laysCounts 19 = .ok (.ifCond .ne 6, 3) := by decide +kernel
theorem dX12_laysCounts_22 : decode cX12_laysCounts 22 = .ok (.bipush (-3), 2) := by decide +kernel
theorem dX12_laysCounts_24 : decode cX12_laysCounts 24 = .ok (.ireturn, 1) := by decide +kernel
theorem dX12_laysCounts_25 : decode cX12_laysCounts 25 = .ok (.aload_n 0, 1) := by decide +kernel
theorem dX12_laysCounts_26 : decode cX12_laysCounts 26 = .ok (.iconst 0, 1) := by decide +kernel
theorem dX12_laysCounts_27 : decode cX12_laysCounts 27 = .ok (.putfield 288, 3) := by decide +kernel
theorem dX12_laysCounts_30 : decode cX12_laysCounts 30 = .ok (.aload_n 0, 1) := by decide +kernel
theorem dX12_laysCounts_31 : decode cX12_laysCounts 31 = .ok (.iconst 0, 1) := by decide +kernel
theorem dX12_laysCounts_32 : decode cX12_laysCounts 32 = .ok (.putfield 291, 3) := by decide +kernel
theorem dX12_laysCounts_35 : decode cX12_laysCounts 35 = .ok (.aload_n 0, 1) := by decide +kernel
theorem dX12_laysCounts_36 : decode cX12_laysCounts 36 = .ok (.invokevirtual 276, 3) := by decide +kernel
theorem dX12_laysCounts_39 : decode cX12_laysCounts 39 = .ok (.aload_n 0, 1) := by decide +kernel
theorem dX12_laysCounts_40 : decode cX12_laysCounts 40 = .ok (.iload_n 1, 1) := by decide +kernel
theorem dX12_laysCounts_41 : decode cX12_laysCounts 41 = .ok (.iload_n 2, 1) := by decide +kernel
theorem dX12_laysCounts_42 : decode cX12_laysCounts 42 = .ok (.iconst 0, 1) := by decide +kernel
theorem dX12_laysCounts_43 : decode cX12_laysCounts 43 = .ok (.invokevirtual 294, 3) := by decide +kernel
theorem dX12_laysCounts_46 : decode cX12_laysCounts 46 = .ok (.iconst 0, 1) := by decide +kernel
theorem dX12_laysCounts_47 : decode cX12_laysCounts 47 = .ok (.ireturn, 1) := by decide +kernel
theorem dX12_many_0 : decode cX12_many 0 = .ok (.aload_n 0, 1) := by decide +kernel
theorem dX12_many_1 : decode cX12_many 1 = .ok (.iconst 0, 1) := by decide +kernel
theorem dX12_many_2 : decode cX12_many 2 = .ok (.putfield 1, 3) := by decide +kernel
theorem dX12_many_5 : decode cX12_many 5 = .ok (.aload_n 0, 1) := by decide +kernel
theorem dX12_many_6 : decode cX12_many 6 = .ok (.iload_n 1, 1) := by decide +kernel
theorem dX12_many_7 : decode cX12_many 7 = .ok (.iload_n 2, 1) := by decide +kernel
theorem dX12_many_8 : decode cX12_many 8 = .ok (.invokevirtual 299, 3) := by decide +kernel
theorem dX12_many_11 : decode cX12_many 11 = .ok (.istore_n 3, 1) := by decide +kernel
theorem dX12_many_12 : decode cX12_many 12 = .ok (.iload_n 3, 1) := by decide +kernel
theorem dX12_many_13 : decode cX12_many 13 = .ok (.ifCond .ge 7, 3) := by decide +kernel
theorem dX12_many_16 : decode cX12_many 16 = .ok (.iload_n 3, 1) := by decide +kernel
theorem dX12_many_17 : decode cX12_many 17 = .ok (.goto 7, 3) := by decide +kernel
theorem dX12_many_20 : decode cX12_many 20 = .ok (.aload_n 0, 1) := by decide +kernel
theorem dX12_many_21 : decode cX12_many 21 = .ok (.getfield 291, 3) := by decide +kernel
theorem dX12_many_24 : decode cX12_many 24 = .ok (.ireturn, 1) := by decide +kernel
theorem dX12_bitsOf_0 : decode cX12_bitsOf 0 = .ok (.iload_n 0, 1) := by decide +kernel
theorem dX12_bitsOf_1 : decode cX12_bitsOf 1 = .ok (.ifCond .ne 5, 3) := by decide +kernel
theorem dX12_bitsOf_4 : decode cX12_bitsOf 4 = .ok (.iconst 0, 1) := by decide +kernel
theorem dX12_bitsOf_5 : decode cX12_bitsOf 5 = .ok (.ireturn, 1) := by decide +kernel
theorem dX12_bitsOf_6 : decode cX12_bitsOf 6 = .ok (.iconst 0, 1) := by decide +kernel
theorem dX12_bitsOf_7 : decode cX12_bitsOf 7 = .ok (.istore_n 2, 1) := by decide +kernel
theorem dX12_bitsOf_8 : decode cX12_bitsOf 8 = .ok (.iload_n 0, 1) := by decide +kernel
theorem dX12_bitsOf_9 : decode cX12_bitsOf 9 = .ok (.i2l, 1) := by decide +kernel
theorem dX12_bitsOf_10 : decode cX12_bitsOf 10 = .ok (.iload_n 2, 1) := by decide +kernel
theorem dX12_bitsOf_11 : decode cX12_bitsOf 11 = .ok (.lshl, 1) := by decide +kernel
theorem dX12_bitsOf_12 : decode cX12_bitsOf 12 = .ok (.iload_n 1, 1) := by decide +kernel
theorem dX12_bitsOf_13 : decode cX12_bitsOf 13 = .ok (.i2l, 1) := by decide +kernel
theorem dX12_bitsOf_14 : decode cX12_bitsOf 14 = .ok (.lcmp, 1) := by decide +kernel
theorem dX12_bitsOf_15 : decode cX12_bitsOf 15 = .ok (.ifCond .ge 9, 3) := by decide +kernel
theorem dX12_bitsOf_18 : decode cX12_bitsOf 18 = .ok (.iinc 2 1, 3) := by decide +kernel
theorem dX12_bitsOf_21 : decode cX12_bitsOf 21 = .ok (.goto (-13), 3) := by decide +kernel
theorem dX12_bitsOf_24 : decode cX12_bitsOf 24 = .ok (.iload_n 0, 1) := by decide +kernel
theorem dX12_bitsOf_25 : decode cX12_bitsOf 25 = .ok (.i2l, 1) := by decide +kernel
theorem dX12_bitsOf_26 : decode cX12_bitsOf 26 = .ok (.iload_n 2, 1) := by decide +kernel
theorem dX12_bitsOf_27 : decode cX12_bitsOf 27 = .ok (.bipush 23, 2) := by decide +kernel
theorem dX12_bitsOf_29 : decode cX12_bitsOf 29 = .ok (.iadd, 1) := by decide +kernel
theorem dX12_bitsOf_30 : decode cX12_bitsOf 30 = .ok (.lshl, 1) := by decide +kernel
theorem dX12_bitsOf_31 : decode cX12_bitsOf 31 = .ok (.lstore_n 3, 1) := by decide +kernel
theorem dX12_bitsOf_32 : decode cX12_bitsOf 32 = .ok (.lload_n 3, 1) := by decide +kernel
theorem dX12_bitsOf_33 : decode cX12_bitsOf 33 = .ok (.iload_n 1, 1) := by decide +kernel
theorem dX12_bitsOf_34 : decode cX12_bitsOf 34 = .ok (.i2l, 1) := by decide +kernel
theorem dX12_bitsOf_35 : decode cX12_bitsOf 35 = .ok (.ldiv, 1) := by decide +kernel
theorem dX12_bitsOf_36 : decode cX12_bitsOf 36 = .ok (.lstore 5, 2) := by decide +kernel
theorem dX12_bitsOf_38 : decode cX12_bitsOf 38 = .ok (.ldc2_w 274, 3) := by decide +kernel
theorem dX12_bitsOf_41 : decode cX12_bitsOf 41 = .ok (.lload_n 3, 1) := by decide +kernel
theorem dX12_bitsOf_42 : decode cX12_bitsOf 42 = .ok (.iload_n 1, 1) := by decide +kernel
theorem dX12_bitsOf_43 : decode cX12_bitsOf 43 = .ok (.i2l, 1) := by decide +kernel
theorem dX12_bitsOf_44 : decode cX12_bitsOf 44 = .ok (.lrem, 1) := by decide +kernel
theorem dX12_bitsOf_45 : decode cX12_bitsOf 45 = .ok (.lmul, 1) := by decide +kernel
theorem dX12_bitsOf_46 : decode cX12_bitsOf 46 = .ok (.lstore 7, 2) := by decide +kernel
theorem dX12_bitsOf_48 : decode cX12_bitsOf 48 = .ok (.lload 7, 2) := by decide +kernel
theorem dX12_bitsOf_50 : decode cX12_bitsOf 50 = .ok (.iload_n 1, 1) := by decide +kernel
theorem dX12_bitsOf_51 : decode cX12_bitsOf 51 = .ok (.i2l, 1) := by decide +kernel
theorem dX12_bitsOf_52 : decode cX12_bitsOf 52 = .ok (.lcmp, 1) := by decide +kernel
theorem dX12_bitsOf_53 : decode cX12_bitsOf 53 = .ok (.ifCond .gt 22, 3) := by decide +kernel
theorem dX12_bitsOf_56 : decode cX12_bitsOf 56 = .ok (.lload 7, 2) := by decide +kernel
theorem dX12_bitsOf_58 : decode cX12_bitsOf 58 = .ok (.iload_n 1, 1) := by decide +kernel
theorem dX12_bitsOf_59 : decode cX12_bitsOf 59 = .ok (.i2l, 1) := by decide +kernel
theorem dX12_bitsOf_60 : decode cX12_bitsOf 60 = .ok (.lcmp, 1) := by decide +kernel
theorem dX12_bitsOf_61 : decode cX12_bitsOf 61 = .ok (.ifCond .ne 20, 3) := by decide +kernel
theorem dX12_bitsOf_64 : decode cX12_bitsOf 64 = .ok (.lload 5, 2) := by decide +kernel
theorem dX12_bitsOf_66 : decode cX12_bitsOf 66 = .ok (.ldc2_w 274, 3) := by decide +kernel
theorem dX12_bitsOf_69 : decode cX12_bitsOf 69 = .ok (.lrem, 1) := by decide +kernel
theorem dX12_bitsOf_70 : decode cX12_bitsOf 70 = .ok (.lconst 1, 1) := by decide +kernel
theorem dX12_bitsOf_71 : decode cX12_bitsOf 71 = .ok (.lcmp, 1) := by decide +kernel
theorem dX12_bitsOf_72 : decode cX12_bitsOf 72 = .ok (.ifCond .ne 9, 3) := by decide +kernel
theorem dX12_bitsOf_75 : decode cX12_bitsOf 75 = .ok (.lload 5, 2) := by decide +kernel
theorem dX12_bitsOf_77 : decode cX12_bitsOf 77 = .ok (.lconst 1, 1) := by decide +kernel
theorem dX12_bitsOf_78 : decode cX12_bitsOf 78 = .ok (.ladd, 1) := by decide +kernel
theorem dX12_bitsOf_79 : decode cX12_bitsOf 79 = .ok (.lstore 5, 2) := by decide +kernel
theorem dX12_bitsOf_81 : decode cX12_bitsOf 81 = .ok (.ldc2_w 302, 3) := by decide +kernel
theorem dX12_bitsOf_84 : decode cX12_bitsOf 84 = .ok (.iload_n 2, 1) := by decide +kernel
theorem dX12_bitsOf_85 : decode cX12_bitsOf 85 = .ok (.i2l, 1) := by decide +kernel
theorem dX12_bitsOf_86 : decode cX12_bitsOf 86 = .ok (.lsub, 1) := by decide +kernel
theorem dX12_bitsOf_87 : decode cX12_bitsOf 87 = .ok (.lconst 1, 1) := by decide +kernel
theorem dX12_bitsOf_88 : decode cX12_bitsOf 88 = .ok (.lsub, 1) := by decide +kernel
theorem dX12_bitsOf_89 : decode cX12_bitsOf 89 = .ok (.bipush 23, 2) := by decide +kernel
theorem dX12_bitsOf_91 : decode cX12_bitsOf 91 = .ok (.lshl, 1) := by decide +kernel
theorem dX12_bitsOf_92 : decode cX12_bitsOf 92 = .ok (.lload 5, 2) := by decide +kernel
theorem dX12_bitsOf_94 : decode cX12_bitsOf 94 = .ok (.ladd, 1) := by decide +kernel
theorem dX12_bitsOf_95 : decode cX12_bitsOf 95 = .ok (.l2i, 1) := by decide +kernel
theorem dX12_bitsOf_96 : decode cX12_bitsOf 96 = .ok (.ireturn, 1) := by decide +kernel
theorem dX12_share_0 : decode cX12_share 0 = .ok (.aload_n 0, 1) := by decide +kernel
theorem dX12_share_1 : decode cX12_share 1 = .ok (.iconst 0, 1) := by decide +kernel
theorem dX12_share_2 : decode cX12_share 2 = .ok (.putfield 1, 3) := by decide +kernel
theorem dX12_share_5 : decode cX12_share 5 = .ok (.aload_n 0, 1) := by decide +kernel
theorem dX12_share_6 : decode cX12_share 6 = .ok (.iload_n 1, 1) := by decide +kernel
theorem dX12_share_7 : decode cX12_share 7 = .ok (.iload_n 2, 1) := by decide +kernel
theorem dX12_share_8 : decode cX12_share 8 = .ok (.invokevirtual 299, 3) := by decide +kernel
theorem dX12_share_11 : decode cX12_share 11 = .ok (.istore_n 3, 1) := by decide +kernel
theorem dX12_share_12 : decode cX12_share 12 = .ok (.iload_n 3, 1) := by decide +kernel
theorem dX12_share_13 : decode cX12_share 13 = .ok (.ifCond .ge 7, 3) := by decide +kernel
theorem dX12_share_16 : decode cX12_share 16 = .ok (.iload_n 3, 1) := by decide +kernel
theorem dX12_share_17 : decode cX12_share 17 = .ok (.goto 14, 3) := by decide +kernel
theorem dX12_share_20 : decode cX12_share 20 = .ok (.aload_n 0, 1) := by decide +kernel
theorem dX12_share_21 : decode cX12_share 21 = .ok (.getfield 291, 3) := by decide +kernel
theorem dX12_share_24 : decode cX12_share 24 = .ok (.aload_n 0, 1) := by decide +kernel
theorem dX12_share_25 : decode cX12_share 25 = .ok (.getfield 288, 3) := by decide +kernel
theorem dX12_share_28 : decode cX12_share 28 = .ok (.invokestatic 304, 3) := by decide +kernel
theorem dX12_share_31 : decode cX12_share 31 = .ok (.ireturn, 1) := by decide +kernel
theorem dX12_leastOf_0 : decode cX12_leastOf 0 = .ok (.iconst 0, 1) := by decide +kernel
theorem dX12_leastOf_1 : decode cX12_leastOf 1 = .ok (.istore_n 2, 1) := by decide +kernel
theorem dX12_leastOf_2 : decode cX12_leastOf 2 = .ok (.iconst 0, 1) := by decide +kernel
theorem dX12_leastOf_3 : decode cX12_leastOf 3 = .ok (.istore_n 3, 1) := by decide +kernel
theorem dX12_leastOf_4 : decode cX12_leastOf 4 = .ok (.iload_n 3, 1) := by decide +kernel
theorem dX12_leastOf_5 : decode cX12_leastOf 5 = .ok (.iload_n 1, 1) := by decide +kernel
theorem dX12_leastOf_6 : decode cX12_leastOf 6 = .ok (.if_icmp .ge 89, 3) := by decide +kernel
theorem dX12_leastOf_9 : decode cX12_leastOf 9 = .ok (.aload_n 0, 1) := by decide +kernel
theorem dX12_leastOf_10 : decode cX12_leastOf 10 = .ok (.getfield 30, 3) := by decide +kernel
theorem dX12_leastOf_13 : decode cX12_leastOf 13 = .ok (.iload_n 3, 1) := by decide +kernel
theorem dX12_leastOf_14 : decode cX12_leastOf 14 = .ok (.iaload, 1) := by decide +kernel
theorem dX12_leastOf_15 : decode cX12_leastOf 15 = .ok (.aload_n 0, 1) := by decide +kernel
theorem dX12_leastOf_16 : decode cX12_leastOf 16 = .ok (.getfield 30, 3) := by decide +kernel
theorem dX12_leastOf_19 : decode cX12_leastOf 19 = .ok (.iload_n 1, 1) := by decide +kernel
theorem dX12_leastOf_20 : decode cX12_leastOf 20 = .ok (.iaload, 1) := by decide +kernel
theorem dX12_leastOf_21 : decode cX12_leastOf 21 = .ok (.if_icmp .ne 9, 3) := by decide +kernel
theorem dX12_leastOf_24 : decode cX12_leastOf 24 = .ok (.aload_n 0, 1) := by decide +kernel
theorem dX12_leastOf_25 : decode cX12_leastOf 25 = .ok (.iload_n 3, 1) := by decide +kernel
theorem dX12_leastOf_26 : decode cX12_leastOf 26 = .ok (.invokevirtual 307, 3) := by decide +kernel
theorem dX12_leastOf_29 : decode cX12_leastOf 29 = .ok (.ireturn, 1) := by decide +kernel
theorem dX12_leastOf_30 : decode cX12_leastOf 30 = .ok (.iconst 1, 1) := by decide +kernel
theorem dX12_leastOf_31 : decode cX12_leastOf 31 = .ok (.istore 4, 2) := by decide +kernel
theorem dX12_leastOf_33 : decode cX12_leastOf 33 = .ok (.iconst 0, 1) := by decide +kernel
theorem dX12_leastOf_34 : decode cX12_leastOf 34 = .ok (.istore 5, 2) := by decide +kernel
theorem dX12_leastOf_36 : decode cX12_leastOf 36 = .ok (.iload 5, 2) := by decide +kernel
theorem dX12_leastOf_38 : decode cX12_leastOf 38 = .ok (.iload_n 3, 1) := by decide +kernel
theorem dX12_leastOf_39 : decode cX12_leastOf 39 = .ok (.if_icmp .ge 37, 3) := by decide +kernel
theorem dX12_leastOf_42 : decode cX12_leastOf 42 = .ok (.iload 4, 2) := by decide +kernel
theorem dX12_leastOf_44 : decode cX12_leastOf 44 = .ok (.ifCond .eq 23, 3) := by decide +kernel
theorem dX12_leastOf_47 : decode cX12_leastOf 47 = .ok (.aload_n 0, 1) := by decide +kernel
theorem dX12_leastOf_48 : decode cX12_leastOf 48 = .ok (.getfield 30, 3) := by decide +kernel
theorem dX12_leastOf_51 : decode cX12_leastOf 51 = .ok (.iload 5, 2) := by decide +kernel
theorem dX12_leastOf_53 : decode cX12_leastOf 53 = .ok (.iaload, 1) := by decide +kernel
theorem dX12_leastOf_54 : decode cX12_leastOf 54 = .ok (.aload_n 0, 1) := by decide +kernel
theorem dX12_leastOf_55 : decode cX12_leastOf 55 = .ok (.getfield 30, 3) := by decide +kernel
theorem dX12_leastOf_58 : decode cX12_leastOf 58 = .ok (.iload_n 3, 1) := by decide +kernel
theorem dX12_leastOf_59 : decode cX12_leastOf 59 = .ok (.iaload, 1) := by decide +kernel
theorem dX12_leastOf_60 : decode cX12_leastOf 60 = .ok (.if_icmp .eq 7, 3) := by decide +kernel
theorem dX12_leastOf_63 : decode cX12_leastOf 63 = .ok (.iconst 1, 1) := by decide +kernel
theorem dX12_leastOf_64 : decode cX12_leastOf 64 = .ok (.goto 4, 3) := by decide +kernel
theorem dX12_leastOf_67 : decode cX12_leastOf 67 = .ok (.iconst 0, 1) := by decide +kernel
theorem dX12_leastOf_68 : decode cX12_leastOf 68 = .ok (.istore 4, 2) := by decide +kernel
theorem dX12_leastOf_70 : decode cX12_leastOf 70 = .ok (.iinc 5 1, 3) := by decide +kernel
theorem dX12_leastOf_73 : decode cX12_leastOf 73 = .ok (.goto (-37), 3) := by decide +kernel
theorem dX12_leastOf_76 : decode cX12_leastOf 76 = .ok (.iload_n 2, 1) := by decide +kernel
theorem dX12_leastOf_77 : decode cX12_leastOf 77 = .ok (.iload 4, 2) := by decide +kernel
theorem dX12_leastOf_79 : decode cX12_leastOf 79 = .ok (.ifCond .eq 7, 3) := by decide +kernel
theorem dX12_leastOf_82 : decode cX12_leastOf 82 = .ok (.iconst 1, 1) := by decide +kernel
theorem dX12_leastOf_83 : decode cX12_leastOf 83 = .ok (.goto 4, 3) := by decide +kernel
theorem dX12_leastOf_86 : decode cX12_leastOf 86 = .ok (.iconst 0, 1) := by decide +kernel
theorem dX12_leastOf_87 : decode cX12_leastOf 87 = .ok (.iadd, 1) := by decide +kernel
theorem dX12_leastOf_88 : decode cX12_leastOf 88 = .ok (.istore_n 2, 1) := by decide +kernel
theorem dX12_leastOf_89 : decode cX12_leastOf 89 = .ok (.iinc 3 1, 3) := by decide +kernel
theorem dX12_leastOf_92 : decode cX12_leastOf 92 = .ok (.goto (-88), 3) := by decide +kernel
theorem dX12_leastOf_95 : decode cX12_leastOf 95 = .ok (.iload_n 2, 1) := by decide +kernel
theorem dX12_leastOf_96 : decode cX12_leastOf 96 = .ok (.ireturn, 1) := by decide +kernel
theorem dX12_letter_0 : decode cX12_letter 0 = .ok (.aload_n 0, 1) := by decide +kernel
theorem dX12_letter_1 : decode cX12_letter 1 = .ok (.iconst 0, 1) := by decide +kernel
theorem dX12_letter_2 : decode cX12_letter 2 = .ok (.putfield 1, 3) := by decide +kernel
theorem dX12_letter_5 : decode cX12_letter 5 = .ok (.iload_n 1, 1) := by decide +kernel
theorem dX12_letter_6 : decode cX12_letter 6 = .ok (.iconst (-1), 1) := by decide +kernel
theorem dX12_letter_7 : decode cX12_letter 7 = .ok (.if_icmp .ne 17, 3) := by decide +kernel
theorem dX12_letter_10 : decode cX12_letter 10 = .ok (.iload_n 2, 1) := by decide +kernel
theorem dX12_letter_11 : decode cX12_letter 11 = .ok (.ifCond .ne 10, 3) := by decide +kernel
theorem dX12_letter_14 : decode cX12_letter 14 = .ok (.aload_n 0, 1) := by decide +kernel
theorem dX12_letter_15 : decode cX12_letter 15 = .ok (.getfield 259, 3) := by decide +kernel
theorem dX12_letter_18 : decode cX12_letter 18 = .ok (.goto 5, 3) := by decide +kernel
theorem dX12_letter_21 : decode cX12_letter 21 = .ok (.bipush (-2), 2) := by decide +kernel
theorem dX12_letter_23 : decode cX12_letter 23 = .ok (.ireturn, 1) := by decide +kernel
theorem dX12_letter_24 : decode cX12_letter 24 = .ok (.iload_n 1, 1) := by decide +kernel
theorem dX12_letter_25 : decode cX12_letter 25 = .ok (.i2l, 1) := by decide +kernel
theorem dX12_letter_26 : decode cX12_letter 26 = .ok (.lconst 0, 1) := by decide +kernel
theorem dX12_letter_27 : decode cX12_letter 27 = .ok (.aload_n 0, 1) := by decide +kernel
theorem dX12_letter_28 : decode cX12_letter 28 = .ok (.getfield 259, 3) := by decide +kernel
theorem dX12_letter_31 : decode cX12_letter 31 = .ok (.iconst 1, 1) := by decide +kernel
theorem dX12_letter_32 : decode cX12_letter 32 = .ok (.isub, 1) := by decide +kernel
theorem dX12_letter_33 : decode cX12_letter 33 = .ok (.i2l, 1) := by decide +kernel
theorem dX12_letter_34 : decode cX12_letter 34 = .ok (.invokestatic 182, 3) := by decide +kernel
theorem dX12_letter_37 : decode cX12_letter 37 = .ok (.ifCond .eq 15, 3) := by decide +kernel
theorem dX12_letter_40 : decode cX12_letter 40 = .ok (.iload_n 2, 1) := by decide +kernel
theorem dX12_letter_41 : decode cX12_letter 41 = .ok (.i2l, 1) := by decide +kernel
theorem dX12_letter_42 : decode cX12_letter 42 = .ok (.lconst 0, 1) := by decide +kernel
theorem dX12_letter_43 : decode cX12_letter 43 = .ok (.ldc2_w 274, 3) := by decide +kernel
theorem dX12_letter_46 : decode cX12_letter 46 = .ok (.invokestatic 182, 3) := by decide +kernel
theorem dX12_letter_49 : decode cX12_letter 49 = .ok (.ifCond .ne 6, 3) := by decide +kernel
theorem dX12_letter_52 : decode cX12_letter 52 = .ok (.bipush (-2), 2) := by decide +kernel
theorem dX12_letter_54 : decode cX12_letter 54 = .ok (.ireturn, 1) := by decide +kernel
theorem dX12_letter_55 : decode cX12_letter 55 = .ok (.iload_n 2, 1) := by decide +kernel
theorem dX12_letter_56 : decode cX12_letter 56 = .ok (.ifCond .ne 12, 3) := by decide +kernel
theorem dX12_letter_59 : decode cX12_letter 59 = .ok (.aload_n 0, 1) := by decide +kernel
theorem dX12_letter_60 : decode cX12_letter 60 = .ok (.getfield 27, 3) := by decide +kernel
theorem dX12_letter_63 : decode cX12_letter 63 = .ok (.iload_n 1, 1) := by decide +kernel
theorem dX12_letter_64 : decode cX12_letter 64 = .ok (.iaload, 1) := by decide +kernel
theorem dX12_letter_65 : decode cX12_letter 65 = .ok (.goto 22, 3) := by decide +kernel
theorem dX12_letter_68 : decode cX12_letter 68 = .ok (.iload_n 2, 1) := by decide +kernel
theorem dX12_letter_69 : decode cX12_letter 69 = .ok (.iconst 1, 1) := by decide +kernel
theorem dX12_letter_70 : decode cX12_letter 70 = .ok (.if_icmp .ne 12, 3) := by decide +kernel
theorem dX12_letter_73 : decode cX12_letter 73 = .ok (.aload_n 0, 1) := by decide +kernel
theorem dX12_letter_74 : decode cX12_letter 74 = .ok (.getfield 30, 3) := by decide +kernel
theorem dX12_letter_77 : decode cX12_letter 77 = .ok (.iload_n 1, 1) := by decide +kernel
theorem dX12_letter_78 : decode cX12_letter 78 = .ok (.iaload, 1) := by decide +kernel
theorem dX12_letter_79 : decode cX12_letter 79 = .ok (.goto 8, 3) := by decide +kernel
theorem dX12_letter_82 : decode cX12_letter 82 = .ok (.aload_n 0, 1) := by decide +kernel
theorem dX12_letter_83 : decode cX12_letter 83 = .ok (.iload_n 1, 1) := by decide +kernel
theorem dX12_letter_84 : decode cX12_letter 84 = .ok (.invokevirtual 307, 3) := by decide +kernel
theorem dX12_letter_87 : decode cX12_letter 87 = .ok (.ireturn, 1) := by decide +kernel
theorem dX12_takesShort_0 : decode cX12_takesShort 0 = .ok (.aload_n 0, 1) := by decide +kernel
theorem dX12_takesShort_1 : decode cX12_takesShort 1 = .ok (.aload_n 0, 1) := by decide +kernel
theorem dX12_takesShort_2 : decode cX12_takesShort 2 = .ok (.getfield 39, 3) := by decide +kernel
theorem dX12_takesShort_5 : decode cX12_takesShort 5 = .ok (.iload_n 1, 1) := by decide +kernel
theorem dX12_takesShort_6 : decode cX12_takesShort 6 = .ok (.iaload, 1) := by decide +kernel
theorem dX12_takesShort_7 : decode cX12_takesShort 7 = .ok (.putfield 319, 3) := by decide +kernel
theorem dX12_takesShort_10 : decode cX12_takesShort 10 = .ok (.iconst 0, 1) := by decide +kernel
theorem dX12_takesShort_11 : decode cX12_takesShort 11 = .ok (.istore_n 2, 1) := by decide +kernel
theorem dX12_takesShort_12 : decode cX12_takesShort 12 = .ok (.iload_n 2, 1) := by decide +kernel
theorem dX12_takesShort_13 : decode cX12_takesShort 13 = .ok (.aload_n 0, 1) := by decide +kernel
theorem dX12_takesShort_14 : decode cX12_takesShort 14 = .ok (.getfield 319, 3) := by decide +kernel
theorem dX12_takesShort_17 : decode cX12_takesShort 17 = .ok (.if_icmp .ge 43, 3) := by decide +kernel
theorem dX12_takesShort_20 : decode cX12_takesShort 20 = .ok (.aload_n 0, 1) := by decide +kernel
theorem dX12_takesShort_21 : decode cX12_takesShort 21 = .ok (.getfield 69, 3) := by decide +kernel
theorem dX12_takesShort_24 : decode cX12_takesShort 24 = .ok (.iload_n 2, 1) := by decide +kernel
theorem dX12_takesShort_25 : decode cX12_takesShort 25 = .ok (.aload_n 0, 1) := by decide +kernel
theorem dX12_takesShort_26 : decode cX12_takesShort 26 = .ok (.getfield 42, 3) := by decide +kernel
theorem dX12_takesShort_29 : decode cX12_takesShort 29 = .ok (.bipush 6, 2) := by decide +kernel
theorem dX12_takesShort_31 : decode cX12_takesShort 31 = .ok (.iload_n 1, 1) := by decide +kernel
theorem dX12_takesShort_32 : decode cX12_takesShort 32 = .ok (.imul, 1) := by decide +kernel
theorem dX12_takesShort_33 : decode cX12_takesShort 33 = .ok (.iload_n 2, 1) := by decide +kernel
theorem dX12_takesShort_34 : decode cX12_takesShort 34 = .ok (.iadd, 1) := by decide +kernel
theorem dX12_takesShort_35 : decode cX12_takesShort 35 = .ok (.iaload, 1) := by decide +kernel
theorem dX12_takesShort_36 : decode cX12_takesShort 36 = .ok (.iastore, 1) := by decide +kernel
theorem dX12_takesShort_37 : decode cX12_takesShort 37 = .ok (.aload_n 0, 1) := by decide +kernel
theorem dX12_takesShort_38 : decode cX12_takesShort 38 = .ok (.getfield 72, 3) := by decide +kernel
theorem dX12_takesShort_41 : decode cX12_takesShort 41 = .ok (.iload_n 2, 1) := by decide +kernel
theorem dX12_takesShort_42 : decode cX12_takesShort 42 = .ok (.aload_n 0, 1) := by decide +kernel
theorem dX12_takesShort_43 : decode cX12_takesShort 43 = .ok (.getfield 45, 3) := by decide +kernel
theorem dX12_takesShort_46 : decode cX12_takesShort 46 = .ok (.bipush 6, 2) := by decide +kernel
theorem dX12_takesShort_48 : decode cX12_takesShort 48 = .ok (.iload_n 1, 1) := by decide +kernel
theorem dX12_takesShort_49 : decode cX12_takesShort 49 = .ok (.imul, 1) := by decide +kernel
theorem dX12_takesShort_50 : decode cX12_takesShort 50 = .ok (.iload_n 2, 1) := by decide +kernel
theorem dX12_takesShort_51 : decode cX12_takesShort 51 = .ok (.iadd, 1) := by decide +kernel
theorem dX12_takesShort_52 : decode cX12_takesShort 52 = .ok (.iaload, 1) := by decide +kernel
theorem dX12_takesShort_53 : decode cX12_takesShort 53 = .ok (.iastore, 1) := by decide +kernel
theorem dX12_takesShort_54 : decode cX12_takesShort 54 = .ok (.iinc 2 1, 3) := by decide +kernel
theorem dX12_takesShort_57 : decode cX12_takesShort 57 = .ok (.goto (-45), 3) := by decide +kernel
theorem dX12_takesShort_60 : decode cX12_takesShort 60 = .ok (.return_, 1) := by decide +kernel
theorem dX12_takesLetter_0 : decode cX12_takesLetter 0 = .ok (.aload_n 0, 1) := by decide +kernel
theorem dX12_takesLetter_1 : decode cX12_takesLetter 1 = .ok (.getfield 69, 3) := by decide +kernel
theorem dX12_takesLetter_4 : decode cX12_takesLetter 4 = .ok (.aload_n 0, 1) := by decide +kernel
theorem dX12_takesLetter_5 : decode cX12_takesLetter 5 = .ok (.getfield 319, 3) := by decide +kernel
theorem dX12_takesLetter_8 : decode cX12_takesLetter 8 = .ok (.iload_n 1, 1) := by decide +kernel
theorem dX12_takesLetter_9 : decode cX12_takesLetter 9 = .ok (.iastore, 1) := by decide +kernel
theorem dX12_takesLetter_10 : decode cX12_takesLetter 10 = .ok (.aload_n 0, 1) := by decide +kernel
theorem dX12_takesLetter_11 : decode cX12_takesLetter 11 = .ok (.getfield 72, 3) := by decide +kernel
theorem dX12_takesLetter_14 : decode cX12_takesLetter 14 = .ok (.aload_n 0, 1) := by decide +kernel
theorem dX12_takesLetter_15 : decode cX12_takesLetter 15 = .ok (.getfield 319, 3) := by decide +kernel
theorem dX12_takesLetter_18 : decode cX12_takesLetter 18 = .ok (.iload_n 2, 1) := by decide +kernel
theorem dX12_takesLetter_19 : decode cX12_takesLetter 19 = .ok (.iastore, 1) := by decide +kernel
theorem dX12_takesLetter_20 : decode cX12_takesLetter 20 = .ok (.aload_n 0, 1) := by decide +kernel
theorem dX12_takesLetter_21 : decode cX12_takesLetter 21 = .ok (.dup, 1) := by decide +kernel
theorem dX12_takesLetter_22 : decode cX12_takesLetter 22 = .ok (.getfield 319, 3) := by decide +kernel
theorem dX12_takesLetter_25 : decode cX12_takesLetter 25 = .ok (.iconst 1, 1) := by decide +kernel
theorem dX12_takesLetter_26 : decode cX12_takesLetter 26 = .ok (.iadd, 1) := by decide +kernel
theorem dX12_takesLetter_27 : decode cX12_takesLetter 27 = .ok (.putfield 319, 3) := by decide +kernel
theorem dX12_takesLetter_30 : decode cX12_takesLetter 30 = .ok (.return_, 1) := by decide +kernel
theorem dX12_takesLong_0 : decode cX12_takesLong 0 = .ok (.aload_n 0, 1) := by decide +kernel
theorem dX12_takesLong_1 : decode cX12_takesLong 1 = .ok (.iload_n 1, 1) := by decide +kernel
theorem dX12_takesLong_2 : decode cX12_takesLong 2 = .ok (.invokevirtual 322, 3) := by decide +kernel
theorem dX12_takesLong_5 : decode cX12_takesLong 5 = .ok (.aload_n 0, 1) := by decide +kernel
theorem dX12_takesLong_6 : decode cX12_takesLong 6 = .ok (.iload_n 2, 1) := by decide +kernel
theorem dX12_takesLong_7 : decode cX12_takesLong 7 = .ok (.iload_n 3, 1) := by decide +kernel
theorem dX12_takesLong_8 : decode cX12_takesLong 8 = .ok (.invokevirtual 325, 3) := by decide +kernel
theorem dX12_takesLong_11 : decode cX12_takesLong 11 = .ok (.return_, 1) := by decide +kernel
theorem dX12_takesTold_0 : decode cX12_takesTold 0 = .ok (.aload_n 0, 1) := by decide +kernel
theorem dX12_takesTold_1 : decode cX12_takesTold 1 = .ok (.aload_n 0, 1) := by decide +kernel
theorem dX12_takesTold_2 : decode cX12_takesTold 2 = .ok (.getfield 259, 3) := by decide +kernel
theorem dX12_takesTold_5 : decode cX12_takesTold 5 = .ok (.putfield 319, 3) := by decide +kernel
theorem dX12_takesTold_8 : decode cX12_takesTold 8 = .ok (.iconst 0, 1) := by decide +kernel
theorem dX12_takesTold_9 : decode cX12_takesTold 9 = .ok (.istore_n 1, 1) := by decide +kernel
theorem dX12_takesTold_10 : decode cX12_takesTold 10 = .ok (.iload_n 1, 1) := by decide +kernel
theorem dX12_takesTold_11 : decode cX12_takesTold 11 = .ok (.aload_n 0, 1) := by decide +kernel
theorem dX12_takesTold_12 : decode cX12_takesTold 12 = .ok (.getfield 259, 3) := by decide +kernel
theorem dX12_takesTold_15 : decode cX12_takesTold 15 = .ok (.if_icmp .ge 32, 3) := by decide +kernel
theorem dX12_takesTold_18 : decode cX12_takesTold 18 = .ok (.aload_n 0, 1) := by decide +kernel
theorem dX12_takesTold_19 : decode cX12_takesTold 19 = .ok (.getfield 69, 3) := by decide +kernel
theorem dX12_takesTold_22 : decode cX12_takesTold 22 = .ok (.iload_n 1, 1) := by decide +kernel
theorem dX12_takesTold_23 : decode cX12_takesTold 23 = .ok (.aload_n 0, 1) := by decide +kernel
theorem dX12_takesTold_24 : decode cX12_takesTold 24 = .ok (.getfield 27, 3) := by decide +kernel
theorem dX12_takesTold_27 : decode cX12_takesTold 27 = .ok (.iload_n 1, 1) := by decide +kernel
theorem dX12_takesTold_28 : decode cX12_takesTold 28 = .ok (.iaload, 1) := by decide +kernel
theorem dX12_takesTold_29 : decode cX12_takesTold 29 = .ok (.iastore, 1) := by decide +kernel
theorem dX12_takesTold_30 : decode cX12_takesTold 30 = .ok (.aload_n 0, 1) := by decide +kernel
theorem dX12_takesTold_31 : decode cX12_takesTold 31 = .ok (.getfield 72, 3) := by decide +kernel
theorem dX12_takesTold_34 : decode cX12_takesTold 34 = .ok (.iload_n 1, 1) := by decide +kernel
theorem dX12_takesTold_35 : decode cX12_takesTold 35 = .ok (.aload_n 0, 1) := by decide +kernel
theorem dX12_takesTold_36 : decode cX12_takesTold 36 = .ok (.iload_n 1, 1) := by decide +kernel
theorem dX12_takesTold_37 : decode cX12_takesTold 37 = .ok (.invokevirtual 307, 3) := by decide +kernel
theorem dX12_takesTold_40 : decode cX12_takesTold 40 = .ok (.iastore, 1) := by decide +kernel
theorem dX12_takesTold_41 : decode cX12_takesTold 41 = .ok (.iinc 1 1, 3) := by decide +kernel
theorem dX12_takesTold_44 : decode cX12_takesTold 44 = .ok (.goto (-34), 3) := by decide +kernel
theorem dX12_takesTold_47 : decode cX12_takesTold 47 = .ok (.return_, 1) := by decide +kernel
theorem dX12_namesOf_0 : decode cX12_namesOf 0 = .ok (.iconst 0, 1) := by decide +kernel
theorem dX12_namesOf_1 : decode cX12_namesOf 1 = .ok (.istore 4, 2) := by decide +kernel
theorem dX12_namesOf_3 : decode cX12_namesOf 3 = .ok (.iconst 0, 1) := by decide +kernel
theorem dX12_namesOf_4 : decode cX12_namesOf 4 = .ok (.istore 5, 2) := by decide +kernel
theorem dX12_namesOf_6 : decode cX12_namesOf 6 = .ok (.iload 5, 2) := by decide +kernel
theorem dX12_namesOf_8 : decode cX12_namesOf 8 = .ok (.iload_n 3, 1) := by decide +kernel
theorem dX12_namesOf_9 : decode cX12_namesOf 9 = .ok (.if_icmp .ge 35, 3) := by decide +kernel
theorem dX12_namesOf_12 : decode cX12_namesOf 12 = .ok (.aload_n 1, 1) := by decide +kernel
theorem dX12_namesOf_13 : decode cX12_namesOf 13 = .ok (.iload_n 2, 1) := by decide +kernel
theorem dX12_namesOf_14 : decode cX12_namesOf 14 = .ok (.iload 5, 2) := by decide +kernel
theorem dX12_namesOf_16 : decode cX12_namesOf 16 = .ok (.iadd, 1) := by decide +kernel
theorem dX12_namesOf_17 : decode cX12_namesOf 17 = .ok (.iaload, 1) := by decide +kernel
theorem dX12_namesOf_18 : decode cX12_namesOf 18 = .ok (.iload 4, 2) := by decide +kernel
theorem dX12_namesOf_20 : decode cX12_namesOf 20 = .ok (.if_icmp .lt 14, 3) := by decide +kernel
theorem dX12_namesOf_23 : decode cX12_namesOf 23 = .ok (.aload_n 1, 1) := by decide +kernel
theorem dX12_namesOf_24 : decode cX12_namesOf 24 = .ok (.iload_n 2, 1) := by decide +kernel
theorem dX12_namesOf_25 : decode cX12_namesOf 25 = .ok (.iload 5, 2) := by decide +kernel
theorem dX12_namesOf_27 : decode cX12_namesOf 27 = .ok (.iadd, 1) := by decide +kernel
theorem dX12_namesOf_28 : decode cX12_namesOf 28 = .ok (.iaload, 1) := by decide +kernel
theorem dX12_namesOf_29 : decode cX12_namesOf 29 = .ok (.iconst 1, 1) := by decide +kernel
theorem dX12_namesOf_30 : decode cX12_namesOf 30 = .ok (.iadd, 1) := by decide +kernel
theorem dX12_namesOf_31 : decode cX12_namesOf 31 = .ok (.goto 5, 3) := by decide +kernel
theorem dX12_namesOf_34 : decode cX12_namesOf 34 = .ok (.iload 4, 2) := by decide +kernel
theorem dX12_namesOf_36 : decode cX12_namesOf 36 = .ok (.istore 4, 2) := by decide +kernel
theorem dX12_namesOf_38 : decode cX12_namesOf 38 = .ok (.iinc 5 1, 3) := by decide +kernel
theorem dX12_namesOf_41 : decode cX12_namesOf 41 = .ok (.goto (-35), 3) := by decide +kernel
theorem dX12_namesOf_44 : decode cX12_namesOf 44 = .ok (.iload 4, 2) := by decide +kernel
theorem dX12_namesOf_46 : decode cX12_namesOf 46 = .ok (.ireturn, 1) := by decide +kernel
theorem dX12_namesOfShort_0 : decode cX12_namesOfShort 0 = .ok (.aload_n 0, 1) := by decide +kernel
theorem dX12_namesOfShort_1 : decode cX12_namesOfShort 1 = .ok (.aload_n 0, 1) := by decide +kernel
theorem dX12_namesOfShort_2 : decode cX12_namesOfShort 2 = .ok (.getfield 45, 3) := by decide +kernel
theorem dX12_namesOfShort_5 : decode cX12_namesOfShort 5 = .ok (.bipush 6, 2) := by decide +kernel
theorem dX12_namesOfShort_7 : decode cX12_namesOfShort 7 = .ok (.iload_n 1, 1) := by decide +kernel
theorem dX12_namesOfShort_8 : decode cX12_namesOfShort 8 = .ok (.imul, 1) := by decide +kernel
theorem dX12_namesOfShort_9 : decode cX12_namesOfShort 9 = .ok (.aload_n 0, 1) := by decide +kernel
theorem dX12_namesOfShort_10 : decode cX12_namesOfShort 10 = .ok (.getfield 39, 3) := by decide +kernel
theorem dX12_namesOfShort_13 : decode cX12_namesOfShort 13 = .ok (.iload_n 1, 1) := by decide +kernel
theorem dX12_namesOfShort_14 : decode cX12_namesOfShort 14 = .ok (.iaload, 1) := by decide +kernel
theorem dX12_namesOfShort_15 : decode cX12_namesOfShort 15 = .ok (.invokevirtual 328, 3) := by decide +kernel
theorem dX12_namesOfShort_18 : decode cX12_namesOfShort 18 = .ok (.ireturn, 1) := by decide +kernel
theorem dX12_leasts_0 : decode cX12_leasts 0 = .ok (.iconst 0, 1) := by decide +kernel
theorem dX12_leasts_1 : decode cX12_leasts 1 = .ok (.istore_n 1, 1) := by decide +kernel
theorem dX12_leasts_2 : decode cX12_leasts 2 = .ok (.iconst 0, 1) := by decide +kernel
theorem dX12_leasts_3 : decode cX12_leasts 3 = .ok (.istore_n 2, 1) := by decide +kernel
theorem dX12_leasts_4 : decode cX12_leasts 4 = .ok (.iload_n 2, 1) := by decide +kernel
theorem dX12_leasts_5 : decode cX12_leasts 5 = .ok (.aload_n 0, 1) := by decide +kernel
theorem dX12_leasts_6 : decode cX12_leasts 6 = .ok (.getfield 319, 3) := by decide +kernel
theorem dX12_leasts_9 : decode cX12_leasts 9 = .ok (.if_icmp .ge 63, 3) := by decide +kernel
theorem dX12_leasts_12 : decode cX12_leasts 12 = .ok (.aload_n 0, 1) := by decide +kernel
theorem dX12_leasts_13 : decode cX12_leasts 13 = .ok (.getfield 72, 3) := by decide +kernel
theorem dX12_leasts_16 : decode cX12_leasts 16 = .ok (.iload_n 2, 1) := by decide +kernel
theorem dX12_leasts_17 : decode cX12_leasts 17 = .ok (.iaload, 1) := by decide +kernel
theorem dX12_leasts_18 : decode cX12_leasts 18 = .ok (.istore_n 3, 1) := by decide +kernel
theorem dX12_leasts_19 : decode cX12_leasts 19 = .ok (.iload_n 3, 1) := by decide +kernel
theorem dX12_leasts_20 : decode cX12_leasts 20 = .ok (.ifCond .ge 6, 3) := by decide +kernel
theorem dX12_leasts_23 : decode cX12_leasts 23 = .ok (.goto 43, 3) := by decide +kernel
theorem dX12_leasts_26 : decode cX12_leasts 26 = .ok (.iinc 1 (-1), 3) := by decide +kernel
theorem dX12_leasts_29 : decode cX12_leasts 29 = .ok (.iload_n 2, 1) := by decide +kernel
theorem dX12_leasts_30 : decode cX12_leasts 30 = .ok (.istore 4, 2) := by decide +kernel
theorem dX12_leasts_32 : decode cX12_leasts 32 = .ok (.iload 4, 2) := by decide +kernel
theorem dX12_leasts_34 : decode cX12_leasts 34 = .ok (.aload_n 0, 1) := by decide +kernel
theorem dX12_leasts_35 : decode cX12_leasts 35 = .ok (.getfield 319, 3) := by decide +kernel
theorem dX12_leasts_38 : decode cX12_leasts 38 = .ok (.if_icmp .ge 28, 3) := by decide +kernel
theorem dX12_leasts_41 : decode cX12_leasts 41 = .ok (.aload_n 0, 1) := by decide +kernel
theorem dX12_leasts_42 : decode cX12_leasts 42 = .ok (.getfield 72, 3) := by decide +kernel
theorem dX12_leasts_45 : decode cX12_leasts 45 = .ok (.iload 4, 2) := by decide +kernel
theorem dX12_leasts_47 : decode cX12_leasts 47 = .ok (.iaload, 1) := by decide +kernel
theorem dX12_leasts_48 : decode cX12_leasts 48 = .ok (.iload_n 3, 1) := by decide +kernel
theorem dX12_leasts_49 : decode cX12_leasts 49 = .ok (.if_icmp .ne 11, 3) := by decide +kernel
theorem dX12_leasts_52 : decode cX12_leasts 52 = .ok (.aload_n 0, 1) := by decide +kernel
theorem dX12_leasts_53 : decode cX12_leasts 53 = .ok (.getfield 72, 3) := by decide +kernel
theorem dX12_leasts_56 : decode cX12_leasts 56 = .ok (.iload 4, 2) := by decide +kernel
theorem dX12_leasts_58 : decode cX12_leasts 58 = .ok (.iload_n 1, 1) := by decide +kernel
theorem dX12_leasts_59 : decode cX12_leasts 59 = .ok (.iastore, 1) := by decide +kernel
theorem dX12_leasts_60 : decode cX12_leasts 60 = .ok (.iinc 4 1, 3) := by decide +kernel
theorem dX12_leasts_63 : decode cX12_leasts 63 = .ok (.goto (-31), 3) := by decide +kernel
theorem dX12_leasts_66 : decode cX12_leasts 66 = .ok (.iinc 2 1, 3) := by decide +kernel
theorem dX12_leasts_69 : decode cX12_leasts 69 = .ok (.goto (-65), 3) := by decide +kernel
theorem dX12_leasts_72 : decode cX12_leasts 72 = .ok (.iconst 0, 1) := by decide +kernel
theorem dX12_leasts_73 : decode cX12_leasts 73 = .ok (.istore_n 2, 1) := by decide +kernel
theorem dX12_leasts_74 : decode cX12_leasts 74 = .ok (.iload_n 2, 1) := by decide +kernel
theorem dX12_leasts_75 : decode cX12_leasts 75 = .ok (.aload_n 0, 1) := by decide +kernel
theorem dX12_leasts_76 : decode cX12_leasts 76 = .ok (.getfield 319, 3) := by decide +kernel
theorem dX12_leasts_79 : decode cX12_leasts 79 = .ok (.if_icmp .ge 23, 3) := by decide +kernel
theorem dX12_leasts_82 : decode cX12_leasts 82 = .ok (.aload_n 0, 1) := by decide +kernel
theorem dX12_leasts_83 : decode cX12_leasts 83 = .ok (.getfield 72, 3) := by decide +kernel
theorem dX12_leasts_86 : decode cX12_leasts 86 = .ok (.iload_n 2, 1) := by decide +kernel
theorem dX12_leasts_87 : decode cX12_leasts 87 = .ok (.iconst (-1), 1) := by decide +kernel
theorem dX12_leasts_88 : decode cX12_leasts 88 = .ok (.aload_n 0, 1) := by decide +kernel
theorem dX12_leasts_89 : decode cX12_leasts 89 = .ok (.getfield 72, 3) := by decide +kernel
theorem dX12_leasts_92 : decode cX12_leasts 92 = .ok (.iload_n 2, 1) := by decide +kernel
theorem dX12_leasts_93 : decode cX12_leasts 93 = .ok (.iaload, 1) := by decide +kernel
theorem dX12_leasts_94 : decode cX12_leasts 94 = .ok (.isub, 1) := by decide +kernel
theorem dX12_leasts_95 : decode cX12_leasts 95 = .ok (.iastore, 1) := by decide +kernel
theorem dX12_leasts_96 : decode cX12_leasts 96 = .ok (.iinc 2 1, 3) := by decide +kernel
theorem dX12_leasts_99 : decode cX12_leasts 99 = .ok (.goto (-25), 3) := by decide +kernel
theorem dX12_leasts_102 : decode cX12_leasts 102 = .ok (.return_, 1) := by decide +kernel
theorem dX12_runs_0 : decode cX12_runs 0 = .ok (.aload_n 0, 1) := by decide +kernel
theorem dX12_runs_1 : decode cX12_runs 1 = .ok (.invokevirtual 276, 3) := by decide +kernel
theorem dX12_runs_4 : decode cX12_runs 4 = .ok (.iconst 0, 1) := by decide +kernel
theorem dX12_runs_5 : decode cX12_runs 5 = .ok (.istore_n 1, 1) := by decide +kernel
theorem dX12_runs_6 : decode cX12_runs 6 = .ok (.iload_n 1, 1) := by decide +kernel
theorem dX12_runs_7 : decode cX12_runs 7 = .ok (.aload_n 0, 1) := by decide +kernel
theorem dX12_runs_8 : decode cX12_runs 8 = .ok (.getfield 319, 3) := by decide +kernel
theorem dX12_runs_11 : decode cX12_runs 11 = .ok (.if_icmp .ge 26, 3) := by decide +kernel
theorem dX12_runs_14 : decode cX12_runs 14 = .ok (.aload_n 0, 1) := by decide +kernel
theorem dX12_runs_15 : decode cX12_runs 15 = .ok (.iconst 0, 1) := by decide +kernel
theorem dX12_runs_16 : decode cX12_runs 16 = .ok (.aload_n 0, 1) := by decide +kernel
theorem dX12_runs_17 : decode cX12_runs 17 = .ok (.getfield 69, 3) := by decide +kernel
theorem dX12_runs_20 : decode cX12_runs 20 = .ok (.iload_n 1, 1) := by decide +kernel
theorem dX12_runs_21 : decode cX12_runs 21 = .ok (.iaload, 1) := by decide +kernel
theorem dX12_runs_22 : decode cX12_runs 22 = .ok (.aload_n 0, 1) := by decide +kernel
theorem dX12_runs_23 : decode cX12_runs 23 = .ok (.getfield 72, 3) := by decide +kernel
theorem dX12_runs_26 : decode cX12_runs 26 = .ok (.iload_n 1, 1) := by decide +kernel
theorem dX12_runs_27 : decode cX12_runs 27 = .ok (.iaload, 1) := by decide +kernel
theorem dX12_runs_28 : decode cX12_runs 28 = .ok (.invokevirtual 279, 3) := by decide +kernel
theorem dX12_runs_31 : decode cX12_runs 31 = .ok (.iinc 1 1, 3) := by decide +kernel
theorem dX12_runs_34 : decode cX12_runs 34 = .ok (.goto (-28), 3) := by decide +kernel
theorem dX12_runs_37 : decode cX12_runs 37 = .ok (.return_, 1) := by decide +kernel
theorem dX12_keepsOne_0 : decode cX12_keepsOne 0 = .ok (.aload_n 0, 1) := by decide +kernel
theorem dX12_keepsOne_1 : decode cX12_keepsOne 1 = .ok (.invokevirtual 332, 3) := by decide +kernel
theorem dX12_keepsOne_4 : decode cX12_keepsOne 4 = .ok (.aload_n 0, 1) := by decide +kernel
theorem dX12_keepsOne_5 : decode cX12_keepsOne 5 = .ok (.aload_n 0, 1) := by decide +kernel
theorem dX12_keepsOne_6 : decode cX12_keepsOne 6 = .ok (.getfield 135, 3) := by decide +kernel
theorem dX12_keepsOne_9 : decode cX12_keepsOne 9 = .ok (.putfield 335, 3) := by decide +kernel
theorem dX12_keepsOne_12 : decode cX12_keepsOne 12 = .ok (.aload_n 0, 1) := by decide +kernel
theorem dX12_keepsOne_13 : decode cX12_keepsOne 13 = .ok (.aload_n 0, 1) := by decide +kernel
theorem dX12_keepsOne_14 : decode cX12_keepsOne 14 = .ok (.getfield 138, 3) := by decide +kernel
theorem dX12_keepsOne_17 : decode cX12_keepsOne 17 = .ok (.putfield 338, 3) := by decide +kernel
theorem dX12_keepsOne_20 : decode cX12_keepsOne 20 = .ok (.aload_n 0, 1) := by decide +kernel
theorem dX12_keepsOne_21 : decode cX12_keepsOne 21 = .ok (.aload_n 0, 1) := by decide +kernel
theorem dX12_keepsOne_22 : decode cX12_keepsOne 22 = .ok (.getfield 141, 3) := by decide +kernel
theorem dX12_keepsOne_25 : decode cX12_keepsOne 25 = .ok (.putfield 341, 3) := by decide +kernel
theorem dX12_keepsOne_28 : decode cX12_keepsOne 28 = .ok (.return_, 1) := by decide +kernel
theorem dX12_answers_0 : decode cX12_answers 0 = .ok (.aload_n 0, 1) := by decide +kernel
theorem dX12_answers_1 : decode cX12_answers 1 = .ok (.iload_n 2, 1) := by decide +kernel
theorem dX12_answers_2 : decode cX12_answers 2 = .ok (.iload_n 3, 1) := by decide +kernel
theorem dX12_answers_3 : decode cX12_answers 3 = .ok (.iload 4, 2) := by decide +kernel
theorem dX12_answers_5 : decode cX12_answers 5 = .ok (.invokevirtual 144, 3) := by decide +kernel
theorem dX12_answers_8 : decode cX12_answers 8 = .ok (.iconst 0, 1) := by decide +kernel
theorem dX12_answers_9 : decode cX12_answers 9 = .ok (.istore 6, 2) := by decide +kernel
theorem dX12_answers_11 : decode cX12_answers 11 = .ok (.iload 6, 2) := by decide +kernel
theorem dX12_answers_13 : decode cX12_answers 13 = .ok (.aload_n 0, 1) := by decide +kernel
theorem dX12_answers_14 : decode cX12_answers 14 = .ok (.getfield 48, 3) := by decide +kernel
theorem dX12_answers_17 : decode cX12_answers 17 = .ok (.iload_n 1, 1) := by decide +kernel
theorem dX12_answers_18 : decode cX12_answers 18 = .ok (.iaload, 1) := by decide +kernel
theorem dX12_answers_19 : decode cX12_answers 19 = .ok (.if_icmp .ge 41, 3) := by decide +kernel
theorem dX12_answers_22 : decode cX12_answers 22 = .ok (.aload_n 0, 1) := by decide +kernel
theorem dX12_answers_23 : decode cX12_answers 23 = .ok (.iconst 0, 1) := by decide +kernel
theorem dX12_answers_24 : decode cX12_answers 24 = .ok (.aload_n 0, 1) := by decide +kernel
theorem dX12_answers_25 : decode cX12_answers 25 = .ok (.getfield 51, 3) := by decide +kernel
theorem dX12_answers_28 : decode cX12_answers 28 = .ok (.bipush 6, 2) := by decide +kernel
theorem dX12_answers_30 : decode cX12_answers 30 = .ok (.iload_n 1, 1) := by decide +kernel
theorem dX12_answers_31 : decode cX12_answers 31 = .ok (.imul, 1) := by decide +kernel
theorem dX12_answers_32 : decode cX12_answers 32 = .ok (.iload 6, 2) := by decide +kernel
theorem dX12_answers_34 : decode cX12_answers 34 = .ok (.iadd, 1) := by decide +kernel
theorem dX12_answers_35 : decode cX12_answers 35 = .ok (.iaload, 1) := by decide +kernel
theorem dX12_answers_36 : decode cX12_answers 36 = .ok (.aload 5, 2) := by decide +kernel
theorem dX12_answers_38 : decode cX12_answers 38 = .ok (.aload_n 0, 1) := by decide +kernel
theorem dX12_answers_39 : decode cX12_answers 39 = .ok (.getfield 54, 3) := by decide +kernel
theorem dX12_answers_42 : decode cX12_answers 42 = .ok (.bipush 6, 2) := by decide +kernel
theorem dX12_answers_44 : decode cX12_answers 44 = .ok (.iload_n 1, 1) := by decide +kernel
theorem dX12_answers_45 : decode cX12_answers 45 = .ok (.imul, 1) := by decide +kernel
theorem dX12_answers_46 : decode cX12_answers 46 = .ok (.iload 6, 2) := by decide +kernel
theorem dX12_answers_48 : decode cX12_answers 48 = .ok (.iadd, 1) := by decide +kernel
theorem dX12_answers_49 : decode cX12_answers 49 = .ok (.iaload, 1) := by decide +kernel
theorem dX12_answers_50 : decode cX12_answers 50 = .ok (.iaload, 1) := by decide +kernel
theorem dX12_answers_51 : decode cX12_answers 51 = .ok (.invokevirtual 279, 3) := by decide +kernel
theorem dX12_answers_54 : decode cX12_answers 54 = .ok (.iinc 6 1, 3) := by decide +kernel
theorem dX12_answers_57 : decode cX12_answers 57 = .ok (.goto (-46), 3) := by decide +kernel
theorem dX12_answers_60 : decode cX12_answers 60 = .ok (.aload_n 0, 1) := by decide +kernel
theorem dX12_answers_61 : decode cX12_answers 61 = .ok (.iconst 0, 1) := by decide +kernel
theorem dX12_answers_62 : decode cX12_answers 62 = .ok (.invokevirtual 285, 3) := by decide +kernel
theorem dX12_answers_65 : decode cX12_answers 65 = .ok (.ireturn, 1) := by decide +kernel
theorem dX12_answersOne_0 : decode cX12_answersOne 0 = .ok (.aload_n 0, 1) := by decide +kernel
theorem dX12_answersOne_1 : decode cX12_answersOne 1 = .ok (.iload_n 1, 1) := by decide +kernel
theorem dX12_answersOne_2 : decode cX12_answersOne 2 = .ok (.aload_n 0, 1) := by decide +kernel
theorem dX12_answersOne_3 : decode cX12_answersOne 3 = .ok (.getfield 335, 3) := by decide +kernel
theorem dX12_answersOne_6 : decode cX12_answersOne 6 = .ok (.aload_n 0, 1) := by decide +kernel
theorem dX12_answersOne_7 : decode cX12_answersOne 7 = .ok (.getfield 338, 3) := by decide +kernel
theorem dX12_answersOne_10 : decode cX12_answersOne 10 = .ok (.aload_n 0, 1) := by decide +kernel
theorem dX12_answersOne_11 : decode cX12_answersOne 11 = .ok (.getfield 341, 3) := by decide +kernel
theorem dX12_answersOne_14 : decode cX12_answersOne 14 = .ok (.aload_n 0, 1) := by decide +kernel
theorem dX12_answersOne_15 : decode cX12_answersOne 15 = .ok (.getfield 75, 3) := by decide +kernel
theorem dX12_answersOne_18 : decode cX12_answersOne 18 = .ok (.invokevirtual 344, 3) := by decide +kernel
theorem dX12_answersOne_21 : decode cX12_answersOne 21 = .ok (.ireturn, 1) := by decide +kernel
theorem dX12_ownOf_0 : decode cX12_ownOf 0 = .ok (.aload_n 0, 1) := by decide +kernel
theorem dX12_ownOf_1 : decode cX12_ownOf 1 = .ok (.aload_n 0, 1) := by decide +kernel
theorem dX12_ownOf_2 : decode cX12_ownOf 2 = .ok (.getfield 54, 3) := by decide +kernel
theorem dX12_ownOf_5 : decode cX12_ownOf 5 = .ok (.bipush 6, 2) := by decide +kernel
theorem dX12_ownOf_7 : decode cX12_ownOf 7 = .ok (.iload_n 1, 1) := by decide +kernel
theorem dX12_ownOf_8 : decode cX12_ownOf 8 = .ok (.imul, 1) := by decide +kernel
theorem dX12_ownOf_9 : decode cX12_ownOf 9 = .ok (.aload_n 0, 1) := by decide +kernel
theorem dX12_ownOf_10 : decode cX12_ownOf 10 = .ok (.getfield 48, 3) := by decide +kernel
theorem dX12_ownOf_13 : decode cX12_ownOf 13 = .ok (.iload_n 1, 1) := by decide +kernel
theorem dX12_ownOf_14 : decode cX12_ownOf 14 = .ok (.iaload, 1) := by decide +kernel
theorem dX12_ownOf_15 : decode cX12_ownOf 15 = .ok (.invokevirtual 328, 3) := by decide +kernel
theorem dX12_ownOf_18 : decode cX12_ownOf 18 = .ok (.ireturn, 1) := by decide +kernel
theorem dX12_looksAt_0 : decode cX12_looksAt 0 = .ok (.aload_n 0, 1) := by decide +kernel
theorem dX12_looksAt_1 : decode cX12_looksAt 1 = .ok (.iload_n 1, 1) := by decide +kernel
theorem dX12_looksAt_2 : decode cX12_looksAt 2 = .ok (.invokevirtual 357, 3) := by decide +kernel
theorem dX12_looksAt_5 : decode cX12_looksAt 5 = .ok (.istore_n 3, 1) := by decide +kernel
theorem dX12_looksAt_6 : decode cX12_looksAt 6 = .ok (.iconst 0, 1) := by decide +kernel
theorem dX12_looksAt_7 : decode cX12_looksAt 7 = .ok (.istore 4, 2) := by decide +kernel
theorem dX12_looksAt_9 : decode cX12_looksAt 9 = .ok (.iload 4, 2) := by decide +kernel
theorem dX12_looksAt_11 : decode cX12_looksAt 11 = .ok (.iload_n 2, 1) := by decide +kernel
theorem dX12_looksAt_12 : decode cX12_looksAt 12 = .ok (.if_icmp .ge 149, 3) := by decide +kernel
theorem dX12_looksAt_15 : decode cX12_looksAt 15 = .ok (.aload_n 0, 1) := by decide +kernel
theorem dX12_looksAt_16 : decode cX12_looksAt 16 = .ok (.getfield 75, 3) := by decide +kernel
theorem dX12_looksAt_19 : decode cX12_looksAt 19 = .ok (.iload 4, 2) := by decide +kernel
theorem dX12_looksAt_21 : decode cX12_looksAt 21 = .ok (.iaload, 1) := by decide +kernel
theorem dX12_looksAt_22 : decode cX12_looksAt 22 = .ok (.istore 5, 2) := by decide +kernel
theorem dX12_looksAt_24 : decode cX12_looksAt 24 = .ok (.iload 5, 2) := by decide +kernel
theorem dX12_looksAt_26 : decode cX12_looksAt 26 = .ok (.bipush 100, 2) := by decide +kernel
theorem dX12_looksAt_28 : decode cX12_looksAt 28 = .ok (.if_icmp .ge 127, 3) := by decide +kernel
theorem dX12_looksAt_31 : decode cX12_looksAt 31 = .ok (.aload_n 0, 1) := by decide +kernel
theorem dX12_looksAt_32 : decode cX12_looksAt 32 = .ok (.getfield 360, 3) := by decide +kernel
theorem dX12_looksAt_35 : decode cX12_looksAt 35 = .ok (.iload 5, 2) := by decide +kernel
theorem dX12_looksAt_37 : decode cX12_looksAt 37 = .ok (.ishr, 1) := by decide +kernel
theorem dX12_looksAt_38 : decode cX12_looksAt 38 = .ok (.iconst 1, 1) := by decide +kernel
theorem dX12_looksAt_39 : decode cX12_looksAt 39 = .ok (.iand, 1) := by decide +kernel
theorem dX12_looksAt_40 : decode cX12_looksAt 40 = .ok (.iconst 1, 1) := by decide +kernel
theorem dX12_looksAt_41 : decode cX12_looksAt 41 = .ok (.if_icmp .ne 6, 3) := by decide +kernel
theorem dX12_looksAt_44 : decode cX12_looksAt 44 = .ok (.goto 111, 3) := by decide +kernel
theorem dX12_looksAt_47 : decode cX12_looksAt 47 = .ok (.aload_n 0, 1) := by decide +kernel
theorem dX12_looksAt_48 : decode cX12_looksAt 48 = .ok (.getfield 75, 3) := by decide +kernel
theorem dX12_looksAt_51 : decode cX12_looksAt 51 = .ok (.iload 4, 2) := by decide +kernel
theorem dX12_looksAt_53 : decode cX12_looksAt 53 = .ok (.sipush 200, 3) := by decide +kernel
theorem dX12_looksAt_56 : decode cX12_looksAt 56 = .ok (.iastore, 1) := by decide +kernel
theorem dX12_looksAt_57 : decode cX12_looksAt 57 = .ok (.aload_n 0, 1) := by decide +kernel
theorem dX12_looksAt_58 : decode cX12_looksAt 58 = .ok (.iload_n 1, 1) := by decide +kernel
theorem dX12_looksAt_59 : decode cX12_looksAt 59 = .ok (.invokevirtual 357, 3) := by decide +kernel
theorem dX12_looksAt_62 : decode cX12_looksAt 62 = .ok (.iload_n 3, 1) := by decide +kernel
theorem dX12_looksAt_63 : decode cX12_looksAt 63 = .ok (.if_icmp .eq 7, 3) := by decide +kernel
theorem dX12_looksAt_66 : decode cX12_looksAt 66 = .ok (.iconst 1, 1) := by decide +kernel
theorem dX12_looksAt_67 : decode cX12_looksAt 67 = .ok (.goto 4, 3) := by decide +kernel
theorem dX12_looksAt_70 : decode cX12_looksAt 70 = .ok (.iconst 0, 1) := by decide +kernel
theorem dX12_looksAt_71 : decode cX12_looksAt 71 = .ok (.istore 6, 2) := by decide +kernel
theorem dX12_looksAt_73 : decode cX12_looksAt 73 = .ok (.aload_n 0, 1) := by decide +kernel
theorem dX12_looksAt_74 : decode cX12_looksAt 74 = .ok (.getfield 75, 3) := by decide +kernel
theorem dX12_looksAt_77 : decode cX12_looksAt 77 = .ok (.iload 4, 2) := by decide +kernel
theorem dX12_looksAt_79 : decode cX12_looksAt 79 = .ok (.iload 5, 2) := by decide +kernel
theorem dX12_looksAt_81 : decode cX12_looksAt 81 = .ok (.iastore, 1) := by decide +kernel
theorem dX12_looksAt_82 : decode cX12_looksAt 82 = .ok (.iload 6, 2) := by decide +kernel
theorem dX12_looksAt_84 : decode cX12_looksAt 84 = .ok (.ifCond .ne 6, 3) := by decide +kernel
theorem dX12_looksAt_87 : decode cX12_looksAt 87 = .ok (.goto 68, 3) := by decide +kernel
theorem dX12_looksAt_90 : decode cX12_looksAt 90 = .ok (.aload_n 0, 1) := by decide +kernel
theorem dX12_looksAt_91 : decode cX12_looksAt 91 = .ok (.dup, 1) := by decide +kernel
theorem dX12_looksAt_92 : decode cX12_looksAt 92 = .ok (.getfield 360, 3) := by decide +kernel
theorem dX12_looksAt_95 : decode cX12_looksAt 95 = .ok (.iconst 1, 1) := by decide +kernel
theorem dX12_looksAt_96 : decode cX12_looksAt 96 = .ok (.iload 5, 2) := by decide +kernel
theorem dX12_looksAt_98 : decode cX12_looksAt 98 = .ok (.ishl, 1) := by decide +kernel
theorem dX12_looksAt_99 : decode cX12_looksAt 99 = .ok (.ior, 1) := by decide +kernel
theorem dX12_looksAt_100 : decode cX12_looksAt 100 = .ok (.putfield 360, 3) := by decide +kernel
theorem dX12_looksAt_103 : decode cX12_looksAt 103 = .ok (.iload 5, 2) := by decide +kernel
theorem dX12_looksAt_105 : decode cX12_looksAt 105 = .ok (.aload_n 0, 1) := by decide +kernel
theorem dX12_looksAt_106 : decode cX12_looksAt 106 = .ok (.getfield 363, 3) := by decide +kernel
theorem dX12_looksAt_109 : decode cX12_looksAt 109 = .ok (.if_icmp .eq 6, 3) := by decide +kernel
theorem dX12_looksAt_112 : decode cX12_looksAt 112 = .ok (.goto 43, 3) := by decide +kernel
theorem dX12_looksAt_115 : decode cX12_looksAt 115 = .ok (.aload_n 0, 1) := by decide +kernel
theorem dX12_looksAt_116 : decode cX12_looksAt 116 = .ok (.iconst 1, 1) := by decide +kernel
theorem dX12_looksAt_117 : decode cX12_looksAt 117 = .ok (.putfield 348, 3) := by decide +kernel
theorem dX12_looksAt_120 : decode cX12_looksAt 120 = .ok (.aload_n 0, 1) := by decide +kernel
theorem dX12_looksAt_121 : decode cX12_looksAt 121 = .ok (.iload_n 1, 1) := by decide +kernel
theorem dX12_looksAt_122 : decode cX12_looksAt 122 = .ok (.putfield 366, 3) := by decide +kernel
theorem dX12_looksAt_125 : decode cX12_looksAt 125 = .ok (.iconst 0, 1) := by decide +kernel
theorem dX12_looksAt_126 : decode cX12_looksAt 126 = .ok (.istore 7, 2) := by decide +kernel
theorem dX12_looksAt_128 : decode cX12_looksAt 128 = .ok (.iload 7, 2) := by decide +kernel
theorem dX12_looksAt_130 : decode cX12_looksAt 130 = .ok (.iconst 3, 1) := by decide +kernel
theorem dX12_looksAt_131 : decode cX12_looksAt 131 = .ok (.if_icmp .ge 23, 3) := by decide +kernel
theorem dX12_looksAt_134 : decode cX12_looksAt 134 = .ok (.aload_n 0, 1) := by decide +kernel
theorem dX12_looksAt_135 : decode cX12_looksAt 135 = .ok (.getfield 81, 3) := by decide +kernel
theorem dX12_looksAt_138 : decode cX12_looksAt 138 = .ok (.iload 7, 2) := by decide +kernel
theorem dX12_looksAt_140 : decode cX12_looksAt 140 = .ok (.aload_n 0, 1) := by decide +kernel
theorem dX12_looksAt_141 : decode cX12_looksAt 141 = .ok (.getfield 75, 3) := by decide +kernel
theorem dX12_looksAt_144 : decode cX12_looksAt 144 = .ok (.iload 7, 2) := by decide +kernel
theorem dX12_looksAt_146 : decode cX12_looksAt 146 = .ok (.iaload, 1) := by decide +kernel
theorem dX12_looksAt_147 : decode cX12_looksAt 147 = .ok (.iastore, 1) := by decide +kernel
theorem dX12_looksAt_148 : decode cX12_looksAt 148 = .ok (.iinc 7 1, 3) := by decide +kernel
theorem dX12_looksAt_151 : decode cX12_looksAt 151 = .ok (.goto (-23), 3) := by decide +kernel
theorem dX12_looksAt_154 : decode cX12_looksAt 154 = .ok (.return_, 1) := by decide +kernel
theorem dX12_looksAt_155 : decode cX12_looksAt 155 = .ok (.iinc 4 1, 3) := by decide +kernel
theorem dX12_looksAt_158 : decode cX12_looksAt 158 = .ok (.goto (-149), 3) := by decide +kernel
theorem dX12_looksAt_161 : decode cX12_looksAt 161 = .ok (.return_, 1) := by decide +kernel
def f_X12_fault (x1 : Int32) (D : Dm) : Option (Int32 × Dm) := lt (ud D 281 0 0) fun D1 => if x1 = 0 then (some ((D1 281 10), D1)) else (if x1 = 1 then (some ((D1 281 11), D1)) else (some ((-1), D1)))
def f_X12_accept (x1 : Int32) (x2 : Int32) (x3 : Int32) (D : Dm) : Option (Int32 × Dm) := lt (ud D 281 0 0) fun D1 => bI (f_X12_isMachine x1 D1) fun y5 D3 => if y5 = 0 then (some ((-2), D3)) else (bI (f_X12_its x1 0 D3) fun y9 D7 => bI (f_X12_isIn (Int32.toInt64 x2) 0 (Int32.toInt64 (y9 - 1)) D7) fun y12 D10 => if y12 = 0 then (some ((-2), D10)) else (bI (f_X12_isIn (Int32.toInt64 x3) 0 1 D10) fun y16 D14 => if y16 = 0 then (some ((-3), D14)) else (bI (f_X12_its x1 3 D14) fun y20 D18 => lt ((y20 >>> (x2 &&& 31)) &&& 1) fun y21 => if y21 = x3 then (some (y21, D18)) else (gd (inB ((94 * x1) + 3) 188) (gd (inB ((94 * x1) + 3) 188) (lt (ud D18 282 (Int32.toNatClampNeg ((94 * x1) + 3)) ((D18 282 (Int32.toNatClampNeg ((94 * x1) + 3))) ^^^ (1 <<< (x2 &&& 31)))) fun D26 => if x1 = 0 then (bV (f_X12_resets D26) fun D29 => some (y21, D29)) else (some (y21, D26))))))))
def f_X12_isRegister (x1 : Int32) (x2 : Int32) (D : Dm) : Option (Int32 × Dm) := bI (f_X12_its x1 1 D) fun y3 D1 => bI (f_X12_isIn (Int32.toInt64 x2) 0 (Int32.toInt64 (y3 - 1)) D1) fun y6 D4 => gd (zbB y6) (some (y6, D4))
def f_X12_isMove_59  (D : Dm) : Option (Int32 × Dm) := some (1, D)
def f_X12_isMove (x1 : Int32) (x2 : Int32) (x3 : Int32) (x4 : Int32) (D : Dm) : Option (Int32 × Dm) := bI (f_X12_isMachine x1 D) fun y3 D1 => if y3 = 0 then (some (0, D1)) else (bI (f_X12_its x1 0 D1) fun y7 D5 => bI (f_X12_isIn (Int32.toInt64 x2) 0 (Int32.toInt64 (y7 - 1)) D5) fun y10 D8 => if y10 = 0 then (some (0, D8)) else (bI (f_X12_its x1 2 D8) fun y14 D12 => bI (f_X12_isIn (Int32.toInt64 x3) 0 (Int32.toInt64 (y14 - 1)) D12) fun y17 D15 => if y17 = 0 then (some (0, D15)) else (if x4 = 2 then (f_X12_isMove_59 D15) else (bI (f_X12_isRegister x1 x4 D15) fun y22 D20 => if y22 = 0 then (some (0, D20)) else (f_X12_isMove_59 D20)))))
def f_X12_move_181 (x1 : Int32) (x5 : Int32) (x8 : Int32) (x9 : Int32) (x10 : Int32) (x11 : Int32) (xs0 : Int32) (D : Dm) : Option (Int32 × Dm) := gd (inB x8 188) (lt (ud D 282 (Int32.toNatClampNeg x8) x5) fun D2 => gd (inB (x8 + 1) 188) (lt (ud D2 282 (Int32.toNatClampNeg (x8 + 1)) x10) fun D5 => gd (inB (x8 + 2) 188) (lt (ud D5 282 (Int32.toNatClampNeg (x8 + 2)) x11) fun D8 => if x1 = 0 then (if xs0 = 0 then (bV (f_X12_resets D8) fun D12 => some (x9, D12)) else (some (x9, D8))) else (some (x9, D8)))))
def f_X12_move_180 (x1 : Int32) (x5 : Int32) (x8 : Int32) (x9 : Int32) (x10 : Int32) (x11 : Int32) (D : Dm) : Option (Int32 × Dm) := f_X12_move_181 x1 x5 x8 x9 x10 x11 0 D
def f_X12_move_134 (x1 : Int32) (x5 : Int32) (x8 : Int32) (x9 : Int32) (x10 : Int32) (xs0 : Int32) (D : Dm) : Option (Int32 × Dm) := gd (inB x8 188) (if (D 282 (Int32.toNatClampNeg x8)) = x5 then (gd (inB (x8 + 1) 188) (if (D 282 (Int32.toNatClampNeg (x8 + 1))) = x10 then (gd (inB (x8 + 2) 188) (if (D 282 (Int32.toNatClampNeg (x8 + 2))) = xs0 then (f_X12_move_181 x1 x5 x8 x9 x10 xs0 1 D) else (f_X12_move_180 x1 x5 x8 x9 x10 xs0 D))) else (f_X12_move_180 x1 x5 x8 x9 x10 xs0 D))) else (f_X12_move_180 x1 x5 x8 x9 x10 xs0 D))
def f_X12_move_120 (x1 : Int32) (x5 : Int32) (x7 : Int32) (x8 : Int32) (x9 : Int32) (xs0 : Int32) (D : Dm) : Option (Int32 × Dm) := if x5 = (-1) then (f_X12_move_134 x1 x5 x8 x9 xs0 (-1) D) else (f_X12_move_134 x1 x5 x8 x9 xs0 x7 D)
def f_X12_move_106 (x1 : Int32) (x5 : Int32) (x6 : Int32) (x7 : Int32) (x8 : Int32) (xs0 : Int32) (D : Dm) : Option (Int32 × Dm) := if x5 = (-1) then (f_X12_move_120 x1 x5 x7 x8 xs0 (-1) D) else (f_X12_move_120 x1 x5 x7 x8 xs0 x6 D)
def f_X12_move_76 (x1 : Int32) (x2 : Int32) (x3 : Int32) (x4 : Int32) (x5 : Int32) (x6 : Int32) (x7 : Int32) (D : Dm) : Option (Int32 × Dm) := bI (f_X12_moveAt x2 x3 x4 D) fun y3 D1 => lt ((94 * x1) + y3) fun y4 => gd (inB y4 188) (if (D1 282 (Int32.toNatClampNeg y4)) = (-1) then (f_X12_move_106 x1 x5 x6 x7 y4 0 D1) else (f_X12_move_106 x1 x5 x6 x7 y4 1 D1))
def f_X12_move_57 (x1 : Int32) (x2 : Int32) (x3 : Int32) (x4 : Int32) (x5 : Int32) (x6 : Int32) (x7 : Int32) (D : Dm) : Option (Int32 × Dm) := if x7 = (-1) then (f_X12_move_76 x1 x2 x3 x4 x5 x6 x7 D) else (bI (f_X12_isRegister x1 x7 D) fun y4 D2 => if y4 = 0 then (some ((-3), D2)) else (f_X12_move_76 x1 x2 x3 x4 x5 x6 x7 D2))
def f_X12_move (x1 : Int32) (x2 : Int32) (x3 : Int32) (x4 : Int32) (x5 : Int32) (x6 : Int32) (x7 : Int32) (D : Dm) : Option (Int32 × Dm) := lt (ud D 281 0 0) fun D1 => bI (f_X12_isMove x1 x2 x3 x4 D1) fun y5 D3 => if y5 = 0 then (some ((-2), D3)) else (bI (f_X12_its x1 0 D3) fun y9 D7 => bI (f_X12_isIn (Int32.toInt64 x5) (-1) (Int32.toInt64 (y9 - 1)) D7) fun y12 D10 => if y12 = 0 then (some ((-3), D10)) else (if x6 = (-1) then (f_X12_move_57 x1 x2 x3 x4 x5 x6 x7 D10) else (bI (f_X12_isRegister x1 x6 D10) fun y17 D15 => if y17 = 0 then (some ((-3), D15)) else (f_X12_move_57 x1 x2 x3 x4 x5 x6 x7 D15))))
def f_X12_of_52 (xs0 : Int32) (xs1 : Int32) (D : Dm) : Option (Int32 × Dm) := bI (f_X12_its xs1 xs0 D) fun y3 D1 => some (y3, D1)
def f_X12_of (x1 : Int32) (x2 : Int32) (D : Dm) : Option (Int32 × Dm) := lt (ud D 281 0 0) fun D1 => bI (f_X12_isMachine x1 D1) fun y5 D3 => if y5 = 0 then (some ((-2), D3)) else (bI (f_X12_isIn (Int32.toInt64 x2) 0 4 D3) fun y9 D7 => if y9 = 0 then (some ((-2), D7)) else (if x2 = 3 then (bI (f_X12_movesOf x1 D7) fun y15 D13 => some (y15, D13)) else (if x2 = 4 then (f_X12_of_52 3 x1 D7) else (f_X12_of_52 x2 x1 D7))))
def f_X12_moved (x1 : Int32) (x2 : Int32) (x3 : Int32) (x4 : Int32) (x5 : Int32) (D : Dm) : Option (Int32 × Dm) := lt (ud D 281 0 0) fun D1 => bI (f_X12_isMove x1 x2 x3 x4 D1) fun y5 D3 => if y5 = 0 then (some ((-2), D3)) else (bI (f_X12_isIn (Int32.toInt64 x5) 0 2 D3) fun y9 D7 => if y9 = 0 then (some ((-2), D7)) else (bI (f_X12_moveAt x2 x3 x4 D7) fun y13 D11 => bI (f_X12_its x1 (y13 + x5) D11) fun y16 D14 => some (y16, D14)))
def f_X12_goesAlong_6_b (k6 : Int32 → Int32 → Int32 → Dm → Option Dm) (x1 : Int32) (x2 : Int32) (x3 : Int32) (D : Dm) : Option Dm := if x2 ≤ x3 then (some D) else (gd (inB x3 12) (gd (inB x3 12) (bV (f_X12_goesBy x1 (D 285 (Int32.toNatClampNeg x3)) (D 286 (Int32.toNatClampNeg x3)) D) fun D4 => lt (x3 + 1) fun y6 => k6 x1 x2 y6 D4)))
def f_X12_goesAlong_6 : Nat → Int32 → Int32 → Int32 → Dm → Option Dm
  | 0, _, _, _, _ => none
  | n + 1, x1, x2, x3, D => f_X12_goesAlong_6_b (f_X12_goesAlong_6 n) x1 x2 x3 D
def f_X12_goesAlong (x1 : Int32) (x2 : Int32) (D : Dm) : Option Dm := bV (f_X12_starts D) fun D1 => f_X12_goesAlong_6 FU x1 x2 0 D1
def f_X12_ask (x1 : Int32) (D : Dm) : Option (Int32 × Dm) := lt (ud D 281 0 0) fun D1 => bI (f_X12_isMachine x1 D1) fun y5 D3 => if y5 = 0 then (some ((-2), D3)) else (bV (f_X12_goesAlong x1 (D3 281 18) D3) fun D7 => bI (f_X12_accepts x1 D7) fun y11 D9 => if y11 = 0 then (some (0, D9)) else (some (1, D9)))
def f_X12_behind (x1 : Int32) (x2 : Int32) (x3 : Int32) (D : Dm) : Option (Int32 × Dm) := lt (ud D 281 0 0) fun D1 => bI (f_X12_isMachine x1 D1) fun y5 D3 => if y5 = 0 then (some ((-2), D3)) else (bI (f_X12_isIn (Int32.toInt64 x3) 0 2 D3) fun y9 D7 => if y9 = 0 then (some ((-2), D7)) else (bI (f_X12_isIn (Int32.toInt64 x2) 0 (Int32.toInt64 (D7 281 18)) D7) fun y13 D11 => if y13 = 0 then (some ((-3), D11)) else (bV (f_X12_goesAlong x1 x2 D11) fun D15 => if x3 = 0 then (some ((D15 281 3), D15)) else (if x3 = 1 then (some ((D15 281 4), D15)) else (some ((D15 281 5), D15))))))
def f_X12_counts_115 (self : Int32 → Int32 → Int32 → Dm → Option Dm) (k58 : Int32 → Int32 → Int32 → Int32 → Int32 → Int32 → Int32 → Dm → Option Dm) (k72 : Int32 → Int32 → Int32 → Int32 → Int32 → Int32 → Int32 → Int32 → Dm → Option Dm) (x1 : Int32) (x2 : Int32) (x3 : Int32) (x4 : Int32) (x5 : Int32) (x6 : Int32) (x7 : Int32) (x8 : Int32) (xs0 : Int32) (xs1 : Int32) (xs2 : Int32) (D : Dm) : Option Dm := bV (self xs2 xs1 xs0 D) fun D1 => lt (x8 + 1) fun y3 => k72 x1 x2 x3 x4 x5 x6 x7 y3 D1
def f_X12_counts_72_b (self : Int32 → Int32 → Int32 → Dm → Option Dm) (k58 : Int32 → Int32 → Int32 → Int32 → Int32 → Int32 → Int32 → Dm → Option Dm) (k72 : Int32 → Int32 → Int32 → Int32 → Int32 → Int32 → Int32 → Int32 → Dm → Option Dm) (x1 : Int32) (x2 : Int32) (x3 : Int32) (x4 : Int32) (x5 : Int32) (x6 : Int32) (x7 : Int32) (x8 : Int32) (D : Dm) : Option Dm := if x3 < x8 then (lt (x7 + 1) fun y2 => k58 x1 x2 x3 x4 x5 x6 y2 D) else (bV (f_X12_stays x4 x5 x6 D) fun D4 => bV (f_X12_goesBy x1 x7 x8 D4) fun D6 => if x8 = x3 then (f_X12_counts_115 self k58 k72 x1 x2 x3 x4 x5 x6 x7 x8 (x3 + 1) (x2 - 1) x1 D6) else (f_X12_counts_115 self k58 k72 x1 x2 x3 x4 x5 x6 x7 x8 x3 (x2 - 1) x1 D6))
def f_X12_counts_72 (self : Int32 → Int32 → Int32 → Dm → Option Dm) (k58 : Int32 → Int32 → Int32 → Int32 → Int32 → Int32 → Int32 → Dm → Option Dm) : Nat → Int32 → Int32 → Int32 → Int32 → Int32 → Int32 → Int32 → Int32 → Dm → Option Dm
  | 0, _, _, _, _, _, _, _, _, _ => none
  | n + 1, x1, x2, x3, x4, x5, x6, x7, x8, D => f_X12_counts_72_b self k58 (f_X12_counts_72 self k58 n) x1 x2 x3 x4 x5 x6 x7 x8 D
def f_X12_counts_58_b (self : Int32 → Int32 → Int32 → Dm → Option Dm) (k58 : Int32 → Int32 → Int32 → Int32 → Int32 → Int32 → Int32 → Dm → Option Dm) (x1 : Int32) (x2 : Int32) (x3 : Int32) (x4 : Int32) (x5 : Int32) (x6 : Int32) (x7 : Int32) (D : Dm) : Option Dm := bI (f_X12_its x1 2 D) fun y3 D1 => if y3 ≤ x7 then (some D1) else (f_X12_counts_72 self k58 FU x1 x2 x3 x4 x5 x6 x7 0 D1)
def f_X12_counts_58 (self : Int32 → Int32 → Int32 → Dm → Option Dm) : Nat → Int32 → Int32 → Int32 → Int32 → Int32 → Int32 → Int32 → Dm → Option Dm
  | 0, _, _, _, _, _, _, _, _ => none
  | n + 1, x1, x2, x3, x4, x5, x6, x7, D => f_X12_counts_58_b self (f_X12_counts_58 self n) x1 x2 x3 x4 x5 x6 x7 D
def f_X12_counts_32 (self : Int32 → Int32 → Int32 → Dm → Option Dm) (xs0 : Int32) (xs1 : Int32) (D : Dm) : Option Dm := lt (ud D 281 20 (xs1 + xs0)) fun D1 => some D1
def f_X12_counts_e (self : Int32 → Int32 → Int32 → Dm → Option Dm) (x1 : Int32) (x2 : Int32) (x3 : Int32) (D : Dm) : Option Dm := if x2 = 0 then (lt (ud D 281 19 ((D 281 19) + 1)) fun D8 => bI (f_X12_accepts x1 D8) fun y12 D10 => if y12 = 0 then (f_X12_counts_32 self 0 (D8 281 20) D10) else (f_X12_counts_32 self 1 (D8 281 20) D10)) else (lt (D 281 3) fun y2 => lt (D 281 4) fun y4 => lt (D 281 5) fun y6 => f_X12_counts_58 self FU x1 x2 x3 y2 y4 y6 0 D)
def f_X12_counts : Nat → Int32 → Int32 → Int32 → Dm → Option Dm
  | 0, _, _, _, _ => none
  | n + 1, x1, x2, x3, D => f_X12_counts_e (f_X12_counts n) x1 x2 x3 D
def f_X12_laysCounts (x1 : Int32) (x2 : Int32) (D : Dm) : Option (Int32 × Dm) := bI (f_X12_isMachine x1 D) fun y3 D1 => if y3 = 0 then (some ((-2), D1)) else (bI (f_X12_isIn (Int32.toInt64 x2) 0 5 D1) fun y7 D5 => if y7 = 0 then (some ((-3), D5)) else (lt (ud D5 281 19 0) fun D9 => lt (ud D9 281 20 0) fun D11 => bV (f_X12_starts D11) fun D13 => bV (f_X12_counts RF x1 x2 0 D13) fun D15 => some (0, D15)))
def f_X12_many (x1 : Int32) (x2 : Int32) (D : Dm) : Option (Int32 × Dm) := lt (ud D 281 0 0) fun D1 => bI (f_X12_laysCounts x1 x2 D1) fun y5 D3 => if 0 ≤ y5 then (some ((D3 281 20), D3)) else (some (y5, D3))
def f_X12_bitsOf_81 (x2 : Int32) (x5 : Int64) (D : Dm) : Option (Int32 × Dm) := some ((Int64.toInt32 ((((127 - (Int32.toInt64 x2)) - 1) <<< ((23).toInt64 &&& 63)) + x5)), D)
def f_X12_bitsOf_75 (x2 : Int32) (x5 : Int64) (D : Dm) : Option (Int32 × Dm) := lt (x5 + 1) fun y1 => f_X12_bitsOf_81 x2 y1 D
def f_X12_bitsOf_8_b (k8 : Int32 → Int32 → Int32 → Dm → Option (Int32 × Dm)) (x0 : Int32) (x1 : Int32) (x2 : Int32) (D : Dm) : Option (Int32 × Dm) := if 0 ≤ (lg_cmp ((Int32.toInt64 x0) <<< ((x2).toInt64 &&& 63)) (Int32.toInt64 x1)) then (lt ((Int32.toInt64 x0) <<< (((x2 + 23)).toInt64 &&& 63)) fun y2 => gd (decide (¬ (Int32.toInt64 x1) = 0)) (lt (y2 / (Int32.toInt64 x1)) fun y5 => gd (decide (¬ (Int32.toInt64 x1) = 0)) (lt (2 * (y2 - y2 / (Int32.toInt64 x1) * (Int32.toInt64 x1))) fun y8 => if 0 < (lg_cmp y8 (Int32.toInt64 x1)) then (f_X12_bitsOf_75 x2 y5 D) else (if (lg_cmp y8 (Int32.toInt64 x1)) = 0 then (gd (decide (¬ 2 = 0)) (if (lg_cmp (y5 - y5 / 2 * 2) 1) = 0 then (f_X12_bitsOf_75 x2 y5 D) else (f_X12_bitsOf_81 x2 y5 D))) else (f_X12_bitsOf_81 x2 y5 D))))) else (lt (x2 + 1) fun y14 => k8 x0 x1 y14 D)
def f_X12_bitsOf_8 : Nat → Int32 → Int32 → Int32 → Dm → Option (Int32 × Dm)
  | 0, _, _, _, _ => none
  | n + 1, x0, x1, x2, D => f_X12_bitsOf_8_b (f_X12_bitsOf_8 n) x0 x1 x2 D
def f_X12_bitsOf (x0 : Int32) (x1 : Int32) (D : Dm) : Option (Int32 × Dm) := if x0 = 0 then (some (0, D)) else (f_X12_bitsOf_8 FU x0 x1 0 D)
def f_X12_share (x1 : Int32) (x2 : Int32) (D : Dm) : Option (Int32 × Dm) := lt (ud D 281 0 0) fun D1 => bI (f_X12_laysCounts x1 x2 D1) fun y5 D3 => if 0 ≤ y5 then (bI (f_X12_bitsOf (D3 281 20) (D3 281 19) D3) fun y9 D7 => some (y9, D7)) else (some (y5, D3))
def f_X12_leastOf_87 (self : Int32 → Dm → Option (Int32 × Dm)) (k4 : Int32 → Int32 → Int32 → Dm → Option (Int32 × Dm)) (x1 : Int32) (x3 : Int32) (xs0 : Int32) (xs1 : Int32) (D : Dm) : Option (Int32 × Dm) := lt (xs1 + xs0) fun y1 => lt (x3 + 1) fun y3 => k4 x1 y1 y3 D
def f_X12_leastOf_68 (self : Int32 → Dm → Option (Int32 × Dm)) (k4 : Int32 → Int32 → Int32 → Dm → Option (Int32 × Dm)) (k36 : Int32 → Int32 → Int32 → Int32 → Int32 → Dm → Option (Int32 × Dm)) (x1 : Int32) (x2 : Int32) (x3 : Int32) (x5 : Int32) (xs0 : Int32) (D : Dm) : Option (Int32 × Dm) := lt (x5 + 1) fun y1 => k36 x1 x2 x3 xs0 y1 D
def f_X12_leastOf_67 (self : Int32 → Dm → Option (Int32 × Dm)) (k4 : Int32 → Int32 → Int32 → Dm → Option (Int32 × Dm)) (k36 : Int32 → Int32 → Int32 → Int32 → Int32 → Dm → Option (Int32 × Dm)) (x1 : Int32) (x2 : Int32) (x3 : Int32) (x5 : Int32) (D : Dm) : Option (Int32 × Dm) := f_X12_leastOf_68 self k4 k36 x1 x2 x3 x5 0 D
def f_X12_leastOf_36_b (self : Int32 → Dm → Option (Int32 × Dm)) (k4 : Int32 → Int32 → Int32 → Dm → Option (Int32 × Dm)) (k36 : Int32 → Int32 → Int32 → Int32 → Int32 → Dm → Option (Int32 × Dm)) (x1 : Int32) (x2 : Int32) (x3 : Int32) (x4 : Int32) (x5 : Int32) (D : Dm) : Option (Int32 × Dm) := if x3 ≤ x5 then (if x4 = 0 then (f_X12_leastOf_87 self k4 x1 x3 0 x2 D) else (f_X12_leastOf_87 self k4 x1 x3 1 x2 D)) else (if x4 = 0 then (f_X12_leastOf_67 self k4 k36 x1 x2 x3 x5 D) else (gd (inB x5 12) (gd (inB x3 12) (if (D 286 (Int32.toNatClampNeg x5)) = (D 286 (Int32.toNatClampNeg x3)) then (f_X12_leastOf_67 self k4 k36 x1 x2 x3 x5 D) else (f_X12_leastOf_68 self k4 k36 x1 x2 x3 x5 1 D)))))
def f_X12_leastOf_36 (self : Int32 → Dm → Option (Int32 × Dm)) (k4 : Int32 → Int32 → Int32 → Dm → Option (Int32 × Dm)) : Nat → Int32 → Int32 → Int32 → Int32 → Int32 → Dm → Option (Int32 × Dm)
  | 0, _, _, _, _, _, _ => none
  | n + 1, x1, x2, x3, x4, x5, D => f_X12_leastOf_36_b self k4 (f_X12_leastOf_36 self k4 n) x1 x2 x3 x4 x5 D
def f_X12_leastOf_4_b (self : Int32 → Dm → Option (Int32 × Dm)) (k4 : Int32 → Int32 → Int32 → Dm → Option (Int32 × Dm)) (x1 : Int32) (x2 : Int32) (x3 : Int32) (D : Dm) : Option (Int32 × Dm) := if x1 ≤ x3 then (some (x2, D)) else (gd (inB x3 12) (gd (inB x1 12) (if (D 286 (Int32.toNatClampNeg x3)) = (D 286 (Int32.toNatClampNeg x1)) then (bI (self x3 D) fun y7 D5 => some (y7, D5)) else (f_X12_leastOf_36 self k4 FU x1 x2 x3 1 0 D))))
def f_X12_leastOf_4 (self : Int32 → Dm → Option (Int32 × Dm)) : Nat → Int32 → Int32 → Int32 → Dm → Option (Int32 × Dm)
  | 0, _, _, _, _ => none
  | n + 1, x1, x2, x3, D => f_X12_leastOf_4_b self (f_X12_leastOf_4 self n) x1 x2 x3 D
def f_X12_leastOf_e (self : Int32 → Dm → Option (Int32 × Dm)) (x1 : Int32) (D : Dm) : Option (Int32 × Dm) := f_X12_leastOf_4 self FU x1 0 0 D
def f_X12_leastOf : Nat → Int32 → Dm → Option (Int32 × Dm)
  | 0, _, _ => none
  | n + 1, x1, D => f_X12_leastOf_e (f_X12_leastOf n) x1 D
def f_X12_letter (x1 : Int32) (x2 : Int32) (D : Dm) : Option (Int32 × Dm) := lt (ud D 281 0 0) fun D1 => if x1 = (-1) then (if x2 = 0 then (some ((D1 281 18), D1)) else (some ((-2), D1))) else (bI (f_X12_isIn (Int32.toInt64 x1) 0 (Int32.toInt64 ((D1 281 18) - 1)) D1) fun y6 D4 => if y6 = 0 then (some ((-2), D4)) else (bI (f_X12_isIn (Int32.toInt64 x2) 0 2 D4) fun y10 D8 => if y10 = 0 then (some ((-2), D8)) else (if x2 = 0 then (gd (inB x1 12) (some ((D8 285 (Int32.toNatClampNeg x1)), D8))) else (if x2 = 1 then (gd (inB x1 12) (some ((D8 286 (Int32.toNatClampNeg x1)), D8))) else (bI (f_X12_leastOf RF x1 D8) fun y16 D14 => some (y16, D14))))))
def f_X12_takesShort_12_b (k12 : Int32 → Int32 → Dm → Option Dm) (x1 : Int32) (x2 : Int32) (D : Dm) : Option Dm := if (D 281 36) ≤ x2 then (some D) else (gd (inB ((6 * x1) + x2) 60) (gd (inB x2 40) (lt (ud D 299 (Int32.toNatClampNeg x2) (D 290 (Int32.toNatClampNeg ((6 * x1) + x2)))) fun D4 => gd (inB ((6 * x1) + x2) 60) (gd (inB x2 40) (lt (ud D4 300 (Int32.toNatClampNeg x2) (D4 291 (Int32.toNatClampNeg ((6 * x1) + x2)))) fun D8 => lt (x2 + 1) fun y10 => k12 x1 y10 D8)))))
def f_X12_takesShort_12 : Nat → Int32 → Int32 → Dm → Option Dm
  | 0, _, _, _ => none
  | n + 1, x1, x2, D => f_X12_takesShort_12_b (f_X12_takesShort_12 n) x1 x2 D
def f_X12_takesShort (x1 : Int32) (D : Dm) : Option Dm := gd (inB x1 10) (lt (ud D 281 36 (D 289 (Int32.toNatClampNeg x1))) fun D2 => f_X12_takesShort_12 FU x1 0 D2)
def f_X12_takesLetter (x1 : Int32) (x2 : Int32) (D : Dm) : Option Dm := gd (inB (D 281 36) 40) (lt (ud D 299 (Int32.toNatClampNeg (D 281 36)) x1) fun D2 => gd (inB (D2 281 36) 40) (lt (ud D2 300 (Int32.toNatClampNeg (D2 281 36)) x2) fun D5 => lt (ud D5 281 36 ((D5 281 36) + 1)) fun D7 => some D7))
def f_X12_takesLong (x1 : Int32) (x2 : Int32) (x3 : Int32) (D : Dm) : Option Dm := bV (f_X12_takesShort x1 D) fun D1 => bV (f_X12_takesLetter x2 x3 D1) fun D3 => some D3
def f_X12_takesTold_10_b (k10 : Int32 → Dm → Option Dm) (x1 : Int32) (D : Dm) : Option Dm := if (D 281 18) ≤ x1 then (some D) else (gd (inB x1 12) (gd (inB x1 40) (lt (ud D 299 (Int32.toNatClampNeg x1) (D 285 (Int32.toNatClampNeg x1))) fun D4 => bI (f_X12_leastOf RF x1 D4) fun y8 D6 => gd (inB x1 40) (lt (ud D6 300 (Int32.toNatClampNeg x1) y8) fun D10 => lt (x1 + 1) fun y12 => k10 y12 D10))))
def f_X12_takesTold_10 : Nat → Int32 → Dm → Option Dm
  | 0, _, _ => none
  | n + 1, x1, D => f_X12_takesTold_10_b (f_X12_takesTold_10 n) x1 D
def f_X12_takesTold  (D : Dm) : Option Dm := lt (ud D 281 36 (D 281 18)) fun D1 => f_X12_takesTold_10 FU 0 D1
def f_X12_namesOf_36 (k6 : Nat → Nat → Int32 → Int32 → Int32 → Int32 → Dm → Option (Int32 × Dm)) (r1 : Nat) (n1 : Nat) (x2 : Int32) (x3 : Int32) (x5 : Int32) (xs0 : Int32) (D : Dm) : Option (Int32 × Dm) := lt (x5 + 1) fun y1 => k6 r1 n1 x2 x3 xs0 y1 D
def f_X12_namesOf_6_b (k6 : Nat → Nat → Int32 → Int32 → Int32 → Int32 → Dm → Option (Int32 × Dm)) (r1 : Nat) (n1 : Nat) (x2 : Int32) (x3 : Int32) (x4 : Int32) (x5 : Int32) (D : Dm) : Option (Int32 × Dm) := if x3 ≤ x5 then (some (x4, D)) else (gd (inB (x2 + x5) n1) (if (D r1 (Int32.toNatClampNeg (x2 + x5))) < x4 then (f_X12_namesOf_36 k6 r1 n1 x2 x3 x5 x4 D) else (gd (inB (x2 + x5) n1) (f_X12_namesOf_36 k6 r1 n1 x2 x3 x5 ((D r1 (Int32.toNatClampNeg (x2 + x5))) + 1) D))))
def f_X12_namesOf_6 : Nat → Nat → Nat → Int32 → Int32 → Int32 → Int32 → Dm → Option (Int32 × Dm)
  | 0, _, _, _, _, _, _, _ => none
  | n + 1, r1, n1, x2, x3, x4, x5, D => f_X12_namesOf_6_b (f_X12_namesOf_6 n) r1 n1 x2 x3 x4 x5 D
def f_X12_namesOf (r1 : Nat) (n1 : Nat) (x2 : Int32) (x3 : Int32) (D : Dm) : Option (Int32 × Dm) := f_X12_namesOf_6 FU r1 n1 x2 x3 0 0 D
def f_X12_namesOfShort (x1 : Int32) (D : Dm) : Option (Int32 × Dm) := gd (inB x1 10) (bI (f_X12_namesOf 291 60 (6 * x1) (D 289 (Int32.toNatClampNeg x1)) D) fun y4 D2 => some (y4, D2))
def f_X12_leasts_74_b (k74 : Int32 → Dm → Option Dm) (x2 : Int32) (D : Dm) : Option Dm := if (D 281 36) ≤ x2 then (some D) else (gd (inB x2 40) (gd (inB x2 40) (lt (ud D 300 (Int32.toNatClampNeg x2) ((-1) - (D 300 (Int32.toNatClampNeg x2)))) fun D4 => lt (x2 + 1) fun y6 => k74 y6 D4)))
def f_X12_leasts_74 : Nat → Int32 → Dm → Option Dm
  | 0, _, _ => none
  | n + 1, x2, D => f_X12_leasts_74_b (f_X12_leasts_74 n) x2 D
def f_X12_leasts_66 (k4 : Int32 → Int32 → Dm → Option Dm) (x1 : Int32) (x2 : Int32) (D : Dm) : Option Dm := lt (x2 + 1) fun y1 => k4 x1 y1 D
def f_X12_leasts_60 (k4 : Int32 → Int32 → Dm → Option Dm) (k32 : Int32 → Int32 → Int32 → Int32 → Dm → Option Dm) (x1 : Int32) (x2 : Int32) (x3 : Int32) (x4 : Int32) (D : Dm) : Option Dm := lt (x4 + 1) fun y1 => k32 x1 x2 x3 y1 D
def f_X12_leasts_32_b (k4 : Int32 → Int32 → Dm → Option Dm) (k32 : Int32 → Int32 → Int32 → Int32 → Dm → Option Dm) (x1 : Int32) (x2 : Int32) (x3 : Int32) (x4 : Int32) (D : Dm) : Option Dm := if (D 281 36) ≤ x4 then (f_X12_leasts_66 k4 x1 x2 D) else (gd (inB x4 40) (if (D 300 (Int32.toNatClampNeg x4)) = x3 then (gd (inB x4 40) (lt (ud D 300 (Int32.toNatClampNeg x4) x1) fun D5 => f_X12_leasts_60 k4 k32 x1 x2 x3 x4 D5)) else (f_X12_leasts_60 k4 k32 x1 x2 x3 x4 D)))
def f_X12_leasts_32 (k4 : Int32 → Int32 → Dm → Option Dm) : Nat → Int32 → Int32 → Int32 → Int32 → Dm → Option Dm
  | 0, _, _, _, _, _ => none
  | n + 1, x1, x2, x3, x4, D => f_X12_leasts_32_b k4 (f_X12_leasts_32 k4 n) x1 x2 x3 x4 D
def f_X12_leasts_4_b (k4 : Int32 → Int32 → Dm → Option Dm) (x1 : Int32) (x2 : Int32) (D : Dm) : Option Dm := if (D 281 36) ≤ x2 then (f_X12_leasts_74 FU 0 D) else (gd (inB x2 40) (lt (D 300 (Int32.toNatClampNeg x2)) fun y3 => if 0 ≤ y3 then (lt (x1 + (-1)) fun y6 => f_X12_leasts_32 k4 FU y6 x2 y3 x2 D) else (f_X12_leasts_66 k4 x1 x2 D)))
def f_X12_leasts_4 : Nat → Int32 → Int32 → Dm → Option Dm
  | 0, _, _, _ => none
  | n + 1, x1, x2, D => f_X12_leasts_4_b (f_X12_leasts_4 n) x1 x2 D
def f_X12_leasts  (D : Dm) : Option Dm := f_X12_leasts_4 FU 0 0 D
def f_X12_runs_6_b (k6 : Int32 → Dm → Option Dm) (x1 : Int32) (D : Dm) : Option Dm := if (D 281 36) ≤ x1 then (some D) else (gd (inB x1 40) (gd (inB x1 40) (bV (f_X12_goesBy 0 (D 299 (Int32.toNatClampNeg x1)) (D 300 (Int32.toNatClampNeg x1)) D) fun D4 => lt (x1 + 1) fun y6 => k6 y6 D4)))
def f_X12_runs_6 : Nat → Int32 → Dm → Option Dm
  | 0, _, _ => none
  | n + 1, x1, D => f_X12_runs_6_b (f_X12_runs_6 n) x1 D
def f_X12_runs  (D : Dm) : Option Dm := bV (f_X12_starts D) fun D1 => f_X12_runs_6 FU 0 D1
def f_X12_keepsOne  (D : Dm) : Option Dm := bV (f_X12_runs D) fun D1 => lt (ud D1 281 37 (D1 281 3)) fun D3 => lt (ud D3 281 38 (D3 281 4)) fun D5 => lt (ud D5 281 39 (D5 281 5)) fun D7 => some D7
def f_X12_answers_11_b (k11 : Int32 → Nat → Nat → Int32 → Dm → Option (Int32 × Dm)) (x1 : Int32) (r5 : Nat) (n5 : Nat) (x6 : Int32) (D : Dm) : Option (Int32 × Dm) := gd (inB x1 10) (if (D 292 (Int32.toNatClampNeg x1)) ≤ x6 then (bI (f_X12_accepts 0 D) fun y5 D3 => gd (zbB y5) (some (y5, D3))) else (gd (inB ((6 * x1) + x6) 60) (gd (inB ((6 * x1) + x6) 60) (gd (inB (D 294 (Int32.toNatClampNeg ((6 * x1) + x6))) n5) (bV (f_X12_goesBy 0 (D 293 (Int32.toNatClampNeg ((6 * x1) + x6))) (D r5 (Int32.toNatClampNeg (D 294 (Int32.toNatClampNeg ((6 * x1) + x6))))) D) fun D10 => lt (x6 + 1) fun y12 => k11 x1 r5 n5 y12 D10)))))
def f_X12_answers_11 : Nat → Int32 → Nat → Nat → Int32 → Dm → Option (Int32 × Dm)
  | 0, _, _, _, _, _ => none
  | n + 1, x1, r5, n5, x6, D => f_X12_answers_11_b (f_X12_answers_11 n) x1 r5 n5 x6 D
def f_X12_answers (x1 : Int32) (x2 : Int32) (x3 : Int32) (x4 : Int32) (r5 : Nat) (n5 : Nat) (D : Dm) : Option (Int32 × Dm) := bV (f_X12_stays x2 x3 x4 D) fun D1 => f_X12_answers_11 FU x1 r5 n5 0 D1
def f_X12_answersOne (x1 : Int32) (D : Dm) : Option (Int32 × Dm) := bI (f_X12_answers x1 (D 281 37) (D 281 38) (D 281 39) 301 3 D) fun y3 D1 => gd (zbB y3) (some (y3, D1))
def f_X12_ownOf (x1 : Int32) (D : Dm) : Option (Int32 × Dm) := gd (inB x1 10) (bI (f_X12_namesOf 294 60 (6 * x1) (D 292 (Int32.toNatClampNeg x1)) D) fun y4 D2 => some (y4, D2))
def f_X12_looksAt_155 (k9 : Int32 → Int32 → Int32 → Int32 → Dm → Option Dm) (x1 : Int32) (x2 : Int32) (x3 : Int32) (x4 : Int32) (D : Dm) : Option Dm := lt (x4 + 1) fun y1 => k9 x1 x2 x3 y1 D
def f_X12_looksAt_128_b (k128 : Int32 → Dm → Option Dm) (x7 : Int32) (D : Dm) : Option Dm := if 3 ≤ x7 then (some D) else (gd (inB x7 3) (gd (inB x7 3) (lt (ud D 303 (Int32.toNatClampNeg x7) (D 301 (Int32.toNatClampNeg x7))) fun D4 => lt (x7 + 1) fun y6 => k128 y6 D4)))
def f_X12_looksAt_128 : Nat → Int32 → Dm → Option Dm
  | 0, _, _ => none
  | n + 1, x7, D => f_X12_looksAt_128_b (f_X12_looksAt_128 n) x7 D
def f_X12_looksAt_71 (k9 : Int32 → Int32 → Int32 → Int32 → Dm → Option Dm) (x1 : Int32) (x2 : Int32) (x3 : Int32) (x4 : Int32) (x5 : Int32) (xs0 : Int32) (D : Dm) : Option Dm := gd (inB x4 3) (lt (ud D 301 (Int32.toNatClampNeg x4) x5) fun D2 => if xs0 = 0 then (f_X12_looksAt_155 k9 x1 x2 x3 x4 D2) else (lt (ud D2 281 42 ((D2 281 42) ||| (1 <<< (x5 &&& 31)))) fun D5 => if x5 = (D5 281 43) then (lt (ud D5 281 45 1) fun D8 => lt (ud D8 281 44 x1) fun D10 => f_X12_looksAt_128 FU 0 D10) else (f_X12_looksAt_155 k9 x1 x2 x3 x4 D5)))
def f_X12_looksAt_9_b (k9 : Int32 → Int32 → Int32 → Int32 → Dm → Option Dm) (x1 : Int32) (x2 : Int32) (x3 : Int32) (x4 : Int32) (D : Dm) : Option Dm := if x2 ≤ x4 then (some D) else (gd (inB x4 3) (lt (D 301 (Int32.toNatClampNeg x4)) fun y3 => if 100 ≤ y3 then (f_X12_looksAt_155 k9 x1 x2 x3 x4 D) else (if (((D 281 42) >>> (y3 &&& 31)) &&& 1) = 1 then (f_X12_looksAt_155 k9 x1 x2 x3 x4 D) else (gd (inB x4 3) (lt (ud D 301 (Int32.toNatClampNeg x4) 200) fun D8 => bI (f_X12_answersOne x1 D8) fun y12 D10 => if y12 = x3 then (f_X12_looksAt_71 k9 x1 x2 x3 x4 y3 0 D10) else (f_X12_looksAt_71 k9 x1 x2 x3 x4 y3 1 D10))))))
def f_X12_looksAt_9 : Nat → Int32 → Int32 → Int32 → Int32 → Dm → Option Dm
  | 0, _, _, _, _, _ => none
  | n + 1, x1, x2, x3, x4, D => f_X12_looksAt_9_b (f_X12_looksAt_9 n) x1 x2 x3 x4 D
def f_X12_looksAt (x1 : Int32) (x2 : Int32) (D : Dm) : Option Dm := bI (f_X12_answersOne x1 D) fun y3 D1 => f_X12_looksAt_9 FU x1 x2 y3 0 D1
set_option maxHeartbeats 4000000 in
theorem w_X12_fault {G : va_G} {tA : Nat → ClassId} {z : Nat} {E : Ex} {p : Program} {l : Launch} {e : Env} {s : State} {m : MethodId} {args : Array Value} {below : List Frame} {meth : Method} {c : Code} {r : Int32} {D' : Dm} (O : Ok G tA z E cX12_fault RX12 2 p s m args c) (hr : meth.sig.returnType = some .int) (hlk : meth.locks = false) (x1 : Int32) (D : Dm) (h : f_X12_fault x1 D = some (r, D')) : BI G tA z E p l e (rmC 1 0 0) s m args below meth c LAY D r D' 2 0 [(0, .ref (z + 281)), (1, .int x1)] [] := by
  obtain ⟨hx, hb, -, hown, hts, -⟩ := id O
  unfold f_X12_fault at h
  intro H locs ls hH hl
  refine lv_aload_n hx hb dX12_fault_0 rfl (lv_at hl 0 rfl) ?_
  refine lv_iconst (v := 0) hx hb dX12_fault_1 (by decide) ?_
  obtain ⟨D1, e2, h⟩ := lt_some h
  refine h_puti O hH ly_281 rfl fl_X12_1 e2 dX12_fault_2 (fun H locs hH => ?_)
  refine lv_iload_n hx hb dX12_fault_5 rfl (lv_at hl 1 rfl) ?_
  refine lv_if_ne (tgt := 16) hx hb dX12_fault_6 (by decide) (fun c3 => ?_) (fun c3 => ?_)
  · have h := it_neg h c3
    refine lv_iload_n hx hb dX12_fault_16 rfl (lv_at hl 1 rfl) ?_
    refine lv_iconst (v := 1) hx hb dX12_fault_17 (by decide) ?_
    refine lv_icmp_ne (tgt := 28) hx hb dX12_fault_18 (by decide) (fun c4 => ?_) (fun c4 => ?_)
    · have h := it_neg h c4
      refine lv_iconst (v := (-1)) hx hb dX12_fault_28 (by decide) ?_
      obtain ⟨rfl, rfl⟩ := ret_i h
      exact h_iret O hr hlk hH dX12_fault_29
    · have h := it_pos h c4
      refine lv_aload_n hx hb dX12_fault_21 rfl (lv_at hl 0 rfl) ?_
      refine h_geti O hH ly_281 rfl fl_X12_24 dX12_fault_22 ?_
      refine lv_goto (tgt := 29) hx hb dX12_fault_25 (by decide) ?_
      obtain ⟨rfl, rfl⟩ := ret_i h
      exact h_iret O hr hlk hH dX12_fault_29
  · have h := it_pos h c3
    refine lv_aload_n hx hb dX12_fault_9 rfl (lv_at hl 0 rfl) ?_
    refine h_geti O hH ly_281 rfl fl_X12_168 dX12_fault_10 ?_
    refine lv_goto (tgt := 29) hx hb dX12_fault_13 (by decide) ?_
    obtain ⟨rfl, rfl⟩ := ret_i h
    exact h_iret O hr hlk hH dX12_fault_29
set_option maxHeartbeats 4000000 in
theorem c_X12_fault {l : Launch} {G : va_G} {tA : Nat → ClassId} {z : Nat} {E : Ex} {x1 : Int32} {D D' : Dm} {r : Int32} (h : f_X12_fault x1 D = some (r, D')) : CtI l yX12_fault cX12_fault 2 (some .int) G tA z E 1 0 0 [.ref (z + 281), .int x1] LAY D r LAY D' :=
  ct_BI (by decide +kernel) (Nat.le_of_ble_eq_true rfl) (fun _ _ _ _ _ _ _ _ O hr hlk => w_X12_fault O hr hlk _ _ h)
set_option maxHeartbeats 4000000 in
theorem w_X12_accept {G : va_G} {tA : Nat → ClassId} {z : Nat} {E : Ex} {p : Program} {l : Launch} {e : Env} {s : State} {m : MethodId} {args : Array Value} {below : List Frame} {meth : Method} {c : Code} {r : Int32} {D' : Dm} (O : Ok G tA z E cX12_accept RX12 5 p s m args c) (hr : meth.sig.returnType = some .int) (hlk : meth.locks = false) (x1 : Int32) (x2 : Int32) (x3 : Int32) (D : Dm) (h : f_X12_accept x1 x2 x3 D = some (r, D')) : BI G tA z E p l e (rmC 2 0 0) s m args below meth c LAY D r D' 5 0 [(0, .ref (z + 281)), (1, .int x1), (2, .int x2), (3, .int x3)] [] := by
  obtain ⟨hx, hb, -, hown, hts, -⟩ := id O
  unfold f_X12_accept at h
  intro H locs ls hH hl
  refine lv_aload_n hx hb dX12_accept_0 rfl (lv_at hl 0 rfl) ?_
  refine lv_iconst (v := 0) hx hb dX12_accept_1 (by decide) ?_
  obtain ⟨D1, e2, h⟩ := lt_some h
  refine h_puti O hH ly_281 rfl fl_X12_1 e2 dX12_accept_2 (fun H locs hH => ?_)
  refine lv_iload_n hx hb dX12_accept_5 rfl (lv_at hl 1 rfl) ?_
  obtain ⟨y5, D3, hc4, h⟩ := bI_some h
  refine h_callSi (As := [.int x1]) (rest := []) O hH (c_X12_isMachine hc4) ml_X12_243 rfl hl.1 rfl ⟨Nat.le_of_ble_eq_true rfl, Nat.le_of_ble_eq_true rfl⟩ (Nat.le_of_ble_eq_true rfl) dX12_accept_6 (fun H locs hH => ?_)
  refine lv_if_eq (tgt := 30) hx hb dX12_accept_9 (by decide) (fun c6 => ?_) (fun c6 => ?_)
  · have h := it_pos h c6
    refine lv_bipush (v := (-2)) hx hb dX12_accept_30 (by decide) ?_
    obtain ⟨rfl, rfl⟩ := ret_i h
    exact h_iret O hr hlk hH dX12_accept_32
  · have h := it_neg h c6
    refine lv_iload_n hx hb dX12_accept_12 rfl (lv_at hl 2 rfl) ?_
    refine lv_i2l hx hb dX12_accept_13 rfl ?_
    refine lv_lconst (v := 0) hx hb dX12_accept_14 (by decide) ?_
    refine lv_aload_n hx hb dX12_accept_15 rfl (lv_at hl 0 rfl) ?_
    refine lv_iload_n hx hb dX12_accept_16 rfl (lv_at hl 1 rfl) ?_
    refine lv_iconst (v := 0) hx hb dX12_accept_17 (by decide) ?_
    obtain ⟨y9, D7, hc8, h⟩ := bI_some h
    refine h_callVi (As := [.int x1, .int 0]) (rest := [.long 0, .long (Int32.toInt64 x2)]) O hH (c_X12_its hc8) ml_X12_155 ly_281 rfl rfl hl.1 rfl ⟨Nat.le_of_ble_eq_true rfl, Nat.le_of_ble_eq_true rfl⟩ (Nat.le_of_ble_eq_true rfl) dX12_accept_18 (fun H locs hH => ?_)
    refine lv_iconst (v := 1) hx hb dX12_accept_21 (by decide) ?_
    refine lv_isub hx hb dX12_accept_22 ?_
    refine lv_i2l hx hb dX12_accept_23 rfl ?_
    obtain ⟨y12, D10, hc11, h⟩ := bI_some h
    refine h_callSi (As := [.long (Int32.toInt64 x2), .long 0, .long (Int32.toInt64 (y9 - 1))]) (rest := []) O hH (c_X12_isIn hc11) ml_X12_182 rfl hl.1 rfl ⟨Nat.le_of_ble_eq_true rfl, Nat.le_of_ble_eq_true rfl⟩ (Nat.le_of_ble_eq_true rfl) dX12_accept_24 (fun H locs hH => ?_)
    refine lv_if_ne (tgt := 33) hx hb dX12_accept_27 (by decide) (fun c13 => ?_) (fun c13 => ?_)
    · have h := it_neg h c13
      refine lv_iload_n hx hb dX12_accept_33 rfl (lv_at hl 3 rfl) ?_
      refine lv_i2l hx hb dX12_accept_34 rfl ?_
      refine lv_lconst (v := 0) hx hb dX12_accept_35 (by decide) ?_
      refine lv_lconst (v := 1) hx hb dX12_accept_36 (by decide) ?_
      obtain ⟨y16, D14, hc15, h⟩ := bI_some h
      refine h_callSi (As := [.long (Int32.toInt64 x3), .long 0, .long 1]) (rest := []) O hH (c_X12_isIn hc15) ml_X12_182 rfl hl.1 rfl ⟨Nat.le_of_ble_eq_true rfl, Nat.le_of_ble_eq_true rfl⟩ (Nat.le_of_ble_eq_true rfl) dX12_accept_37 (fun H locs hH => ?_)
      refine lv_if_ne (tgt := 46) hx hb dX12_accept_40 (by decide) (fun c17 => ?_) (fun c17 => ?_)
      · have h := it_neg h c17
        refine lv_aload_n hx hb dX12_accept_46 rfl (lv_at hl 0 rfl) ?_
        refine lv_iload_n hx hb dX12_accept_47 rfl (lv_at hl 1 rfl) ?_
        refine lv_iconst (v := 3) hx hb dX12_accept_48 (by decide) ?_
        obtain ⟨y20, D18, hc19, h⟩ := bI_some h
        refine h_callVi (As := [.int x1, .int 3]) (rest := []) O hH (c_X12_its hc19) ml_X12_155 ly_281 rfl rfl hl.1 rfl ⟨Nat.le_of_ble_eq_true rfl, Nat.le_of_ble_eq_true rfl⟩ (Nat.le_of_ble_eq_true rfl) dX12_accept_49 (fun H locs hH => ?_)
        refine lv_iload_n hx hb dX12_accept_52 rfl (lv_at hl 2 rfl) ?_
        refine lv_ishr hx hb dX12_accept_53 ?_
        refine lv_iconst (v := 1) hx hb dX12_accept_54 (by decide) ?_
        refine lv_iand hx hb dX12_accept_55 ?_
        refine lv_topi (fun y21 e22 => ?_)
        have h := lt_at e22 h
        refine lv_istore (lv' := [(4, .int y21), (0, .ref (z + 281)), (1, .int x1), (2, .int x2), (3, .int x3)]) hx hb dX12_accept_56 hl (by decide) rfl (fun ls hl => ?_)
        refine lv_iload hx hb dX12_accept_58 (lv_at hl 0 rfl) ?_
        refine lv_iload_n hx hb dX12_accept_60 rfl (lv_at hl 4 rfl) ?_
        refine lv_icmp_ne (tgt := 67) hx hb dX12_accept_61 (by decide) (fun c23 => ?_) (fun c23 => ?_)
        · have h := it_neg h c23
          refine lv_aload_n hx hb dX12_accept_67 rfl (lv_at hl 1 rfl) ?_
          refine h_getr O hH ly_281 rfl fl_X12_13 dX12_accept_68 ?_
          refine lv_bipush (v := 94) hx hb dX12_accept_71 (by decide) ?_
          refine lv_iload_n hx hb dX12_accept_73 rfl (lv_at hl 2 rfl) ?_
          refine lv_imul hx hb dX12_accept_74 ?_
          refine lv_iconst (v := 3) hx hb dX12_accept_75 (by decide) ?_
          refine lv_iadd hx hb dX12_accept_76 ?_
          refine lv_dup2_11 hx hb dX12_accept_77 rfl rfl ?_
          obtain ⟨g24, h⟩ := gd_some h
          refine h_iald O hH ly_282 g24 dX12_accept_78 ?_
          refine lv_iconst (v := 1) hx hb dX12_accept_79 (by decide) ?_
          refine lv_iload_n hx hb dX12_accept_80 rfl (lv_at hl 3 rfl) ?_
          refine lv_ishl hx hb dX12_accept_81 ?_
          refine lv_ixor hx hb dX12_accept_82 ?_
          obtain ⟨g25, h⟩ := gd_some h
          obtain ⟨D26, e27, h⟩ := lt_some h
          refine h_iast O hH ly_282 g25 e27 dX12_accept_83 (fun H locs hH => ?_)
          refine lv_iload_n hx hb dX12_accept_84 rfl (lv_at hl 2 rfl) ?_
          refine lv_if_ne (tgt := 92) hx hb dX12_accept_85 (by decide) (fun c28 => ?_) (fun c28 => ?_)
          · have h := it_neg h c28
            refine lv_iload hx hb dX12_accept_92 (lv_at hl 0 rfl) ?_
            obtain ⟨rfl, rfl⟩ := ret_i h
            exact h_iret O hr hlk hH dX12_accept_94
          · have h := it_pos h c28
            refine lv_aload_n hx hb dX12_accept_88 rfl (lv_at hl 1 rfl) ?_
            obtain ⟨D29, hc30, h⟩ := bV_some h
            refine h_callVv (As := []) (rest := []) O hH (c_X12_resets hc30) ml_X12_132 ly_281 rfl rfl hl.1 rfl ⟨Nat.le_of_ble_eq_true rfl, Nat.le_of_ble_eq_true rfl⟩ (Nat.le_of_ble_eq_true rfl) dX12_accept_89 (fun H locs hH => ?_)
            refine lv_iload hx hb dX12_accept_92 (lv_at hl 0 rfl) ?_
            obtain ⟨rfl, rfl⟩ := ret_i h
            exact h_iret O hr hlk hH dX12_accept_94
        · have h := it_pos h c23
          refine lv_iload hx hb dX12_accept_64 (lv_at hl 0 rfl) ?_
          obtain ⟨rfl, rfl⟩ := ret_i h
          exact h_iret O hr hlk hH dX12_accept_66
      · have h := it_pos h c17
        refine lv_bipush (v := (-3)) hx hb dX12_accept_43 (by decide) ?_
        obtain ⟨rfl, rfl⟩ := ret_i h
        exact h_iret O hr hlk hH dX12_accept_45
    · have h := it_pos h c13
      refine lv_bipush (v := (-2)) hx hb dX12_accept_30 (by decide) ?_
      obtain ⟨rfl, rfl⟩ := ret_i h
      exact h_iret O hr hlk hH dX12_accept_32
set_option maxHeartbeats 4000000 in
theorem c_X12_accept {l : Launch} {G : va_G} {tA : Nat → ClassId} {z : Nat} {E : Ex} {x1 : Int32} {x2 : Int32} {x3 : Int32} {D D' : Dm} {r : Int32} (h : f_X12_accept x1 x2 x3 D = some (r, D')) : CtI l yX12_accept cX12_accept 5 (some .int) G tA z E 2 0 0 [.ref (z + 281), .int x1, .int x2, .int x3] LAY D r LAY D' :=
  ct_BI (by decide +kernel) (Nat.le_of_ble_eq_true rfl) (fun _ _ _ _ _ _ _ _ O hr hlk => w_X12_accept O hr hlk _ _ _ _ h)
set_option maxHeartbeats 4000000 in
theorem w_X12_isRegister {G : va_G} {tA : Nat → ClassId} {z : Nat} {E : Ex} {p : Program} {l : Launch} {e : Env} {s : State} {m : MethodId} {args : Array Value} {below : List Frame} {meth : Method} {c : Code} {r : Int32} {D' : Dm} (O : Ok G tA z E cX12_isRegister RX12 3 p s m args c) (hr : meth.sig.returnType = some .boolean) (hlk : meth.locks = false) (x1 : Int32) (x2 : Int32) (D : Dm) (h : f_X12_isRegister x1 x2 D = some (r, D')) : BI G tA z E p l e (rmC 2 0 0) s m args below meth c LAY D r D' 3 0 [(0, .ref (z + 281)), (1, .int x1), (2, .int x2)] [] := by
  obtain ⟨hx, hb, -, hown, hts, -⟩ := id O
  unfold f_X12_isRegister at h
  intro H locs ls hH hl
  refine lv_iload_n hx hb dX12_isRegister_0 rfl (lv_at hl 2 rfl) ?_
  refine lv_i2l hx hb dX12_isRegister_1 rfl ?_
  refine lv_lconst (v := 0) hx hb dX12_isRegister_2 (by decide) ?_
  refine lv_aload_n hx hb dX12_isRegister_3 rfl (lv_at hl 0 rfl) ?_
  refine lv_iload_n hx hb dX12_isRegister_4 rfl (lv_at hl 1 rfl) ?_
  refine lv_iconst (v := 1) hx hb dX12_isRegister_5 (by decide) ?_
  obtain ⟨y3, D1, hc2, h⟩ := bI_some h
  refine h_callVi (As := [.int x1, .int 1]) (rest := [.long 0, .long (Int32.toInt64 x2)]) O hH (c_X12_its hc2) ml_X12_155 ly_281 rfl rfl hl.1 rfl ⟨Nat.le_of_ble_eq_true rfl, Nat.le_of_ble_eq_true rfl⟩ (Nat.le_of_ble_eq_true rfl) dX12_isRegister_6 (fun H locs hH => ?_)
  refine lv_iconst (v := 1) hx hb dX12_isRegister_9 (by decide) ?_
  refine lv_isub hx hb dX12_isRegister_10 ?_
  refine lv_i2l hx hb dX12_isRegister_11 rfl ?_
  obtain ⟨y6, D4, hc5, h⟩ := bI_some h
  refine h_callSi (As := [.long (Int32.toInt64 x2), .long 0, .long (Int32.toInt64 (y3 - 1))]) (rest := []) O hH (c_X12_isIn hc5) ml_X12_182 rfl hl.1 rfl ⟨Nat.le_of_ble_eq_true rfl, Nat.le_of_ble_eq_true rfl⟩ (Nat.le_of_ble_eq_true rfl) dX12_isRegister_12 (fun H locs hH => ?_)
  obtain ⟨g7, h⟩ := gd_some h
  obtain ⟨rfl, rfl⟩ := ret_i h
  exact h_zret O hr hlk (zbB_ok g7) hH dX12_isRegister_15
set_option maxHeartbeats 4000000 in
theorem c_X12_isRegister {l : Launch} {G : va_G} {tA : Nat → ClassId} {z : Nat} {E : Ex} {x1 : Int32} {x2 : Int32} {D D' : Dm} {r : Int32} (h : f_X12_isRegister x1 x2 D = some (r, D')) : CtI l yX12_isRegister cX12_isRegister 3 (some .boolean) G tA z E 2 0 0 [.ref (z + 281), .int x1, .int x2] LAY D r LAY D' :=
  ct_BI (by decide +kernel) (Nat.le_of_ble_eq_true rfl) (fun _ _ _ _ _ _ _ _ O hr hlk => w_X12_isRegister O hr hlk _ _ _ h)
set_option maxHeartbeats 4000000 in
theorem w_X12_isMove_59 {G : va_G} {tA : Nat → ClassId} {z : Nat} {E : Ex} {p : Program} {l : Launch} {e : Env} {s : State} {m : MethodId} {args : Array Value} {below : List Frame} {meth : Method} {c : Code} {r : Int32} {D' : Dm} (O : Ok G tA z E cX12_isMove RX12 5 p s m args c) (hr : meth.sig.returnType = some .boolean) (hlk : meth.locks = false)  (D : Dm) (h : f_X12_isMove_59  D = some (r, D')) : BI G tA z E p l e (rmC 3 0 0) s m args below meth c LAY D r D' 5 59 [] [] := by
  obtain ⟨hx, hb, -, hown, hts, -⟩ := id O
  unfold f_X12_isMove_59 at h
  intro H locs ls hH hl
  refine lv_iconst (v := 1) hx hb dX12_isMove_59 (by decide) ?_
  refine lv_goto (tgt := 64) hx hb dX12_isMove_60 (by decide) ?_
  obtain ⟨rfl, rfl⟩ := ret_i h
  exact h_zret O hr hlk zb_1 hH dX12_isMove_64
set_option maxHeartbeats 4000000 in
theorem w_X12_isMove {G : va_G} {tA : Nat → ClassId} {z : Nat} {E : Ex} {p : Program} {l : Launch} {e : Env} {s : State} {m : MethodId} {args : Array Value} {below : List Frame} {meth : Method} {c : Code} {r : Int32} {D' : Dm} (O : Ok G tA z E cX12_isMove RX12 5 p s m args c) (hr : meth.sig.returnType = some .boolean) (hlk : meth.locks = false) (x1 : Int32) (x2 : Int32) (x3 : Int32) (x4 : Int32) (D : Dm) (h : f_X12_isMove x1 x2 x3 x4 D = some (r, D')) : BI G tA z E p l e (rmC 3 0 0) s m args below meth c LAY D r D' 5 0 [(0, .ref (z + 281)), (1, .int x1), (2, .int x2), (3, .int x3), (4, .int x4)] [] := by
  obtain ⟨hx, hb, -, hown, hts, -⟩ := id O
  unfold f_X12_isMove at h
  intro H locs ls hH hl
  refine lv_iload_n hx hb dX12_isMove_0 rfl (lv_at hl 1 rfl) ?_
  obtain ⟨y3, D1, hc2, h⟩ := bI_some h
  refine h_callSi (As := [.int x1]) (rest := []) O hH (c_X12_isMachine hc2) ml_X12_243 rfl hl.1 rfl ⟨Nat.le_of_ble_eq_true rfl, Nat.le_of_ble_eq_true rfl⟩ (Nat.le_of_ble_eq_true rfl) dX12_isMove_1 (fun H locs hH => ?_)
  refine lv_if_eq (tgt := 63) hx hb dX12_isMove_4 (by decide) (fun c4 => ?_) (fun c4 => ?_)
  · have h := it_pos h c4
    refine lv_iconst (v := 0) hx hb dX12_isMove_63 (by decide) ?_
    obtain ⟨rfl, rfl⟩ := ret_i h
    exact h_zret O hr hlk zb_0 hH dX12_isMove_64
  · have h := it_neg h c4
    refine lv_iload_n hx hb dX12_isMove_7 rfl (lv_at hl 2 rfl) ?_
    refine lv_i2l hx hb dX12_isMove_8 rfl ?_
    refine lv_lconst (v := 0) hx hb dX12_isMove_9 (by decide) ?_
    refine lv_aload_n hx hb dX12_isMove_10 rfl (lv_at hl 0 rfl) ?_
    refine lv_iload_n hx hb dX12_isMove_11 rfl (lv_at hl 1 rfl) ?_
    refine lv_iconst (v := 0) hx hb dX12_isMove_12 (by decide) ?_
    obtain ⟨y7, D5, hc6, h⟩ := bI_some h
    refine h_callVi (As := [.int x1, .int 0]) (rest := [.long 0, .long (Int32.toInt64 x2)]) O hH (c_X12_its hc6) ml_X12_155 ly_281 rfl rfl hl.1 rfl ⟨Nat.le_of_ble_eq_true rfl, Nat.le_of_ble_eq_true rfl⟩ (Nat.le_of_ble_eq_true rfl) dX12_isMove_13 (fun H locs hH => ?_)
    refine lv_iconst (v := 1) hx hb dX12_isMove_16 (by decide) ?_
    refine lv_isub hx hb dX12_isMove_17 ?_
    refine lv_i2l hx hb dX12_isMove_18 rfl ?_
    obtain ⟨y10, D8, hc9, h⟩ := bI_some h
    refine h_callSi (As := [.long (Int32.toInt64 x2), .long 0, .long (Int32.toInt64 (y7 - 1))]) (rest := []) O hH (c_X12_isIn hc9) ml_X12_182 rfl hl.1 rfl ⟨Nat.le_of_ble_eq_true rfl, Nat.le_of_ble_eq_true rfl⟩ (Nat.le_of_ble_eq_true rfl) dX12_isMove_19 (fun H locs hH => ?_)
    refine lv_if_eq (tgt := 63) hx hb dX12_isMove_22 (by decide) (fun c11 => ?_) (fun c11 => ?_)
    · have h := it_pos h c11
      refine lv_iconst (v := 0) hx hb dX12_isMove_63 (by decide) ?_
      obtain ⟨rfl, rfl⟩ := ret_i h
      exact h_zret O hr hlk zb_0 hH dX12_isMove_64
    · have h := it_neg h c11
      refine lv_iload_n hx hb dX12_isMove_25 rfl (lv_at hl 3 rfl) ?_
      refine lv_i2l hx hb dX12_isMove_26 rfl ?_
      refine lv_lconst (v := 0) hx hb dX12_isMove_27 (by decide) ?_
      refine lv_aload_n hx hb dX12_isMove_28 rfl (lv_at hl 0 rfl) ?_
      refine lv_iload_n hx hb dX12_isMove_29 rfl (lv_at hl 1 rfl) ?_
      refine lv_iconst (v := 2) hx hb dX12_isMove_30 (by decide) ?_
      obtain ⟨y14, D12, hc13, h⟩ := bI_some h
      refine h_callVi (As := [.int x1, .int 2]) (rest := [.long 0, .long (Int32.toInt64 x3)]) O hH (c_X12_its hc13) ml_X12_155 ly_281 rfl rfl hl.1 rfl ⟨Nat.le_of_ble_eq_true rfl, Nat.le_of_ble_eq_true rfl⟩ (Nat.le_of_ble_eq_true rfl) dX12_isMove_31 (fun H locs hH => ?_)
      refine lv_iconst (v := 1) hx hb dX12_isMove_34 (by decide) ?_
      refine lv_isub hx hb dX12_isMove_35 ?_
      refine lv_i2l hx hb dX12_isMove_36 rfl ?_
      obtain ⟨y17, D15, hc16, h⟩ := bI_some h
      refine h_callSi (As := [.long (Int32.toInt64 x3), .long 0, .long (Int32.toInt64 (y14 - 1))]) (rest := []) O hH (c_X12_isIn hc16) ml_X12_182 rfl hl.1 rfl ⟨Nat.le_of_ble_eq_true rfl, Nat.le_of_ble_eq_true rfl⟩ (Nat.le_of_ble_eq_true rfl) dX12_isMove_37 (fun H locs hH => ?_)
      refine lv_if_eq (tgt := 63) hx hb dX12_isMove_40 (by decide) (fun c18 => ?_) (fun c18 => ?_)
      · have h := it_pos h c18
        refine lv_iconst (v := 0) hx hb dX12_isMove_63 (by decide) ?_
        obtain ⟨rfl, rfl⟩ := ret_i h
        exact h_zret O hr hlk zb_0 hH dX12_isMove_64
      · have h := it_neg h c18
        refine lv_iload hx hb dX12_isMove_43 (lv_at hl 4 rfl) ?_
        refine lv_iconst (v := 2) hx hb dX12_isMove_45 (by decide) ?_
        refine lv_icmp_eq (tgt := 59) hx hb dX12_isMove_46 (by decide) (fun c19 => ?_) (fun c19 => ?_)
        · have h := it_pos h c19
          exact w_X12_isMove_59 O hr hlk _ h _ _ _ hH (lv_sub hl [] rfl)
        · have h := it_neg h c19
          refine lv_aload_n hx hb dX12_isMove_49 rfl (lv_at hl 0 rfl) ?_
          refine lv_iload_n hx hb dX12_isMove_50 rfl (lv_at hl 1 rfl) ?_
          refine lv_iload hx hb dX12_isMove_51 (lv_at hl 4 rfl) ?_
          obtain ⟨y22, D20, hc21, h⟩ := bI_some h
          refine h_callVi (As := [.int x1, .int x4]) (rest := []) O hH (c_X12_isRegister hc21) ml_X12_262 ly_281 rfl rfl hl.1 rfl ⟨Nat.le_of_ble_eq_true rfl, Nat.le_of_ble_eq_true rfl⟩ (Nat.le_of_ble_eq_true rfl) dX12_isMove_53 (fun H locs hH => ?_)
          refine lv_if_eq (tgt := 63) hx hb dX12_isMove_56 (by decide) (fun c23 => ?_) (fun c23 => ?_)
          · have h := it_pos h c23
            refine lv_iconst (v := 0) hx hb dX12_isMove_63 (by decide) ?_
            obtain ⟨rfl, rfl⟩ := ret_i h
            exact h_zret O hr hlk zb_0 hH dX12_isMove_64
          · have h := it_neg h c23
            exact w_X12_isMove_59 O hr hlk _ h _ _ _ hH (lv_sub hl [] rfl)
set_option maxHeartbeats 4000000 in
theorem c_X12_isMove {l : Launch} {G : va_G} {tA : Nat → ClassId} {z : Nat} {E : Ex} {x1 : Int32} {x2 : Int32} {x3 : Int32} {x4 : Int32} {D D' : Dm} {r : Int32} (h : f_X12_isMove x1 x2 x3 x4 D = some (r, D')) : CtI l yX12_isMove cX12_isMove 5 (some .boolean) G tA z E 3 0 0 [.ref (z + 281), .int x1, .int x2, .int x3, .int x4] LAY D r LAY D' :=
  ct_BI (by decide +kernel) (Nat.le_of_ble_eq_true rfl) (fun _ _ _ _ _ _ _ _ O hr hlk => w_X12_isMove O hr hlk _ _ _ _ _ h)
set_option maxHeartbeats 4000000 in
theorem w_X12_move_181 {G : va_G} {tA : Nat → ClassId} {z : Nat} {E : Ex} {p : Program} {l : Launch} {e : Env} {s : State} {m : MethodId} {args : Array Value} {below : List Frame} {meth : Method} {c : Code} {r : Int32} {D' : Dm} (O : Ok G tA z E cX12_move RX12 13 p s m args c) (hr : meth.sig.returnType = some .int) (hlk : meth.locks = false) (x1 : Int32) (x5 : Int32) (x8 : Int32) (x9 : Int32) (x10 : Int32) (x11 : Int32) (xs0 : Int32) (D : Dm) (h : f_X12_move_181 x1 x5 x8 x9 x10 x11 xs0 D = some (r, D')) : BI G tA z E p l e (rmC 4 0 0) s m args below meth c LAY D r D' 13 181 [(0, .ref (z + 281)), (1, .int x1), (5, .int x5), (8, .int x8), (9, .int x9), (10, .int x10), (11, .int x11)] [.int xs0] := by
  obtain ⟨hx, hb, -, hown, hts, -⟩ := id O
  unfold f_X12_move_181 at h
  intro H locs ls hH hl
  refine lv_istore (lv' := [(12, .int xs0), (0, .ref (z + 281)), (1, .int x1), (5, .int x5), (8, .int x8), (9, .int x9), (10, .int x10), (11, .int x11)]) hx hb dX12_move_181 hl (by decide) rfl (fun ls hl => ?_)
  refine lv_aload_n hx hb dX12_move_183 rfl (lv_at hl 1 rfl) ?_
  refine h_getr O hH ly_281 rfl fl_X12_13 dX12_move_184 ?_
  refine lv_iload hx hb dX12_move_187 (lv_at hl 4 rfl) ?_
  refine lv_iload hx hb dX12_move_189 (lv_at hl 3 rfl) ?_
  obtain ⟨g1, h⟩ := gd_some h
  obtain ⟨D2, e3, h⟩ := lt_some h
  refine h_iast O hH ly_282 g1 e3 dX12_move_191 (fun H locs hH => ?_)
  refine lv_aload_n hx hb dX12_move_192 rfl (lv_at hl 1 rfl) ?_
  refine h_getr O hH ly_281 rfl fl_X12_13 dX12_move_193 ?_
  refine lv_iload hx hb dX12_move_196 (lv_at hl 4 rfl) ?_
  refine lv_iconst (v := 1) hx hb dX12_move_198 (by decide) ?_
  refine lv_iadd hx hb dX12_move_199 ?_
  refine lv_iload hx hb dX12_move_200 (lv_at hl 6 rfl) ?_
  obtain ⟨g4, h⟩ := gd_some h
  obtain ⟨D5, e6, h⟩ := lt_some h
  refine h_iast O hH ly_282 g4 e6 dX12_move_202 (fun H locs hH => ?_)
  refine lv_aload_n hx hb dX12_move_203 rfl (lv_at hl 1 rfl) ?_
  refine h_getr O hH ly_281 rfl fl_X12_13 dX12_move_204 ?_
  refine lv_iload hx hb dX12_move_207 (lv_at hl 4 rfl) ?_
  refine lv_iconst (v := 2) hx hb dX12_move_209 (by decide) ?_
  refine lv_iadd hx hb dX12_move_210 ?_
  refine lv_iload hx hb dX12_move_211 (lv_at hl 7 rfl) ?_
  obtain ⟨g7, h⟩ := gd_some h
  obtain ⟨D8, e9, h⟩ := lt_some h
  refine h_iast O hH ly_282 g7 e9 dX12_move_213 (fun H locs hH => ?_)
  refine lv_iload_n hx hb dX12_move_214 rfl (lv_at hl 2 rfl) ?_
  refine lv_if_ne (tgt := 227) hx hb dX12_move_215 (by decide) (fun c10 => ?_) (fun c10 => ?_)
  · have h := it_neg h c10
    refine lv_iload hx hb dX12_move_227 (lv_at hl 5 rfl) ?_
    obtain ⟨rfl, rfl⟩ := ret_i h
    exact h_iret O hr hlk hH dX12_move_229
  · have h := it_pos h c10
    refine lv_iload hx hb dX12_move_218 (lv_at hl 0 rfl) ?_
    refine lv_if_ne (tgt := 227) hx hb dX12_move_220 (by decide) (fun c11 => ?_) (fun c11 => ?_)
    · have h := it_neg h c11
      refine lv_iload hx hb dX12_move_227 (lv_at hl 5 rfl) ?_
      obtain ⟨rfl, rfl⟩ := ret_i h
      exact h_iret O hr hlk hH dX12_move_229
    · have h := it_pos h c11
      refine lv_aload_n hx hb dX12_move_223 rfl (lv_at hl 1 rfl) ?_
      obtain ⟨D12, hc13, h⟩ := bV_some h
      refine h_callVv (As := []) (rest := []) O hH (c_X12_resets hc13) ml_X12_132 ly_281 rfl rfl hl.1 rfl ⟨Nat.le_of_ble_eq_true rfl, Nat.le_of_ble_eq_true rfl⟩ (Nat.le_of_ble_eq_true rfl) dX12_move_224 (fun H locs hH => ?_)
      refine lv_iload hx hb dX12_move_227 (lv_at hl 5 rfl) ?_
      obtain ⟨rfl, rfl⟩ := ret_i h
      exact h_iret O hr hlk hH dX12_move_229
set_option maxHeartbeats 4000000 in
theorem w_X12_move_180 {G : va_G} {tA : Nat → ClassId} {z : Nat} {E : Ex} {p : Program} {l : Launch} {e : Env} {s : State} {m : MethodId} {args : Array Value} {below : List Frame} {meth : Method} {c : Code} {r : Int32} {D' : Dm} (O : Ok G tA z E cX12_move RX12 13 p s m args c) (hr : meth.sig.returnType = some .int) (hlk : meth.locks = false) (x1 : Int32) (x5 : Int32) (x8 : Int32) (x9 : Int32) (x10 : Int32) (x11 : Int32) (D : Dm) (h : f_X12_move_180 x1 x5 x8 x9 x10 x11 D = some (r, D')) : BI G tA z E p l e (rmC 4 0 0) s m args below meth c LAY D r D' 13 180 [(0, .ref (z + 281)), (1, .int x1), (5, .int x5), (8, .int x8), (9, .int x9), (10, .int x10), (11, .int x11)] [] := by
  obtain ⟨hx, hb, -, hown, hts, -⟩ := id O
  unfold f_X12_move_180 at h
  intro H locs ls hH hl
  refine lv_iconst (v := 0) hx hb dX12_move_180 (by decide) ?_
  exact w_X12_move_181 O hr hlk _ _ _ _ _ _ _ _ h _ _ _ hH (lv_sub hl [0, 1, 2, 3, 4, 5, 6] rfl)
set_option maxHeartbeats 4000000 in
theorem w_X12_move_134 {G : va_G} {tA : Nat → ClassId} {z : Nat} {E : Ex} {p : Program} {l : Launch} {e : Env} {s : State} {m : MethodId} {args : Array Value} {below : List Frame} {meth : Method} {c : Code} {r : Int32} {D' : Dm} (O : Ok G tA z E cX12_move RX12 13 p s m args c) (hr : meth.sig.returnType = some .int) (hlk : meth.locks = false) (x1 : Int32) (x5 : Int32) (x8 : Int32) (x9 : Int32) (x10 : Int32) (xs0 : Int32) (D : Dm) (h : f_X12_move_134 x1 x5 x8 x9 x10 xs0 D = some (r, D')) : BI G tA z E p l e (rmC 4 0 0) s m args below meth c LAY D r D' 13 134 [(0, .ref (z + 281)), (1, .int x1), (5, .int x5), (8, .int x8), (9, .int x9), (10, .int x10)] [.int xs0] := by
  obtain ⟨hx, hb, -, hown, hts, -⟩ := id O
  unfold f_X12_move_134 at h
  intro H locs ls hH hl
  refine lv_istore (lv' := [(11, .int xs0), (0, .ref (z + 281)), (1, .int x1), (5, .int x5), (8, .int x8), (9, .int x9), (10, .int x10)]) hx hb dX12_move_134 hl (by decide) rfl (fun ls hl => ?_)
  refine lv_aload_n hx hb dX12_move_136 rfl (lv_at hl 1 rfl) ?_
  refine h_getr O hH ly_281 rfl fl_X12_13 dX12_move_137 ?_
  refine lv_iload hx hb dX12_move_140 (lv_at hl 4 rfl) ?_
  obtain ⟨g1, h⟩ := gd_some h
  refine h_iald O hH ly_282 g1 dX12_move_142 ?_
  refine lv_iload hx hb dX12_move_143 (lv_at hl 3 rfl) ?_
  refine lv_icmp_ne (tgt := 180) hx hb dX12_move_145 (by decide) (fun c2 => ?_) (fun c2 => ?_)
  · have h := it_neg h c2
    exact w_X12_move_180 O hr hlk _ _ _ _ _ _ _ h _ _ _ hH (lv_sub hl [1, 2, 3, 4, 5, 6, 0] rfl)
  · have h := it_pos h c2
    refine lv_aload_n hx hb dX12_move_148 rfl (lv_at hl 1 rfl) ?_
    refine h_getr O hH ly_281 rfl fl_X12_13 dX12_move_149 ?_
    refine lv_iload hx hb dX12_move_152 (lv_at hl 4 rfl) ?_
    refine lv_iconst (v := 1) hx hb dX12_move_154 (by decide) ?_
    refine lv_iadd hx hb dX12_move_155 ?_
    obtain ⟨g3, h⟩ := gd_some h
    refine h_iald O hH ly_282 g3 dX12_move_156 ?_
    refine lv_iload hx hb dX12_move_157 (lv_at hl 6 rfl) ?_
    refine lv_icmp_ne (tgt := 180) hx hb dX12_move_159 (by decide) (fun c4 => ?_) (fun c4 => ?_)
    · have h := it_neg h c4
      exact w_X12_move_180 O hr hlk _ _ _ _ _ _ _ h _ _ _ hH (lv_sub hl [1, 2, 3, 4, 5, 6, 0] rfl)
    · have h := it_pos h c4
      refine lv_aload_n hx hb dX12_move_162 rfl (lv_at hl 1 rfl) ?_
      refine h_getr O hH ly_281 rfl fl_X12_13 dX12_move_163 ?_
      refine lv_iload hx hb dX12_move_166 (lv_at hl 4 rfl) ?_
      refine lv_iconst (v := 2) hx hb dX12_move_168 (by decide) ?_
      refine lv_iadd hx hb dX12_move_169 ?_
      obtain ⟨g5, h⟩ := gd_some h
      refine h_iald O hH ly_282 g5 dX12_move_170 ?_
      refine lv_iload hx hb dX12_move_171 (lv_at hl 0 rfl) ?_
      refine lv_icmp_ne (tgt := 180) hx hb dX12_move_173 (by decide) (fun c6 => ?_) (fun c6 => ?_)
      · have h := it_neg h c6
        exact w_X12_move_180 O hr hlk _ _ _ _ _ _ _ h _ _ _ hH (lv_sub hl [1, 2, 3, 4, 5, 6, 0] rfl)
      · have h := it_pos h c6
        refine lv_iconst (v := 1) hx hb dX12_move_176 (by decide) ?_
        refine lv_goto (tgt := 181) hx hb dX12_move_177 (by decide) ?_
        exact w_X12_move_181 O hr hlk _ _ _ _ _ _ _ _ h _ _ _ hH (lv_sub hl [1, 2, 3, 4, 5, 6, 0] rfl)
set_option maxHeartbeats 4000000 in
theorem w_X12_move_120 {G : va_G} {tA : Nat → ClassId} {z : Nat} {E : Ex} {p : Program} {l : Launch} {e : Env} {s : State} {m : MethodId} {args : Array Value} {below : List Frame} {meth : Method} {c : Code} {r : Int32} {D' : Dm} (O : Ok G tA z E cX12_move RX12 13 p s m args c) (hr : meth.sig.returnType = some .int) (hlk : meth.locks = false) (x1 : Int32) (x5 : Int32) (x7 : Int32) (x8 : Int32) (x9 : Int32) (xs0 : Int32) (D : Dm) (h : f_X12_move_120 x1 x5 x7 x8 x9 xs0 D = some (r, D')) : BI G tA z E p l e (rmC 4 0 0) s m args below meth c LAY D r D' 13 120 [(0, .ref (z + 281)), (1, .int x1), (5, .int x5), (7, .int x7), (8, .int x8), (9, .int x9)] [.int xs0] := by
  obtain ⟨hx, hb, -, hown, hts, -⟩ := id O
  unfold f_X12_move_120 at h
  intro H locs ls hH hl
  refine lv_istore (lv' := [(10, .int xs0), (0, .ref (z + 281)), (1, .int x1), (5, .int x5), (7, .int x7), (8, .int x8), (9, .int x9)]) hx hb dX12_move_120 hl (by decide) rfl (fun ls hl => ?_)
  refine lv_iload hx hb dX12_move_122 (lv_at hl 3 rfl) ?_
  refine lv_iconst (v := (-1)) hx hb dX12_move_124 (by decide) ?_
  refine lv_icmp_ne (tgt := 132) hx hb dX12_move_125 (by decide) (fun c1 => ?_) (fun c1 => ?_)
  · have h := it_neg h c1
    refine lv_iload hx hb dX12_move_132 (lv_at hl 4 rfl) ?_
    exact w_X12_move_134 O hr hlk _ _ _ _ _ _ _ h _ _ _ hH (lv_sub hl [1, 2, 3, 5, 6, 0] rfl)
  · have h := it_pos h c1
    refine lv_iconst (v := (-1)) hx hb dX12_move_128 (by decide) ?_
    refine lv_goto (tgt := 134) hx hb dX12_move_129 (by decide) ?_
    exact w_X12_move_134 O hr hlk _ _ _ _ _ _ _ h _ _ _ hH (lv_sub hl [1, 2, 3, 5, 6, 0] rfl)
set_option maxHeartbeats 4000000 in
theorem w_X12_move_106 {G : va_G} {tA : Nat → ClassId} {z : Nat} {E : Ex} {p : Program} {l : Launch} {e : Env} {s : State} {m : MethodId} {args : Array Value} {below : List Frame} {meth : Method} {c : Code} {r : Int32} {D' : Dm} (O : Ok G tA z E cX12_move RX12 13 p s m args c) (hr : meth.sig.returnType = some .int) (hlk : meth.locks = false) (x1 : Int32) (x5 : Int32) (x6 : Int32) (x7 : Int32) (x8 : Int32) (xs0 : Int32) (D : Dm) (h : f_X12_move_106 x1 x5 x6 x7 x8 xs0 D = some (r, D')) : BI G tA z E p l e (rmC 4 0 0) s m args below meth c LAY D r D' 13 106 [(0, .ref (z + 281)), (1, .int x1), (5, .int x5), (6, .int x6), (7, .int x7), (8, .int x8)] [.int xs0] := by
  obtain ⟨hx, hb, -, hown, hts, -⟩ := id O
  unfold f_X12_move_106 at h
  intro H locs ls hH hl
  refine lv_istore (lv' := [(9, .int xs0), (0, .ref (z + 281)), (1, .int x1), (5, .int x5), (6, .int x6), (7, .int x7), (8, .int x8)]) hx hb dX12_move_106 hl (by decide) rfl (fun ls hl => ?_)
  refine lv_iload hx hb dX12_move_108 (lv_at hl 3 rfl) ?_
  refine lv_iconst (v := (-1)) hx hb dX12_move_110 (by decide) ?_
  refine lv_icmp_ne (tgt := 118) hx hb dX12_move_111 (by decide) (fun c1 => ?_) (fun c1 => ?_)
  · have h := it_neg h c1
    refine lv_iload hx hb dX12_move_118 (lv_at hl 4 rfl) ?_
    exact w_X12_move_120 O hr hlk _ _ _ _ _ _ _ h _ _ _ hH (lv_sub hl [1, 2, 3, 5, 6, 0] rfl)
  · have h := it_pos h c1
    refine lv_iconst (v := (-1)) hx hb dX12_move_114 (by decide) ?_
    refine lv_goto (tgt := 120) hx hb dX12_move_115 (by decide) ?_
    exact w_X12_move_120 O hr hlk _ _ _ _ _ _ _ h _ _ _ hH (lv_sub hl [1, 2, 3, 5, 6, 0] rfl)
set_option maxHeartbeats 4000000 in
theorem w_X12_move_76 {G : va_G} {tA : Nat → ClassId} {z : Nat} {E : Ex} {p : Program} {l : Launch} {e : Env} {s : State} {m : MethodId} {args : Array Value} {below : List Frame} {meth : Method} {c : Code} {r : Int32} {D' : Dm} (O : Ok G tA z E cX12_move RX12 13 p s m args c) (hr : meth.sig.returnType = some .int) (hlk : meth.locks = false) (x1 : Int32) (x2 : Int32) (x3 : Int32) (x4 : Int32) (x5 : Int32) (x6 : Int32) (x7 : Int32) (D : Dm) (h : f_X12_move_76 x1 x2 x3 x4 x5 x6 x7 D = some (r, D')) : BI G tA z E p l e (rmC 4 0 0) s m args below meth c LAY D r D' 13 76 [(0, .ref (z + 281)), (1, .int x1), (2, .int x2), (3, .int x3), (4, .int x4), (5, .int x5), (6, .int x6), (7, .int x7)] [] := by
  obtain ⟨hx, hb, -, hown, hts, -⟩ := id O
  unfold f_X12_move_76 at h
  intro H locs ls hH hl
  refine lv_bipush (v := 94) hx hb dX12_move_76 (by decide) ?_
  refine lv_iload_n hx hb dX12_move_78 rfl (lv_at hl 1 rfl) ?_
  refine lv_imul hx hb dX12_move_79 ?_
  refine lv_iload_n hx hb dX12_move_80 rfl (lv_at hl 2 rfl) ?_
  refine lv_iload_n hx hb dX12_move_81 rfl (lv_at hl 3 rfl) ?_
  refine lv_iload hx hb dX12_move_82 (lv_at hl 4 rfl) ?_
  obtain ⟨y3, D1, hc2, h⟩ := bI_some h
  refine h_callSi (As := [.int x2, .int x3, .int x4]) (rest := [.int (94 * x1)]) O hH (c_X12_moveAt hc2) ml_X12_148 rfl hl.1 rfl ⟨Nat.le_of_ble_eq_true rfl, Nat.le_of_ble_eq_true rfl⟩ (Nat.le_of_ble_eq_true rfl) dX12_move_84 (fun H locs hH => ?_)
  refine lv_iadd hx hb dX12_move_87 ?_
  refine lv_topi (fun y4 e5 => ?_)
  have h := lt_at e5 h
  refine lv_istore (lv' := [(8, .int y4), (0, .ref (z + 281)), (1, .int x1), (2, .int x2), (3, .int x3), (4, .int x4), (5, .int x5), (6, .int x6), (7, .int x7)]) hx hb dX12_move_88 hl (by decide) rfl (fun ls hl => ?_)
  refine lv_aload_n hx hb dX12_move_90 rfl (lv_at hl 1 rfl) ?_
  refine h_getr O hH ly_281 rfl fl_X12_13 dX12_move_91 ?_
  refine lv_iload hx hb dX12_move_94 (lv_at hl 0 rfl) ?_
  obtain ⟨g6, h⟩ := gd_some h
  refine h_iald O hH ly_282 g6 dX12_move_96 ?_
  refine lv_iconst (v := (-1)) hx hb dX12_move_97 (by decide) ?_
  refine lv_icmp_ne (tgt := 105) hx hb dX12_move_98 (by decide) (fun c7 => ?_) (fun c7 => ?_)
  · have h := it_neg h c7
    refine lv_iconst (v := 1) hx hb dX12_move_105 (by decide) ?_
    exact w_X12_move_106 O hr hlk _ _ _ _ _ _ _ h _ _ _ hH (lv_sub hl [1, 2, 6, 7, 8, 0] rfl)
  · have h := it_pos h c7
    refine lv_iconst (v := 0) hx hb dX12_move_101 (by decide) ?_
    refine lv_goto (tgt := 106) hx hb dX12_move_102 (by decide) ?_
    exact w_X12_move_106 O hr hlk _ _ _ _ _ _ _ h _ _ _ hH (lv_sub hl [1, 2, 6, 7, 8, 0] rfl)
set_option maxHeartbeats 4000000 in
theorem w_X12_move_57 {G : va_G} {tA : Nat → ClassId} {z : Nat} {E : Ex} {p : Program} {l : Launch} {e : Env} {s : State} {m : MethodId} {args : Array Value} {below : List Frame} {meth : Method} {c : Code} {r : Int32} {D' : Dm} (O : Ok G tA z E cX12_move RX12 13 p s m args c) (hr : meth.sig.returnType = some .int) (hlk : meth.locks = false) (x1 : Int32) (x2 : Int32) (x3 : Int32) (x4 : Int32) (x5 : Int32) (x6 : Int32) (x7 : Int32) (D : Dm) (h : f_X12_move_57 x1 x2 x3 x4 x5 x6 x7 D = some (r, D')) : BI G tA z E p l e (rmC 4 0 0) s m args below meth c LAY D r D' 13 57 [(0, .ref (z + 281)), (1, .int x1), (2, .int x2), (3, .int x3), (4, .int x4), (5, .int x5), (6, .int x6), (7, .int x7)] [] := by
  obtain ⟨hx, hb, -, hown, hts, -⟩ := id O
  unfold f_X12_move_57 at h
  intro H locs ls hH hl
  refine lv_iload hx hb dX12_move_57 (lv_at hl 7 rfl) ?_
  refine lv_iconst (v := (-1)) hx hb dX12_move_59 (by decide) ?_
  refine lv_icmp_eq (tgt := 76) hx hb dX12_move_60 (by decide) (fun c1 => ?_) (fun c1 => ?_)
  · have h := it_pos h c1
    exact w_X12_move_76 O hr hlk _ _ _ _ _ _ _ _ h _ _ _ hH (lv_sub hl [0, 1, 2, 3, 4, 5, 6, 7] rfl)
  · have h := it_neg h c1
    refine lv_aload_n hx hb dX12_move_63 rfl (lv_at hl 0 rfl) ?_
    refine lv_iload_n hx hb dX12_move_64 rfl (lv_at hl 1 rfl) ?_
    refine lv_iload hx hb dX12_move_65 (lv_at hl 7 rfl) ?_
    obtain ⟨y4, D2, hc3, h⟩ := bI_some h
    refine h_callVi (As := [.int x1, .int x7]) (rest := []) O hH (c_X12_isRegister hc3) ml_X12_262 ly_281 rfl rfl hl.1 rfl ⟨Nat.le_of_ble_eq_true rfl, Nat.le_of_ble_eq_true rfl⟩ (Nat.le_of_ble_eq_true rfl) dX12_move_67 (fun H locs hH => ?_)
    refine lv_if_ne (tgt := 76) hx hb dX12_move_70 (by decide) (fun c5 => ?_) (fun c5 => ?_)
    · have h := it_neg h c5
      exact w_X12_move_76 O hr hlk _ _ _ _ _ _ _ _ h _ _ _ hH (lv_sub hl [0, 1, 2, 3, 4, 5, 6, 7] rfl)
    · have h := it_pos h c5
      refine lv_bipush (v := (-3)) hx hb dX12_move_73 (by decide) ?_
      obtain ⟨rfl, rfl⟩ := ret_i h
      exact h_iret O hr hlk hH dX12_move_75
set_option maxHeartbeats 4000000 in
theorem w_X12_move {G : va_G} {tA : Nat → ClassId} {z : Nat} {E : Ex} {p : Program} {l : Launch} {e : Env} {s : State} {m : MethodId} {args : Array Value} {below : List Frame} {meth : Method} {c : Code} {r : Int32} {D' : Dm} (O : Ok G tA z E cX12_move RX12 13 p s m args c) (hr : meth.sig.returnType = some .int) (hlk : meth.locks = false) (x1 : Int32) (x2 : Int32) (x3 : Int32) (x4 : Int32) (x5 : Int32) (x6 : Int32) (x7 : Int32) (D : Dm) (h : f_X12_move x1 x2 x3 x4 x5 x6 x7 D = some (r, D')) : BI G tA z E p l e (rmC 4 0 0) s m args below meth c LAY D r D' 13 0 [(0, .ref (z + 281)), (1, .int x1), (2, .int x2), (3, .int x3), (4, .int x4), (5, .int x5), (6, .int x6), (7, .int x7)] [] := by
  obtain ⟨hx, hb, -, hown, hts, -⟩ := id O
  unfold f_X12_move at h
  intro H locs ls hH hl
  refine lv_aload_n hx hb dX12_move_0 rfl (lv_at hl 0 rfl) ?_
  refine lv_iconst (v := 0) hx hb dX12_move_1 (by decide) ?_
  obtain ⟨D1, e2, h⟩ := lt_some h
  refine h_puti O hH ly_281 rfl fl_X12_1 e2 dX12_move_2 (fun H locs hH => ?_)
  refine lv_aload_n hx hb dX12_move_5 rfl (lv_at hl 0 rfl) ?_
  refine lv_iload_n hx hb dX12_move_6 rfl (lv_at hl 1 rfl) ?_
  refine lv_iload_n hx hb dX12_move_7 rfl (lv_at hl 2 rfl) ?_
  refine lv_iload_n hx hb dX12_move_8 rfl (lv_at hl 3 rfl) ?_
  refine lv_iload hx hb dX12_move_9 (lv_at hl 4 rfl) ?_
  obtain ⟨y5, D3, hc4, h⟩ := bI_some h
  refine h_callVi (As := [.int x1, .int x2, .int x3, .int x4]) (rest := []) O hH (c_X12_isMove hc4) ml_X12_266 ly_281 rfl rfl hl.1 rfl ⟨Nat.le_of_ble_eq_true rfl, Nat.le_of_ble_eq_true rfl⟩ (Nat.le_of_ble_eq_true rfl) dX12_move_11 (fun H locs hH => ?_)
  refine lv_if_ne (tgt := 20) hx hb dX12_move_14 (by decide) (fun c6 => ?_) (fun c6 => ?_)
  · have h := it_neg h c6
    refine lv_iload hx hb dX12_move_20 (lv_at hl 5 rfl) ?_
    refine lv_i2l hx hb dX12_move_22 rfl ?_
    refine lv_ldc2 (v := (-1)) hx hb hown (hts _ ww_1485) dX12_move_23 ?_
    refine lv_aload_n hx hb dX12_move_26 rfl (lv_at hl 0 rfl) ?_
    refine lv_iload_n hx hb dX12_move_27 rfl (lv_at hl 1 rfl) ?_
    refine lv_iconst (v := 0) hx hb dX12_move_28 (by decide) ?_
    obtain ⟨y9, D7, hc8, h⟩ := bI_some h
    refine h_callVi (As := [.int x1, .int 0]) (rest := [.long (-1), .long (Int32.toInt64 x5)]) O hH (c_X12_its hc8) ml_X12_155 ly_281 rfl rfl hl.1 rfl ⟨Nat.le_of_ble_eq_true rfl, Nat.le_of_ble_eq_true rfl⟩ (Nat.le_of_ble_eq_true rfl) dX12_move_29 (fun H locs hH => ?_)
    refine lv_iconst (v := 1) hx hb dX12_move_32 (by decide) ?_
    refine lv_isub hx hb dX12_move_33 ?_
    refine lv_i2l hx hb dX12_move_34 rfl ?_
    obtain ⟨y12, D10, hc11, h⟩ := bI_some h
    refine h_callSi (As := [.long (Int32.toInt64 x5), .long (-1), .long (Int32.toInt64 (y9 - 1))]) (rest := []) O hH (c_X12_isIn hc11) ml_X12_182 rfl hl.1 rfl ⟨Nat.le_of_ble_eq_true rfl, Nat.le_of_ble_eq_true rfl⟩ (Nat.le_of_ble_eq_true rfl) dX12_move_35 (fun H locs hH => ?_)
    refine lv_if_eq (tgt := 73) hx hb dX12_move_38 (by decide) (fun c13 => ?_) (fun c13 => ?_)
    · have h := it_pos h c13
      refine lv_bipush (v := (-3)) hx hb dX12_move_73 (by decide) ?_
      obtain ⟨rfl, rfl⟩ := ret_i h
      exact h_iret O hr hlk hH dX12_move_75
    · have h := it_neg h c13
      refine lv_iload hx hb dX12_move_41 (lv_at hl 6 rfl) ?_
      refine lv_iconst (v := (-1)) hx hb dX12_move_43 (by decide) ?_
      refine lv_icmp_eq (tgt := 57) hx hb dX12_move_44 (by decide) (fun c14 => ?_) (fun c14 => ?_)
      · have h := it_pos h c14
        exact w_X12_move_57 O hr hlk _ _ _ _ _ _ _ _ h _ _ _ hH (lv_sub hl [0, 1, 2, 3, 4, 5, 6, 7] rfl)
      · have h := it_neg h c14
        refine lv_aload_n hx hb dX12_move_47 rfl (lv_at hl 0 rfl) ?_
        refine lv_iload_n hx hb dX12_move_48 rfl (lv_at hl 1 rfl) ?_
        refine lv_iload hx hb dX12_move_49 (lv_at hl 6 rfl) ?_
        obtain ⟨y17, D15, hc16, h⟩ := bI_some h
        refine h_callVi (As := [.int x1, .int x6]) (rest := []) O hH (c_X12_isRegister hc16) ml_X12_262 ly_281 rfl rfl hl.1 rfl ⟨Nat.le_of_ble_eq_true rfl, Nat.le_of_ble_eq_true rfl⟩ (Nat.le_of_ble_eq_true rfl) dX12_move_51 (fun H locs hH => ?_)
        refine lv_if_eq (tgt := 73) hx hb dX12_move_54 (by decide) (fun c18 => ?_) (fun c18 => ?_)
        · have h := it_pos h c18
          refine lv_bipush (v := (-3)) hx hb dX12_move_73 (by decide) ?_
          obtain ⟨rfl, rfl⟩ := ret_i h
          exact h_iret O hr hlk hH dX12_move_75
        · have h := it_neg h c18
          exact w_X12_move_57 O hr hlk _ _ _ _ _ _ _ _ h _ _ _ hH (lv_sub hl [0, 1, 2, 3, 4, 5, 6, 7] rfl)
  · have h := it_pos h c6
    refine lv_bipush (v := (-2)) hx hb dX12_move_17 (by decide) ?_
    obtain ⟨rfl, rfl⟩ := ret_i h
    exact h_iret O hr hlk hH dX12_move_19
set_option maxHeartbeats 4000000 in
theorem c_X12_move {l : Launch} {G : va_G} {tA : Nat → ClassId} {z : Nat} {E : Ex} {x1 : Int32} {x2 : Int32} {x3 : Int32} {x4 : Int32} {x5 : Int32} {x6 : Int32} {x7 : Int32} {D D' : Dm} {r : Int32} (h : f_X12_move x1 x2 x3 x4 x5 x6 x7 D = some (r, D')) : CtI l yX12_move cX12_move 13 (some .int) G tA z E 4 0 0 [.ref (z + 281), .int x1, .int x2, .int x3, .int x4, .int x5, .int x6, .int x7] LAY D r LAY D' :=
  ct_BI (by decide +kernel) (Nat.le_of_ble_eq_true rfl) (fun _ _ _ _ _ _ _ _ O hr hlk => w_X12_move O hr hlk _ _ _ _ _ _ _ _ h)
set_option maxHeartbeats 4000000 in
theorem w_X12_of_52 {G : va_G} {tA : Nat → ClassId} {z : Nat} {E : Ex} {p : Program} {l : Launch} {e : Env} {s : State} {m : MethodId} {args : Array Value} {below : List Frame} {meth : Method} {c : Code} {r : Int32} {D' : Dm} (O : Ok G tA z E cX12_of RX12 3 p s m args c) (hr : meth.sig.returnType = some .int) (hlk : meth.locks = false) (xs0 : Int32) (xs1 : Int32) (D : Dm) (h : f_X12_of_52 xs0 xs1 D = some (r, D')) : BI G tA z E p l e (rmC 3 0 0) s m args below meth c LAY D r D' 3 52 [] [.int xs0, .int xs1, .ref (z + 281)] := by
  obtain ⟨hx, hb, -, hown, hts, -⟩ := id O
  unfold f_X12_of_52 at h
  intro H locs ls hH hl
  obtain ⟨y3, D1, hc2, h⟩ := bI_some h
  refine h_callVi (As := [.int xs1, .int xs0]) (rest := []) O hH (c_X12_its hc2) ml_X12_155 ly_281 rfl rfl hl.1 rfl ⟨Nat.le_of_ble_eq_true rfl, Nat.le_of_ble_eq_true rfl⟩ (Nat.le_of_ble_eq_true rfl) dX12_of_52 (fun H locs hH => ?_)
  obtain ⟨rfl, rfl⟩ := ret_i h
  exact h_iret O hr hlk hH dX12_of_55
set_option maxHeartbeats 4000000 in
theorem w_X12_of {G : va_G} {tA : Nat → ClassId} {z : Nat} {E : Ex} {p : Program} {l : Launch} {e : Env} {s : State} {m : MethodId} {args : Array Value} {below : List Frame} {meth : Method} {c : Code} {r : Int32} {D' : Dm} (O : Ok G tA z E cX12_of RX12 3 p s m args c) (hr : meth.sig.returnType = some .int) (hlk : meth.locks = false) (x1 : Int32) (x2 : Int32) (D : Dm) (h : f_X12_of x1 x2 D = some (r, D')) : BI G tA z E p l e (rmC 3 0 0) s m args below meth c LAY D r D' 3 0 [(0, .ref (z + 281)), (1, .int x1), (2, .int x2)] [] := by
  obtain ⟨hx, hb, -, hown, hts, -⟩ := id O
  unfold f_X12_of at h
  intro H locs ls hH hl
  refine lv_aload_n hx hb dX12_of_0 rfl (lv_at hl 0 rfl) ?_
  refine lv_iconst (v := 0) hx hb dX12_of_1 (by decide) ?_
  obtain ⟨D1, e2, h⟩ := lt_some h
  refine h_puti O hH ly_281 rfl fl_X12_1 e2 dX12_of_2 (fun H locs hH => ?_)
  refine lv_iload_n hx hb dX12_of_5 rfl (lv_at hl 1 rfl) ?_
  obtain ⟨y5, D3, hc4, h⟩ := bI_some h
  refine h_callSi (As := [.int x1]) (rest := []) O hH (c_X12_isMachine hc4) ml_X12_243 rfl hl.1 rfl ⟨Nat.le_of_ble_eq_true rfl, Nat.le_of_ble_eq_true rfl⟩ (Nat.le_of_ble_eq_true rfl) dX12_of_6 (fun H locs hH => ?_)
  refine lv_if_eq (tgt := 24) hx hb dX12_of_9 (by decide) (fun c6 => ?_) (fun c6 => ?_)
  · have h := it_pos h c6
    refine lv_bipush (v := (-2)) hx hb dX12_of_24 (by decide) ?_
    obtain ⟨rfl, rfl⟩ := ret_i h
    exact h_iret O hr hlk hH dX12_of_26
  · have h := it_neg h c6
    refine lv_iload_n hx hb dX12_of_12 rfl (lv_at hl 2 rfl) ?_
    refine lv_i2l hx hb dX12_of_13 rfl ?_
    refine lv_lconst (v := 0) hx hb dX12_of_14 (by decide) ?_
    refine lv_ldc2 (v := 4) hx hb hown (hts _ ww_1490) dX12_of_15 ?_
    obtain ⟨y9, D7, hc8, h⟩ := bI_some h
    refine h_callSi (As := [.long (Int32.toInt64 x2), .long 0, .long 4]) (rest := []) O hH (c_X12_isIn hc8) ml_X12_182 rfl hl.1 rfl ⟨Nat.le_of_ble_eq_true rfl, Nat.le_of_ble_eq_true rfl⟩ (Nat.le_of_ble_eq_true rfl) dX12_of_18 (fun H locs hH => ?_)
    refine lv_if_ne (tgt := 27) hx hb dX12_of_21 (by decide) (fun c10 => ?_) (fun c10 => ?_)
    · have h := it_neg h c10
      refine lv_iload_n hx hb dX12_of_27 rfl (lv_at hl 2 rfl) ?_
      refine lv_iconst (v := 3) hx hb dX12_of_28 (by decide) ?_
      refine lv_icmp_ne (tgt := 40) hx hb dX12_of_29 (by decide) (fun c11 => ?_) (fun c11 => ?_)
      · have h := it_neg h c11
        refine lv_aload_n hx hb dX12_of_40 rfl (lv_at hl 0 rfl) ?_
        refine lv_iload_n hx hb dX12_of_41 rfl (lv_at hl 1 rfl) ?_
        refine lv_iload_n hx hb dX12_of_42 rfl (lv_at hl 2 rfl) ?_
        refine lv_iconst (v := 4) hx hb dX12_of_43 (by decide) ?_
        refine lv_icmp_ne (tgt := 51) hx hb dX12_of_44 (by decide) (fun c12 => ?_) (fun c12 => ?_)
        · have h := it_neg h c12
          refine lv_iload_n hx hb dX12_of_51 rfl (lv_at hl 2 rfl) ?_
          exact w_X12_of_52 O hr hlk _ _ _ h _ _ _ hH (lv_sub hl [] rfl)
        · have h := it_pos h c12
          refine lv_iconst (v := 3) hx hb dX12_of_47 (by decide) ?_
          refine lv_goto (tgt := 52) hx hb dX12_of_48 (by decide) ?_
          exact w_X12_of_52 O hr hlk _ _ _ h _ _ _ hH (lv_sub hl [] rfl)
      · have h := it_pos h c11
        refine lv_aload_n hx hb dX12_of_32 rfl (lv_at hl 0 rfl) ?_
        refine lv_iload_n hx hb dX12_of_33 rfl (lv_at hl 1 rfl) ?_
        obtain ⟨y15, D13, hc14, h⟩ := bI_some h
        refine h_callVi (As := [.int x1]) (rest := []) O hH (c_X12_movesOf hc14) ml_X12_256 ly_281 rfl rfl hl.1 rfl ⟨Nat.le_of_ble_eq_true rfl, Nat.le_of_ble_eq_true rfl⟩ (Nat.le_of_ble_eq_true rfl) dX12_of_34 (fun H locs hH => ?_)
        refine lv_goto (tgt := 55) hx hb dX12_of_37 (by decide) ?_
        obtain ⟨rfl, rfl⟩ := ret_i h
        exact h_iret O hr hlk hH dX12_of_55
    · have h := it_pos h c10
      refine lv_bipush (v := (-2)) hx hb dX12_of_24 (by decide) ?_
      obtain ⟨rfl, rfl⟩ := ret_i h
      exact h_iret O hr hlk hH dX12_of_26
set_option maxHeartbeats 4000000 in
theorem c_X12_of {l : Launch} {G : va_G} {tA : Nat → ClassId} {z : Nat} {E : Ex} {x1 : Int32} {x2 : Int32} {D D' : Dm} {r : Int32} (h : f_X12_of x1 x2 D = some (r, D')) : CtI l yX12_of cX12_of 3 (some .int) G tA z E 3 0 0 [.ref (z + 281), .int x1, .int x2] LAY D r LAY D' :=
  ct_BI (by decide +kernel) (Nat.le_of_ble_eq_true rfl) (fun _ _ _ _ _ _ _ _ O hr hlk => w_X12_of O hr hlk _ _ _ h)
set_option maxHeartbeats 4000000 in
theorem w_X12_moved {G : va_G} {tA : Nat → ClassId} {z : Nat} {E : Ex} {p : Program} {l : Launch} {e : Env} {s : State} {m : MethodId} {args : Array Value} {below : List Frame} {meth : Method} {c : Code} {r : Int32} {D' : Dm} (O : Ok G tA z E cX12_moved RX12 6 p s m args c) (hr : meth.sig.returnType = some .int) (hlk : meth.locks = false) (x1 : Int32) (x2 : Int32) (x3 : Int32) (x4 : Int32) (x5 : Int32) (D : Dm) (h : f_X12_moved x1 x2 x3 x4 x5 D = some (r, D')) : BI G tA z E p l e (rmC 4 0 0) s m args below meth c LAY D r D' 6 0 [(0, .ref (z + 281)), (1, .int x1), (2, .int x2), (3, .int x3), (4, .int x4), (5, .int x5)] [] := by
  obtain ⟨hx, hb, -, hown, hts, -⟩ := id O
  unfold f_X12_moved at h
  intro H locs ls hH hl
  refine lv_aload_n hx hb dX12_moved_0 rfl (lv_at hl 0 rfl) ?_
  refine lv_iconst (v := 0) hx hb dX12_moved_1 (by decide) ?_
  obtain ⟨D1, e2, h⟩ := lt_some h
  refine h_puti O hH ly_281 rfl fl_X12_1 e2 dX12_moved_2 (fun H locs hH => ?_)
  refine lv_aload_n hx hb dX12_moved_5 rfl (lv_at hl 0 rfl) ?_
  refine lv_iload_n hx hb dX12_moved_6 rfl (lv_at hl 1 rfl) ?_
  refine lv_iload_n hx hb dX12_moved_7 rfl (lv_at hl 2 rfl) ?_
  refine lv_iload_n hx hb dX12_moved_8 rfl (lv_at hl 3 rfl) ?_
  refine lv_iload hx hb dX12_moved_9 (lv_at hl 4 rfl) ?_
  obtain ⟨y5, D3, hc4, h⟩ := bI_some h
  refine h_callVi (As := [.int x1, .int x2, .int x3, .int x4]) (rest := []) O hH (c_X12_isMove hc4) ml_X12_266 ly_281 rfl rfl hl.1 rfl ⟨Nat.le_of_ble_eq_true rfl, Nat.le_of_ble_eq_true rfl⟩ (Nat.le_of_ble_eq_true rfl) dX12_moved_11 (fun H locs hH => ?_)
  refine lv_if_eq (tgt := 30) hx hb dX12_moved_14 (by decide) (fun c6 => ?_) (fun c6 => ?_)
  · have h := it_pos h c6
    refine lv_bipush (v := (-2)) hx hb dX12_moved_30 (by decide) ?_
    obtain ⟨rfl, rfl⟩ := ret_i h
    exact h_iret O hr hlk hH dX12_moved_32
  · have h := it_neg h c6
    refine lv_iload hx hb dX12_moved_17 (lv_at hl 5 rfl) ?_
    refine lv_i2l hx hb dX12_moved_19 rfl ?_
    refine lv_lconst (v := 0) hx hb dX12_moved_20 (by decide) ?_
    refine lv_ldc2 (v := 2) hx hb hown (hts _ ww_1495) dX12_moved_21 ?_
    obtain ⟨y9, D7, hc8, h⟩ := bI_some h
    refine h_callSi (As := [.long (Int32.toInt64 x5), .long 0, .long 2]) (rest := []) O hH (c_X12_isIn hc8) ml_X12_182 rfl hl.1 rfl ⟨Nat.le_of_ble_eq_true rfl, Nat.le_of_ble_eq_true rfl⟩ (Nat.le_of_ble_eq_true rfl) dX12_moved_24 (fun H locs hH => ?_)
    refine lv_if_ne (tgt := 33) hx hb dX12_moved_27 (by decide) (fun c10 => ?_) (fun c10 => ?_)
    · have h := it_neg h c10
      refine lv_aload_n hx hb dX12_moved_33 rfl (lv_at hl 0 rfl) ?_
      refine lv_iload_n hx hb dX12_moved_34 rfl (lv_at hl 1 rfl) ?_
      refine lv_iload_n hx hb dX12_moved_35 rfl (lv_at hl 2 rfl) ?_
      refine lv_iload_n hx hb dX12_moved_36 rfl (lv_at hl 3 rfl) ?_
      refine lv_iload hx hb dX12_moved_37 (lv_at hl 4 rfl) ?_
      obtain ⟨y13, D11, hc12, h⟩ := bI_some h
      refine h_callSi (As := [.int x2, .int x3, .int x4]) (rest := [.int x1, .ref (z + 281)]) O hH (c_X12_moveAt hc12) ml_X12_148 rfl hl.1 rfl ⟨Nat.le_of_ble_eq_true rfl, Nat.le_of_ble_eq_true rfl⟩ (Nat.le_of_ble_eq_true rfl) dX12_moved_39 (fun H locs hH => ?_)
      refine lv_iload hx hb dX12_moved_42 (lv_at hl 5 rfl) ?_
      refine lv_iadd hx hb dX12_moved_44 ?_
      obtain ⟨y16, D14, hc15, h⟩ := bI_some h
      refine h_callVi (As := [.int x1, .int (y13 + x5)]) (rest := []) O hH (c_X12_its hc15) ml_X12_155 ly_281 rfl rfl hl.1 rfl ⟨Nat.le_of_ble_eq_true rfl, Nat.le_of_ble_eq_true rfl⟩ (Nat.le_of_ble_eq_true rfl) dX12_moved_45 (fun H locs hH => ?_)
      obtain ⟨rfl, rfl⟩ := ret_i h
      exact h_iret O hr hlk hH dX12_moved_48
    · have h := it_pos h c10
      refine lv_bipush (v := (-2)) hx hb dX12_moved_30 (by decide) ?_
      obtain ⟨rfl, rfl⟩ := ret_i h
      exact h_iret O hr hlk hH dX12_moved_32
set_option maxHeartbeats 4000000 in
theorem c_X12_moved {l : Launch} {G : va_G} {tA : Nat → ClassId} {z : Nat} {E : Ex} {x1 : Int32} {x2 : Int32} {x3 : Int32} {x4 : Int32} {x5 : Int32} {D D' : Dm} {r : Int32} (h : f_X12_moved x1 x2 x3 x4 x5 D = some (r, D')) : CtI l yX12_moved cX12_moved 6 (some .int) G tA z E 4 0 0 [.ref (z + 281), .int x1, .int x2, .int x3, .int x4, .int x5] LAY D r LAY D' :=
  ct_BI (by decide +kernel) (Nat.le_of_ble_eq_true rfl) (fun _ _ _ _ _ _ _ _ O hr hlk => w_X12_moved O hr hlk _ _ _ _ _ _ h)
set_option maxHeartbeats 4000000 in
theorem w_X12_goesAlong_6_b {G : va_G} {tA : Nat → ClassId} {z : Nat} {E : Ex} {p : Program} {l : Launch} {e : Env} {s : State} {m : MethodId} {args : Array Value} {below : List Frame} {meth : Method} {c : Code} {D' : Dm} (O : Ok G tA z E cX12_goesAlong RX12 4 p s m args c) (hr : meth.sig.returnType = none) (hlk : meth.locks = false) {k6 : Int32 → Int32 → Int32 → Dm → Option Dm} (hk6 : ∀ (x1 : Int32) (x2 : Int32) (x3 : Int32) (D : Dm), k6 x1 x2 x3 D = some D' → BV G tA z E p l e (rmC 4 0 0) s m args below meth c LAY D D' 4 6 [(0, .ref (z + 281)), (1, .int x1), (2, .int x2), (3, .int x3)] []) (x1 : Int32) (x2 : Int32) (x3 : Int32) (D : Dm) (h : f_X12_goesAlong_6_b k6 x1 x2 x3 D = some D') : BV G tA z E p l e (rmC 4 0 0) s m args below meth c LAY D D' 4 6 [(0, .ref (z + 281)), (1, .int x1), (2, .int x2), (3, .int x3)] [] := by
  obtain ⟨hx, hb, -, hown, hts, -⟩ := id O
  unfold f_X12_goesAlong_6_b at h
  intro H locs ls hH hl
  refine lv_iload_n hx hb dX12_goesAlong_6 rfl (lv_at hl 3 rfl) ?_
  refine lv_iload_n hx hb dX12_goesAlong_7 rfl (lv_at hl 2 rfl) ?_
  refine lv_icmp_ge (tgt := 34) hx hb dX12_goesAlong_8 (by decide) (fun c1 => ?_) (fun c1 => ?_)
  · have h := it_pos h c1
    obtain rfl := ret_v h
    exact h_vret O hr hlk hH dX12_goesAlong_34
  · have h := it_neg h c1
    refine lv_aload_n hx hb dX12_goesAlong_11 rfl (lv_at hl 0 rfl) ?_
    refine lv_iload_n hx hb dX12_goesAlong_12 rfl (lv_at hl 1 rfl) ?_
    refine lv_aload_n hx hb dX12_goesAlong_13 rfl (lv_at hl 0 rfl) ?_
    refine h_getr O hH ly_281 rfl fl_X12_27 dX12_goesAlong_14 ?_
    refine lv_iload_n hx hb dX12_goesAlong_17 rfl (lv_at hl 3 rfl) ?_
    obtain ⟨g2, h⟩ := gd_some h
    refine h_iald O hH ly_285 g2 dX12_goesAlong_18 ?_
    refine lv_aload_n hx hb dX12_goesAlong_19 rfl (lv_at hl 0 rfl) ?_
    refine h_getr O hH ly_281 rfl fl_X12_30 dX12_goesAlong_20 ?_
    refine lv_iload_n hx hb dX12_goesAlong_23 rfl (lv_at hl 3 rfl) ?_
    obtain ⟨g3, h⟩ := gd_some h
    refine h_iald O hH ly_286 g3 dX12_goesAlong_24 ?_
    obtain ⟨D4, hc5, h⟩ := bV_some h
    refine h_callVv (As := [.int x1, .int (D 285 (Int32.toNatClampNeg x3)), .int (D 286 (Int32.toNatClampNeg x3))]) (rest := []) O hH (c_X12_goesBy hc5) ml_X12_279 ly_281 rfl rfl hl.1 rfl ⟨Nat.le_of_ble_eq_true rfl, Nat.le_of_ble_eq_true rfl⟩ (Nat.le_of_ble_eq_true rfl) dX12_goesAlong_25 (fun H locs hH => ?_)
    obtain ⟨y6, e7, h⟩ := lt_some h
    refine lv_iinc (v := y6) (lv' := [(3, .int y6), (0, .ref (z + 281)), (1, .int x1), (2, .int x2)]) hx hb dX12_goesAlong_28 hl (k := 3) rfl (by rw [e7]; rfl) (by decide) rfl (fun ls hl => ?_)
    refine lv_goto (tgt := 6) hx hb dX12_goesAlong_31 (by decide) ?_
    exact hk6 _ _ _ _ h _ _ _ hH (lv_sub hl [1, 2, 3, 0] rfl)
set_option maxHeartbeats 4000000 in
theorem w_X12_goesAlong_6 {G : va_G} {tA : Nat → ClassId} {z : Nat} {E : Ex} {p : Program} {l : Launch} {e : Env} {s : State} {m : MethodId} {args : Array Value} {below : List Frame} {meth : Method} {c : Code} {D' : Dm} (O : Ok G tA z E cX12_goesAlong RX12 4 p s m args c) (hr : meth.sig.returnType = none) (hlk : meth.locks = false) : ∀ (n : Nat) (x1 : Int32) (x2 : Int32) (x3 : Int32) (D : Dm) (h : f_X12_goesAlong_6 n x1 x2 x3 D = some D'), BV G tA z E p l e (rmC 4 0 0) s m args below meth c LAY D D' 4 6 [(0, .ref (z + 281)), (1, .int x1), (2, .int x2), (3, .int x3)] [] := by
  intro n
  induction n with
  | zero => intro x1 x2 x3 D h; exact no_some h
  | succ n ih => intro x1 x2 x3 D h; exact w_X12_goesAlong_6_b O hr hlk (fun x1 x2 x3 D h => ih x1 x2 x3 D h) x1 x2 x3 D h
set_option maxHeartbeats 4000000 in
theorem w_X12_goesAlong {G : va_G} {tA : Nat → ClassId} {z : Nat} {E : Ex} {p : Program} {l : Launch} {e : Env} {s : State} {m : MethodId} {args : Array Value} {below : List Frame} {meth : Method} {c : Code} {D' : Dm} (O : Ok G tA z E cX12_goesAlong RX12 4 p s m args c) (hr : meth.sig.returnType = none) (hlk : meth.locks = false) (x1 : Int32) (x2 : Int32) (D : Dm) (h : f_X12_goesAlong x1 x2 D = some D') : BV G tA z E p l e (rmC 4 0 0) s m args below meth c LAY D D' 4 0 [(0, .ref (z + 281)), (1, .int x1), (2, .int x2)] [] := by
  obtain ⟨hx, hb, -, hown, hts, -⟩ := id O
  unfold f_X12_goesAlong at h
  intro H locs ls hH hl
  refine lv_aload_n hx hb dX12_goesAlong_0 rfl (lv_at hl 0 rfl) ?_
  obtain ⟨D1, hc2, h⟩ := bV_some h
  refine h_callVv (As := []) (rest := []) O hH (c_X12_starts hc2) ml_X12_276 ly_281 rfl rfl hl.1 rfl ⟨Nat.le_of_ble_eq_true rfl, Nat.le_of_ble_eq_true rfl⟩ (Nat.le_of_ble_eq_true rfl) dX12_goesAlong_1 (fun H locs hH => ?_)
  refine lv_iconst (v := 0) hx hb dX12_goesAlong_4 (by decide) ?_
  refine lv_istore_n (lv' := [(3, .int 0), (0, .ref (z + 281)), (1, .int x1), (2, .int x2)]) hx hb dX12_goesAlong_5 rfl hl (by decide) rfl (fun ls hl => ?_)
  exact w_X12_goesAlong_6 O hr hlk FU _ _ _ _ h _ _ _ hH (lv_sub hl [1, 2, 3, 0] rfl)
set_option maxHeartbeats 4000000 in
theorem c_X12_goesAlong {l : Launch} {G : va_G} {tA : Nat → ClassId} {z : Nat} {E : Ex} {x1 : Int32} {x2 : Int32} {D D' : Dm} (h : f_X12_goesAlong x1 x2 D = some D') : CtV l yX12_goesAlong cX12_goesAlong 4 G tA z E 4 0 0 [.ref (z + 281), .int x1, .int x2] LAY D LAY D' :=
  ct_BV (by decide +kernel) (Nat.le_of_ble_eq_true rfl) (fun _ _ _ _ _ _ _ _ O hr hlk => w_X12_goesAlong O hr hlk _ _ _ h)
set_option maxHeartbeats 4000000 in
theorem w_X12_ask {G : va_G} {tA : Nat → ClassId} {z : Nat} {E : Ex} {p : Program} {l : Launch} {e : Env} {s : State} {m : MethodId} {args : Array Value} {below : List Frame} {meth : Method} {c : Code} {r : Int32} {D' : Dm} (O : Ok G tA z E cX12_ask RX12 2 p s m args c) (hr : meth.sig.returnType = some .int) (hlk : meth.locks = false) (x1 : Int32) (D : Dm) (h : f_X12_ask x1 D = some (r, D')) : BI G tA z E p l e (rmC 5 0 0) s m args below meth c LAY D r D' 2 0 [(0, .ref (z + 281)), (1, .int x1)] [] := by
  obtain ⟨hx, hb, -, hown, hts, -⟩ := id O
  unfold f_X12_ask at h
  intro H locs ls hH hl
  refine lv_aload_n hx hb dX12_ask_0 rfl (lv_at hl 0 rfl) ?_
  refine lv_iconst (v := 0) hx hb dX12_ask_1 (by decide) ?_
  obtain ⟨D1, e2, h⟩ := lt_some h
  refine h_puti O hH ly_281 rfl fl_X12_1 e2 dX12_ask_2 (fun H locs hH => ?_)
  refine lv_iload_n hx hb dX12_ask_5 rfl (lv_at hl 1 rfl) ?_
  obtain ⟨y5, D3, hc4, h⟩ := bI_some h
  refine h_callSi (As := [.int x1]) (rest := []) O hH (c_X12_isMachine hc4) ml_X12_243 rfl hl.1 rfl ⟨Nat.le_of_ble_eq_true rfl, Nat.le_of_ble_eq_true rfl⟩ (Nat.le_of_ble_eq_true rfl) dX12_ask_6 (fun H locs hH => ?_)
  refine lv_if_ne (tgt := 15) hx hb dX12_ask_9 (by decide) (fun c6 => ?_) (fun c6 => ?_)
  · have h := it_neg h c6
    refine lv_aload_n hx hb dX12_ask_15 rfl (lv_at hl 0 rfl) ?_
    refine lv_iload_n hx hb dX12_ask_16 rfl (lv_at hl 1 rfl) ?_
    refine lv_aload_n hx hb dX12_ask_17 rfl (lv_at hl 0 rfl) ?_
    refine h_geti O hH ly_281 rfl fl_X12_259 dX12_ask_18 ?_
    obtain ⟨D7, hc8, h⟩ := bV_some h
    refine h_callVv (As := [.int x1, .int (D3 281 18)]) (rest := []) O hH (c_X12_goesAlong hc8) ml_X12_282 ly_281 rfl rfl hl.1 rfl ⟨Nat.le_of_ble_eq_true rfl, Nat.le_of_ble_eq_true rfl⟩ (Nat.le_of_ble_eq_true rfl) dX12_ask_21 (fun H locs hH => ?_)
    refine lv_aload_n hx hb dX12_ask_24 rfl (lv_at hl 0 rfl) ?_
    refine lv_iload_n hx hb dX12_ask_25 rfl (lv_at hl 1 rfl) ?_
    obtain ⟨y11, D9, hc10, h⟩ := bI_some h
    refine h_callVi (As := [.int x1]) (rest := []) O hH (c_X12_accepts hc10) ml_X12_285 ly_281 rfl rfl hl.1 rfl ⟨Nat.le_of_ble_eq_true rfl, Nat.le_of_ble_eq_true rfl⟩ (Nat.le_of_ble_eq_true rfl) dX12_ask_26 (fun H locs hH => ?_)
    refine lv_if_eq (tgt := 36) hx hb dX12_ask_29 (by decide) (fun c12 => ?_) (fun c12 => ?_)
    · have h := it_pos h c12
      refine lv_iconst (v := 0) hx hb dX12_ask_36 (by decide) ?_
      obtain ⟨rfl, rfl⟩ := ret_i h
      exact h_iret O hr hlk hH dX12_ask_37
    · have h := it_neg h c12
      refine lv_iconst (v := 1) hx hb dX12_ask_32 (by decide) ?_
      refine lv_goto (tgt := 37) hx hb dX12_ask_33 (by decide) ?_
      obtain ⟨rfl, rfl⟩ := ret_i h
      exact h_iret O hr hlk hH dX12_ask_37
  · have h := it_pos h c6
    refine lv_bipush (v := (-2)) hx hb dX12_ask_12 (by decide) ?_
    obtain ⟨rfl, rfl⟩ := ret_i h
    exact h_iret O hr hlk hH dX12_ask_14
set_option maxHeartbeats 4000000 in
theorem c_X12_ask {l : Launch} {G : va_G} {tA : Nat → ClassId} {z : Nat} {E : Ex} {x1 : Int32} {D D' : Dm} {r : Int32} (h : f_X12_ask x1 D = some (r, D')) : CtI l yX12_ask cX12_ask 2 (some .int) G tA z E 5 0 0 [.ref (z + 281), .int x1] LAY D r LAY D' :=
  ct_BI (by decide +kernel) (Nat.le_of_ble_eq_true rfl) (fun _ _ _ _ _ _ _ _ O hr hlk => w_X12_ask O hr hlk _ _ h)
set_option maxHeartbeats 4000000 in
theorem w_X12_behind {G : va_G} {tA : Nat → ClassId} {z : Nat} {E : Ex} {p : Program} {l : Launch} {e : Env} {s : State} {m : MethodId} {args : Array Value} {below : List Frame} {meth : Method} {c : Code} {r : Int32} {D' : Dm} (O : Ok G tA z E cX12_behind RX12 4 p s m args c) (hr : meth.sig.returnType = some .int) (hlk : meth.locks = false) (x1 : Int32) (x2 : Int32) (x3 : Int32) (D : Dm) (h : f_X12_behind x1 x2 x3 D = some (r, D')) : BI G tA z E p l e (rmC 5 0 0) s m args below meth c LAY D r D' 4 0 [(0, .ref (z + 281)), (1, .int x1), (2, .int x2), (3, .int x3)] [] := by
  obtain ⟨hx, hb, -, hown, hts, -⟩ := id O
  unfold f_X12_behind at h
  intro H locs ls hH hl
  refine lv_aload_n hx hb dX12_behind_0 rfl (lv_at hl 0 rfl) ?_
  refine lv_iconst (v := 0) hx hb dX12_behind_1 (by decide) ?_
  obtain ⟨D1, e2, h⟩ := lt_some h
  refine h_puti O hH ly_281 rfl fl_X12_1 e2 dX12_behind_2 (fun H locs hH => ?_)
  refine lv_iload_n hx hb dX12_behind_5 rfl (lv_at hl 1 rfl) ?_
  obtain ⟨y5, D3, hc4, h⟩ := bI_some h
  refine h_callSi (As := [.int x1]) (rest := []) O hH (c_X12_isMachine hc4) ml_X12_243 rfl hl.1 rfl ⟨Nat.le_of_ble_eq_true rfl, Nat.le_of_ble_eq_true rfl⟩ (Nat.le_of_ble_eq_true rfl) dX12_behind_6 (fun H locs hH => ?_)
  refine lv_if_eq (tgt := 24) hx hb dX12_behind_9 (by decide) (fun c6 => ?_) (fun c6 => ?_)
  · have h := it_pos h c6
    refine lv_bipush (v := (-2)) hx hb dX12_behind_24 (by decide) ?_
    obtain ⟨rfl, rfl⟩ := ret_i h
    exact h_iret O hr hlk hH dX12_behind_26
  · have h := it_neg h c6
    refine lv_iload_n hx hb dX12_behind_12 rfl (lv_at hl 3 rfl) ?_
    refine lv_i2l hx hb dX12_behind_13 rfl ?_
    refine lv_lconst (v := 0) hx hb dX12_behind_14 (by decide) ?_
    refine lv_ldc2 (v := 2) hx hb hown (hts _ ww_1495) dX12_behind_15 ?_
    obtain ⟨y9, D7, hc8, h⟩ := bI_some h
    refine h_callSi (As := [.long (Int32.toInt64 x3), .long 0, .long 2]) (rest := []) O hH (c_X12_isIn hc8) ml_X12_182 rfl hl.1 rfl ⟨Nat.le_of_ble_eq_true rfl, Nat.le_of_ble_eq_true rfl⟩ (Nat.le_of_ble_eq_true rfl) dX12_behind_18 (fun H locs hH => ?_)
    refine lv_if_ne (tgt := 27) hx hb dX12_behind_21 (by decide) (fun c10 => ?_) (fun c10 => ?_)
    · have h := it_neg h c10
      refine lv_iload_n hx hb dX12_behind_27 rfl (lv_at hl 2 rfl) ?_
      refine lv_i2l hx hb dX12_behind_28 rfl ?_
      refine lv_lconst (v := 0) hx hb dX12_behind_29 (by decide) ?_
      refine lv_aload_n hx hb dX12_behind_30 rfl (lv_at hl 0 rfl) ?_
      refine h_geti O hH ly_281 rfl fl_X12_259 dX12_behind_31 ?_
      refine lv_i2l hx hb dX12_behind_34 rfl ?_
      obtain ⟨y13, D11, hc12, h⟩ := bI_some h
      refine h_callSi (As := [.long (Int32.toInt64 x2), .long 0, .long (Int32.toInt64 (D7 281 18))]) (rest := []) O hH (c_X12_isIn hc12) ml_X12_182 rfl hl.1 rfl ⟨Nat.le_of_ble_eq_true rfl, Nat.le_of_ble_eq_true rfl⟩ (Nat.le_of_ble_eq_true rfl) dX12_behind_35 (fun H locs hH => ?_)
      refine lv_if_ne (tgt := 44) hx hb dX12_behind_38 (by decide) (fun c14 => ?_) (fun c14 => ?_)
      · have h := it_neg h c14
        refine lv_aload_n hx hb dX12_behind_44 rfl (lv_at hl 0 rfl) ?_
        refine lv_iload_n hx hb dX12_behind_45 rfl (lv_at hl 1 rfl) ?_
        refine lv_iload_n hx hb dX12_behind_46 rfl (lv_at hl 2 rfl) ?_
        obtain ⟨D15, hc16, h⟩ := bV_some h
        refine h_callVv (As := [.int x1, .int x2]) (rest := []) O hH (c_X12_goesAlong hc16) ml_X12_282 ly_281 rfl rfl hl.1 rfl ⟨Nat.le_of_ble_eq_true rfl, Nat.le_of_ble_eq_true rfl⟩ (Nat.le_of_ble_eq_true rfl) dX12_behind_47 (fun H locs hH => ?_)
        refine lv_iload_n hx hb dX12_behind_50 rfl (lv_at hl 3 rfl) ?_
        refine lv_if_ne (tgt := 61) hx hb dX12_behind_51 (by decide) (fun c17 => ?_) (fun c17 => ?_)
        · have h := it_neg h c17
          refine lv_iload_n hx hb dX12_behind_61 rfl (lv_at hl 3 rfl) ?_
          refine lv_iconst (v := 1) hx hb dX12_behind_62 (by decide) ?_
          refine lv_icmp_ne (tgt := 73) hx hb dX12_behind_63 (by decide) (fun c18 => ?_) (fun c18 => ?_)
          · have h := it_neg h c18
            refine lv_aload_n hx hb dX12_behind_73 rfl (lv_at hl 0 rfl) ?_
            refine h_geti O hH ly_281 rfl fl_X12_141 dX12_behind_74 ?_
            obtain ⟨rfl, rfl⟩ := ret_i h
            exact h_iret O hr hlk hH dX12_behind_77
          · have h := it_pos h c18
            refine lv_aload_n hx hb dX12_behind_66 rfl (lv_at hl 0 rfl) ?_
            refine h_geti O hH ly_281 rfl fl_X12_138 dX12_behind_67 ?_
            refine lv_goto (tgt := 77) hx hb dX12_behind_70 (by decide) ?_
            obtain ⟨rfl, rfl⟩ := ret_i h
            exact h_iret O hr hlk hH dX12_behind_77
        · have h := it_pos h c17
          refine lv_aload_n hx hb dX12_behind_54 rfl (lv_at hl 0 rfl) ?_
          refine h_geti O hH ly_281 rfl fl_X12_135 dX12_behind_55 ?_
          refine lv_goto (tgt := 77) hx hb dX12_behind_58 (by decide) ?_
          obtain ⟨rfl, rfl⟩ := ret_i h
          exact h_iret O hr hlk hH dX12_behind_77
      · have h := it_pos h c14
        refine lv_bipush (v := (-3)) hx hb dX12_behind_41 (by decide) ?_
        obtain ⟨rfl, rfl⟩ := ret_i h
        exact h_iret O hr hlk hH dX12_behind_43
    · have h := it_pos h c10
      refine lv_bipush (v := (-2)) hx hb dX12_behind_24 (by decide) ?_
      obtain ⟨rfl, rfl⟩ := ret_i h
      exact h_iret O hr hlk hH dX12_behind_26
set_option maxHeartbeats 4000000 in
theorem c_X12_behind {l : Launch} {G : va_G} {tA : Nat → ClassId} {z : Nat} {E : Ex} {x1 : Int32} {x2 : Int32} {x3 : Int32} {D D' : Dm} {r : Int32} (h : f_X12_behind x1 x2 x3 D = some (r, D')) : CtI l yX12_behind cX12_behind 4 (some .int) G tA z E 5 0 0 [.ref (z + 281), .int x1, .int x2, .int x3] LAY D r LAY D' :=
  ct_BI (by decide +kernel) (Nat.le_of_ble_eq_true rfl) (fun _ _ _ _ _ _ _ _ O hr hlk => w_X12_behind O hr hlk _ _ _ _ h)
set_option maxHeartbeats 4000000 in
theorem w_X12_counts_115 {G : va_G} {tA : Nat → ClassId} {z : Nat} {E : Ex} {p : Program} {l : Launch} {e : Env} {s : State} {m : MethodId} {args : Array Value} {below : List Frame} {meth : Method} {c : Code} {D' : Dm} {dd : Nat} (hdd : 4 ≤ dd) (O : Ok G tA z E cX12_counts RX12 9 p s m args c) (hr : meth.sig.returnType = none) (hlk : meth.locks = false) {self : Int32 → Int32 → Int32 → Dm → Option Dm} (hself : ∀ (x1 : Int32) (x2 : Int32) (x3 : Int32) (D1 D2 : Dm), self x1 x2 x3 D1 = some D2 → CtV l yX12_counts cX12_counts 9 G tA z E dd 0 0 [.ref (z + 281), .int x1, .int x2, .int x3] LAY D1 LAY D2) {k58 : Int32 → Int32 → Int32 → Int32 → Int32 → Int32 → Int32 → Dm → Option Dm} (hk58 : ∀ (x1 : Int32) (x2 : Int32) (x3 : Int32) (x4 : Int32) (x5 : Int32) (x6 : Int32) (x7 : Int32) (D : Dm), k58 x1 x2 x3 x4 x5 x6 x7 D = some D' → BV G tA z E p l e (rmC (dd + 1) 0 0) s m args below meth c LAY D D' 9 58 [(0, .ref (z + 281)), (1, .int x1), (2, .int x2), (3, .int x3), (4, .int x4), (5, .int x5), (6, .int x6), (7, .int x7)] []) {k72 : Int32 → Int32 → Int32 → Int32 → Int32 → Int32 → Int32 → Int32 → Dm → Option Dm} (hk72 : ∀ (x1 : Int32) (x2 : Int32) (x3 : Int32) (x4 : Int32) (x5 : Int32) (x6 : Int32) (x7 : Int32) (x8 : Int32) (D : Dm), k72 x1 x2 x3 x4 x5 x6 x7 x8 D = some D' → BV G tA z E p l e (rmC (dd + 1) 0 0) s m args below meth c LAY D D' 9 72 [(0, .ref (z + 281)), (1, .int x1), (2, .int x2), (3, .int x3), (4, .int x4), (5, .int x5), (6, .int x6), (7, .int x7), (8, .int x8)] []) (x1 : Int32) (x2 : Int32) (x3 : Int32) (x4 : Int32) (x5 : Int32) (x6 : Int32) (x7 : Int32) (x8 : Int32) (xs0 : Int32) (xs1 : Int32) (xs2 : Int32) (D : Dm) (h : f_X12_counts_115 self k58 k72 x1 x2 x3 x4 x5 x6 x7 x8 xs0 xs1 xs2 D = some D') : BV G tA z E p l e (rmC (dd + 1) 0 0) s m args below meth c LAY D D' 9 115 [(0, .ref (z + 281)), (1, .int x1), (2, .int x2), (3, .int x3), (4, .int x4), (5, .int x5), (6, .int x6), (7, .int x7), (8, .int x8)] [.int xs0, .int xs1, .int xs2, .ref (z + 281)] := by
  obtain ⟨hx, hb, -, hown, hts, -⟩ := id O
  unfold f_X12_counts_115 at h
  intro H locs ls hH hl
  obtain ⟨D1, hc2, h⟩ := bV_some h
  refine h_callVv (As := [.int xs2, .int xs1, .int xs0]) (rest := []) O hH (hself _ _ _ _ _ hc2) ml_X12_294 ly_281 rfl rfl hl.1 rfl ⟨by show _ ≤ dd + 1; omega, by show _ ≤ 64 * (dd + 1); omega⟩ (Nat.le_of_ble_eq_true rfl) dX12_counts_115 (fun H locs hH => ?_)
  obtain ⟨y3, e4, h⟩ := lt_some h
  refine lv_iinc (v := y3) (lv' := [(8, .int y3), (0, .ref (z + 281)), (1, .int x1), (2, .int x2), (3, .int x3), (4, .int x4), (5, .int x5), (6, .int x6), (7, .int x7)]) hx hb dX12_counts_118 hl (k := 8) rfl (by rw [e4]; rfl) (by decide) rfl (fun ls hl => ?_)
  refine lv_goto (tgt := 72) hx hb dX12_counts_121 (by decide) ?_
  exact hk72 _ _ _ _ _ _ _ _ _ h _ _ _ hH (lv_sub hl [1, 2, 3, 4, 5, 6, 7, 8, 0] rfl)
set_option maxHeartbeats 4000000 in
theorem w_X12_counts_72_b {G : va_G} {tA : Nat → ClassId} {z : Nat} {E : Ex} {p : Program} {l : Launch} {e : Env} {s : State} {m : MethodId} {args : Array Value} {below : List Frame} {meth : Method} {c : Code} {D' : Dm} {dd : Nat} (hdd : 4 ≤ dd) (O : Ok G tA z E cX12_counts RX12 9 p s m args c) (hr : meth.sig.returnType = none) (hlk : meth.locks = false) {self : Int32 → Int32 → Int32 → Dm → Option Dm} (hself : ∀ (x1 : Int32) (x2 : Int32) (x3 : Int32) (D1 D2 : Dm), self x1 x2 x3 D1 = some D2 → CtV l yX12_counts cX12_counts 9 G tA z E dd 0 0 [.ref (z + 281), .int x1, .int x2, .int x3] LAY D1 LAY D2) {k58 : Int32 → Int32 → Int32 → Int32 → Int32 → Int32 → Int32 → Dm → Option Dm} (hk58 : ∀ (x1 : Int32) (x2 : Int32) (x3 : Int32) (x4 : Int32) (x5 : Int32) (x6 : Int32) (x7 : Int32) (D : Dm), k58 x1 x2 x3 x4 x5 x6 x7 D = some D' → BV G tA z E p l e (rmC (dd + 1) 0 0) s m args below meth c LAY D D' 9 58 [(0, .ref (z + 281)), (1, .int x1), (2, .int x2), (3, .int x3), (4, .int x4), (5, .int x5), (6, .int x6), (7, .int x7)] []) {k72 : Int32 → Int32 → Int32 → Int32 → Int32 → Int32 → Int32 → Int32 → Dm → Option Dm} (hk72 : ∀ (x1 : Int32) (x2 : Int32) (x3 : Int32) (x4 : Int32) (x5 : Int32) (x6 : Int32) (x7 : Int32) (x8 : Int32) (D : Dm), k72 x1 x2 x3 x4 x5 x6 x7 x8 D = some D' → BV G tA z E p l e (rmC (dd + 1) 0 0) s m args below meth c LAY D D' 9 72 [(0, .ref (z + 281)), (1, .int x1), (2, .int x2), (3, .int x3), (4, .int x4), (5, .int x5), (6, .int x6), (7, .int x7), (8, .int x8)] []) (x1 : Int32) (x2 : Int32) (x3 : Int32) (x4 : Int32) (x5 : Int32) (x6 : Int32) (x7 : Int32) (x8 : Int32) (D : Dm) (h : f_X12_counts_72_b self k58 k72 x1 x2 x3 x4 x5 x6 x7 x8 D = some D') : BV G tA z E p l e (rmC (dd + 1) 0 0) s m args below meth c LAY D D' 9 72 [(0, .ref (z + 281)), (1, .int x1), (2, .int x2), (3, .int x3), (4, .int x4), (5, .int x5), (6, .int x6), (7, .int x7), (8, .int x8)] [] := by
  obtain ⟨hx, hb, -, hown, hts, -⟩ := id O
  unfold f_X12_counts_72_b at h
  intro H locs ls hH hl
  refine lv_iload hx hb dX12_counts_72 (lv_at hl 8 rfl) ?_
  refine lv_iload_n hx hb dX12_counts_74 rfl (lv_at hl 3 rfl) ?_
  refine lv_icmp_gt (tgt := 124) hx hb dX12_counts_75 (by decide) (fun c1 => ?_) (fun c1 => ?_)
  · have h := it_pos h c1
    obtain ⟨y2, e3, h⟩ := lt_some h
    refine lv_iinc (v := y2) (lv' := [(7, .int y2), (0, .ref (z + 281)), (1, .int x1), (2, .int x2), (3, .int x3), (4, .int x4), (5, .int x5), (6, .int x6), (8, .int x8)]) hx hb dX12_counts_124 hl (k := 7) rfl (by rw [e3]; rfl) (by decide) rfl (fun ls hl => ?_)
    refine lv_goto (tgt := 58) hx hb dX12_counts_127 (by decide) ?_
    exact hk58 _ _ _ _ _ _ _ _ h _ _ _ hH (lv_sub hl [1, 2, 3, 4, 5, 6, 7, 0] rfl)
  · have h := it_neg h c1
    refine lv_aload_n hx hb dX12_counts_78 rfl (lv_at hl 0 rfl) ?_
    refine lv_iload hx hb dX12_counts_79 (lv_at hl 4 rfl) ?_
    refine lv_iload hx hb dX12_counts_81 (lv_at hl 5 rfl) ?_
    refine lv_iload hx hb dX12_counts_83 (lv_at hl 6 rfl) ?_
    obtain ⟨D4, hc5, h⟩ := bV_some h
    refine h_callVv (As := [.int x4, .int x5, .int x6]) (rest := []) O hH (c_X12_stays hc5) ml_X12_144 ly_281 rfl rfl hl.1 rfl ⟨by show _ ≤ dd + 1; omega, by show _ ≤ 64 * (dd + 1); omega⟩ (Nat.le_of_ble_eq_true rfl) dX12_counts_85 (fun H locs hH => ?_)
    refine lv_aload_n hx hb dX12_counts_88 rfl (lv_at hl 0 rfl) ?_
    refine lv_iload_n hx hb dX12_counts_89 rfl (lv_at hl 1 rfl) ?_
    refine lv_iload hx hb dX12_counts_90 (lv_at hl 7 rfl) ?_
    refine lv_iload hx hb dX12_counts_92 (lv_at hl 8 rfl) ?_
    obtain ⟨D6, hc7, h⟩ := bV_some h
    refine h_callVv (As := [.int x1, .int x7, .int x8]) (rest := []) O hH (c_X12_goesBy hc7) ml_X12_279 ly_281 rfl rfl hl.1 rfl ⟨by show _ ≤ dd + 1; omega, by show _ ≤ 64 * (dd + 1); omega⟩ (Nat.le_of_ble_eq_true rfl) dX12_counts_94 (fun H locs hH => ?_)
    refine lv_aload_n hx hb dX12_counts_97 rfl (lv_at hl 0 rfl) ?_
    refine lv_iload_n hx hb dX12_counts_98 rfl (lv_at hl 1 rfl) ?_
    refine lv_iload_n hx hb dX12_counts_99 rfl (lv_at hl 2 rfl) ?_
    refine lv_iconst (v := 1) hx hb dX12_counts_100 (by decide) ?_
    refine lv_isub hx hb dX12_counts_101 ?_
    refine lv_iload hx hb dX12_counts_102 (lv_at hl 8 rfl) ?_
    refine lv_iload_n hx hb dX12_counts_104 rfl (lv_at hl 3 rfl) ?_
    refine lv_icmp_ne (tgt := 114) hx hb dX12_counts_105 (by decide) (fun c8 => ?_) (fun c8 => ?_)
    · have h := it_neg h c8
      refine lv_iload_n hx hb dX12_counts_114 rfl (lv_at hl 3 rfl) ?_
      exact w_X12_counts_115 hdd O hr hlk hself hk58 hk72 _ _ _ _ _ _ _ _ _ _ _ _ h _ _ _ hH (lv_sub hl [0, 1, 2, 3, 4, 5, 6, 7, 8] rfl)
    · have h := it_pos h c8
      refine lv_iload_n hx hb dX12_counts_108 rfl (lv_at hl 3 rfl) ?_
      refine lv_iconst (v := 1) hx hb dX12_counts_109 (by decide) ?_
      refine lv_iadd hx hb dX12_counts_110 ?_
      refine lv_goto (tgt := 115) hx hb dX12_counts_111 (by decide) ?_
      exact w_X12_counts_115 hdd O hr hlk hself hk58 hk72 _ _ _ _ _ _ _ _ _ _ _ _ h _ _ _ hH (lv_sub hl [0, 1, 2, 3, 4, 5, 6, 7, 8] rfl)
set_option maxHeartbeats 4000000 in
theorem w_X12_counts_72 {G : va_G} {tA : Nat → ClassId} {z : Nat} {E : Ex} {p : Program} {l : Launch} {e : Env} {s : State} {m : MethodId} {args : Array Value} {below : List Frame} {meth : Method} {c : Code} {D' : Dm} {dd : Nat} (hdd : 4 ≤ dd) (O : Ok G tA z E cX12_counts RX12 9 p s m args c) (hr : meth.sig.returnType = none) (hlk : meth.locks = false) {self : Int32 → Int32 → Int32 → Dm → Option Dm} (hself : ∀ (x1 : Int32) (x2 : Int32) (x3 : Int32) (D1 D2 : Dm), self x1 x2 x3 D1 = some D2 → CtV l yX12_counts cX12_counts 9 G tA z E dd 0 0 [.ref (z + 281), .int x1, .int x2, .int x3] LAY D1 LAY D2) {k58 : Int32 → Int32 → Int32 → Int32 → Int32 → Int32 → Int32 → Dm → Option Dm} (hk58 : ∀ (x1 : Int32) (x2 : Int32) (x3 : Int32) (x4 : Int32) (x5 : Int32) (x6 : Int32) (x7 : Int32) (D : Dm), k58 x1 x2 x3 x4 x5 x6 x7 D = some D' → BV G tA z E p l e (rmC (dd + 1) 0 0) s m args below meth c LAY D D' 9 58 [(0, .ref (z + 281)), (1, .int x1), (2, .int x2), (3, .int x3), (4, .int x4), (5, .int x5), (6, .int x6), (7, .int x7)] []) : ∀ (n : Nat) (x1 : Int32) (x2 : Int32) (x3 : Int32) (x4 : Int32) (x5 : Int32) (x6 : Int32) (x7 : Int32) (x8 : Int32) (D : Dm) (h : f_X12_counts_72 self k58 n x1 x2 x3 x4 x5 x6 x7 x8 D = some D'), BV G tA z E p l e (rmC (dd + 1) 0 0) s m args below meth c LAY D D' 9 72 [(0, .ref (z + 281)), (1, .int x1), (2, .int x2), (3, .int x3), (4, .int x4), (5, .int x5), (6, .int x6), (7, .int x7), (8, .int x8)] [] := by
  intro n
  induction n with
  | zero => intro x1 x2 x3 x4 x5 x6 x7 x8 D h; exact no_some h
  | succ n ih => intro x1 x2 x3 x4 x5 x6 x7 x8 D h; exact w_X12_counts_72_b hdd O hr hlk hself hk58 (fun x1 x2 x3 x4 x5 x6 x7 x8 D h => ih x1 x2 x3 x4 x5 x6 x7 x8 D h) x1 x2 x3 x4 x5 x6 x7 x8 D h
set_option maxHeartbeats 4000000 in
theorem w_X12_counts_58_b {G : va_G} {tA : Nat → ClassId} {z : Nat} {E : Ex} {p : Program} {l : Launch} {e : Env} {s : State} {m : MethodId} {args : Array Value} {below : List Frame} {meth : Method} {c : Code} {D' : Dm} {dd : Nat} (hdd : 4 ≤ dd) (O : Ok G tA z E cX12_counts RX12 9 p s m args c) (hr : meth.sig.returnType = none) (hlk : meth.locks = false) {self : Int32 → Int32 → Int32 → Dm → Option Dm} (hself : ∀ (x1 : Int32) (x2 : Int32) (x3 : Int32) (D1 D2 : Dm), self x1 x2 x3 D1 = some D2 → CtV l yX12_counts cX12_counts 9 G tA z E dd 0 0 [.ref (z + 281), .int x1, .int x2, .int x3] LAY D1 LAY D2) {k58 : Int32 → Int32 → Int32 → Int32 → Int32 → Int32 → Int32 → Dm → Option Dm} (hk58 : ∀ (x1 : Int32) (x2 : Int32) (x3 : Int32) (x4 : Int32) (x5 : Int32) (x6 : Int32) (x7 : Int32) (D : Dm), k58 x1 x2 x3 x4 x5 x6 x7 D = some D' → BV G tA z E p l e (rmC (dd + 1) 0 0) s m args below meth c LAY D D' 9 58 [(0, .ref (z + 281)), (1, .int x1), (2, .int x2), (3, .int x3), (4, .int x4), (5, .int x5), (6, .int x6), (7, .int x7)] []) (x1 : Int32) (x2 : Int32) (x3 : Int32) (x4 : Int32) (x5 : Int32) (x6 : Int32) (x7 : Int32) (D : Dm) (h : f_X12_counts_58_b self k58 x1 x2 x3 x4 x5 x6 x7 D = some D') : BV G tA z E p l e (rmC (dd + 1) 0 0) s m args below meth c LAY D D' 9 58 [(0, .ref (z + 281)), (1, .int x1), (2, .int x2), (3, .int x3), (4, .int x4), (5, .int x5), (6, .int x6), (7, .int x7)] [] := by
  obtain ⟨hx, hb, -, hown, hts, -⟩ := id O
  unfold f_X12_counts_58_b at h
  intro H locs ls hH hl
  refine lv_iload hx hb dX12_counts_58 (lv_at hl 7 rfl) ?_
  refine lv_aload_n hx hb dX12_counts_60 rfl (lv_at hl 0 rfl) ?_
  refine lv_iload_n hx hb dX12_counts_61 rfl (lv_at hl 1 rfl) ?_
  refine lv_iconst (v := 2) hx hb dX12_counts_62 (by decide) ?_
  obtain ⟨y3, D1, hc2, h⟩ := bI_some h
  refine h_callVi (As := [.int x1, .int 2]) (rest := [.int x7]) O hH (c_X12_its hc2) ml_X12_155 ly_281 rfl rfl hl.1 rfl ⟨by show _ ≤ dd + 1; omega, by show _ ≤ 64 * (dd + 1); omega⟩ (Nat.le_of_ble_eq_true rfl) dX12_counts_63 (fun H locs hH => ?_)
  refine lv_icmp_ge (tgt := 130) hx hb dX12_counts_66 (by decide) (fun c4 => ?_) (fun c4 => ?_)
  · have h := it_pos h c4
    obtain rfl := ret_v h
    exact h_vret O hr hlk hH dX12_counts_130
  · have h := it_neg h c4
    refine lv_iconst (v := 0) hx hb dX12_counts_69 (by decide) ?_
    refine lv_istore (lv' := [(8, .int 0), (0, .ref (z + 281)), (1, .int x1), (2, .int x2), (3, .int x3), (4, .int x4), (5, .int x5), (6, .int x6), (7, .int x7)]) hx hb dX12_counts_70 hl (by decide) rfl (fun ls hl => ?_)
    exact w_X12_counts_72 hdd O hr hlk hself hk58 FU _ _ _ _ _ _ _ _ _ h _ _ _ hH (lv_sub hl [1, 2, 3, 4, 5, 6, 7, 8, 0] rfl)
set_option maxHeartbeats 4000000 in
theorem w_X12_counts_58 {G : va_G} {tA : Nat → ClassId} {z : Nat} {E : Ex} {p : Program} {l : Launch} {e : Env} {s : State} {m : MethodId} {args : Array Value} {below : List Frame} {meth : Method} {c : Code} {D' : Dm} {dd : Nat} (hdd : 4 ≤ dd) (O : Ok G tA z E cX12_counts RX12 9 p s m args c) (hr : meth.sig.returnType = none) (hlk : meth.locks = false) {self : Int32 → Int32 → Int32 → Dm → Option Dm} (hself : ∀ (x1 : Int32) (x2 : Int32) (x3 : Int32) (D1 D2 : Dm), self x1 x2 x3 D1 = some D2 → CtV l yX12_counts cX12_counts 9 G tA z E dd 0 0 [.ref (z + 281), .int x1, .int x2, .int x3] LAY D1 LAY D2) : ∀ (n : Nat) (x1 : Int32) (x2 : Int32) (x3 : Int32) (x4 : Int32) (x5 : Int32) (x6 : Int32) (x7 : Int32) (D : Dm) (h : f_X12_counts_58 self n x1 x2 x3 x4 x5 x6 x7 D = some D'), BV G tA z E p l e (rmC (dd + 1) 0 0) s m args below meth c LAY D D' 9 58 [(0, .ref (z + 281)), (1, .int x1), (2, .int x2), (3, .int x3), (4, .int x4), (5, .int x5), (6, .int x6), (7, .int x7)] [] := by
  intro n
  induction n with
  | zero => intro x1 x2 x3 x4 x5 x6 x7 D h; exact no_some h
  | succ n ih => intro x1 x2 x3 x4 x5 x6 x7 D h; exact w_X12_counts_58_b hdd O hr hlk hself (fun x1 x2 x3 x4 x5 x6 x7 D h => ih x1 x2 x3 x4 x5 x6 x7 D h) x1 x2 x3 x4 x5 x6 x7 D h
set_option maxHeartbeats 4000000 in
theorem w_X12_counts_32 {G : va_G} {tA : Nat → ClassId} {z : Nat} {E : Ex} {p : Program} {l : Launch} {e : Env} {s : State} {m : MethodId} {args : Array Value} {below : List Frame} {meth : Method} {c : Code} {D' : Dm} {dd : Nat} (hdd : 4 ≤ dd) (O : Ok G tA z E cX12_counts RX12 9 p s m args c) (hr : meth.sig.returnType = none) (hlk : meth.locks = false) {self : Int32 → Int32 → Int32 → Dm → Option Dm} (hself : ∀ (x1 : Int32) (x2 : Int32) (x3 : Int32) (D1 D2 : Dm), self x1 x2 x3 D1 = some D2 → CtV l yX12_counts cX12_counts 9 G tA z E dd 0 0 [.ref (z + 281), .int x1, .int x2, .int x3] LAY D1 LAY D2) (xs0 : Int32) (xs1 : Int32) (D : Dm) (h : f_X12_counts_32 self xs0 xs1 D = some D') : BV G tA z E p l e (rmC (dd + 1) 0 0) s m args below meth c LAY D D' 9 32 [] [.int xs0, .int xs1, .ref (z + 281)] := by
  obtain ⟨hx, hb, -, hown, hts, -⟩ := id O
  unfold f_X12_counts_32 at h
  intro H locs ls hH hl
  refine lv_iadd hx hb dX12_counts_32 ?_
  obtain ⟨D1, e2, h⟩ := lt_some h
  refine h_puti O hH ly_281 rfl fl_X12_291 e2 dX12_counts_33 (fun H locs hH => ?_)
  obtain rfl := ret_v h
  exact h_vret O hr hlk hH dX12_counts_36
set_option maxHeartbeats 4000000 in
theorem w_X12_counts {G : va_G} {tA : Nat → ClassId} {z : Nat} {E : Ex} {p : Program} {l : Launch} {e : Env} {s : State} {m : MethodId} {args : Array Value} {below : List Frame} {meth : Method} {c : Code} {D' : Dm} {dd : Nat} (hdd : 4 ≤ dd) (O : Ok G tA z E cX12_counts RX12 9 p s m args c) (hr : meth.sig.returnType = none) (hlk : meth.locks = false) {self : Int32 → Int32 → Int32 → Dm → Option Dm} (hself : ∀ (x1 : Int32) (x2 : Int32) (x3 : Int32) (D1 D2 : Dm), self x1 x2 x3 D1 = some D2 → CtV l yX12_counts cX12_counts 9 G tA z E dd 0 0 [.ref (z + 281), .int x1, .int x2, .int x3] LAY D1 LAY D2) (x1 : Int32) (x2 : Int32) (x3 : Int32) (D : Dm) (h : f_X12_counts_e self x1 x2 x3 D = some D') : BV G tA z E p l e (rmC (dd + 1) 0 0) s m args below meth c LAY D D' 9 0 [(0, .ref (z + 281)), (1, .int x1), (2, .int x2), (3, .int x3)] [] := by
  obtain ⟨hx, hb, -, hown, hts, -⟩ := id O
  unfold f_X12_counts_e at h
  intro H locs ls hH hl
  refine lv_iload_n hx hb dX12_counts_0 rfl (lv_at hl 2 rfl) ?_
  refine lv_if_ne (tgt := 37) hx hb dX12_counts_1 (by decide) (fun c1 => ?_) (fun c1 => ?_)
  · have h := it_neg h c1
    refine lv_aload_n hx hb dX12_counts_37 rfl (lv_at hl 0 rfl) ?_
    refine h_geti O hH ly_281 rfl fl_X12_135 dX12_counts_38 ?_
    refine lv_topi (fun y2 e3 => ?_)
    have h := lt_at e3 h
    refine lv_istore (lv' := [(4, .int y2), (0, .ref (z + 281)), (1, .int x1), (2, .int x2), (3, .int x3)]) hx hb dX12_counts_41 hl (by decide) rfl (fun ls hl => ?_)
    refine lv_aload_n hx hb dX12_counts_43 rfl (lv_at hl 1 rfl) ?_
    refine h_geti O hH ly_281 rfl fl_X12_138 dX12_counts_44 ?_
    refine lv_topi (fun y4 e5 => ?_)
    have h := lt_at e5 h
    refine lv_istore (lv' := [(5, .int y4), (4, .int y2), (0, .ref (z + 281)), (1, .int x1), (2, .int x2), (3, .int x3)]) hx hb dX12_counts_47 hl (by decide) rfl (fun ls hl => ?_)
    refine lv_aload_n hx hb dX12_counts_49 rfl (lv_at hl 2 rfl) ?_
    refine h_geti O hH ly_281 rfl fl_X12_141 dX12_counts_50 ?_
    refine lv_topi (fun y6 e7 => ?_)
    have h := lt_at e7 h
    refine lv_istore (lv' := [(6, .int y6), (5, .int y4), (4, .int y2), (0, .ref (z + 281)), (1, .int x1), (2, .int x2), (3, .int x3)]) hx hb dX12_counts_53 hl (by decide) rfl (fun ls hl => ?_)
    refine lv_iconst (v := 0) hx hb dX12_counts_55 (by decide) ?_
    refine lv_istore (lv' := [(7, .int 0), (6, .int y6), (5, .int y4), (4, .int y2), (0, .ref (z + 281)), (1, .int x1), (2, .int x2), (3, .int x3)]) hx hb dX12_counts_56 hl (by decide) rfl (fun ls hl => ?_)
    exact w_X12_counts_58 hdd O hr hlk hself FU _ _ _ _ _ _ _ _ h _ _ _ hH (lv_sub hl [4, 5, 6, 7, 3, 2, 1, 0] rfl)
  · have h := it_pos h c1
    refine lv_aload_n hx hb dX12_counts_4 rfl (lv_at hl 0 rfl) ?_
    refine lv_dup hx hb dX12_counts_5 rfl ?_
    refine h_geti O hH ly_281 rfl fl_X12_288 dX12_counts_6 ?_
    refine lv_iconst (v := 1) hx hb dX12_counts_9 (by decide) ?_
    refine lv_iadd hx hb dX12_counts_10 ?_
    obtain ⟨D8, e9, h⟩ := lt_some h
    refine h_puti O hH ly_281 rfl fl_X12_288 e9 dX12_counts_11 (fun H locs hH => ?_)
    refine lv_aload_n hx hb dX12_counts_14 rfl (lv_at hl 0 rfl) ?_
    refine lv_dup hx hb dX12_counts_15 rfl ?_
    refine h_geti O hH ly_281 rfl fl_X12_291 dX12_counts_16 ?_
    refine lv_aload_n hx hb dX12_counts_19 rfl (lv_at hl 0 rfl) ?_
    refine lv_iload_n hx hb dX12_counts_20 rfl (lv_at hl 1 rfl) ?_
    obtain ⟨y12, D10, hc11, h⟩ := bI_some h
    refine h_callVi (As := [.int x1]) (rest := [.int (D8 281 20), .ref (z + 281)]) O hH (c_X12_accepts hc11) ml_X12_285 ly_281 rfl rfl hl.1 rfl ⟨by show _ ≤ dd + 1; omega, by show _ ≤ 64 * (dd + 1); omega⟩ (Nat.le_of_ble_eq_true rfl) dX12_counts_21 (fun H locs hH => ?_)
    refine lv_if_eq (tgt := 31) hx hb dX12_counts_24 (by decide) (fun c13 => ?_) (fun c13 => ?_)
    · have h := it_pos h c13
      refine lv_iconst (v := 0) hx hb dX12_counts_31 (by decide) ?_
      exact w_X12_counts_32 hdd O hr hlk hself _ _ _ h _ _ _ hH (lv_sub hl [] rfl)
    · have h := it_neg h c13
      refine lv_iconst (v := 1) hx hb dX12_counts_27 (by decide) ?_
      refine lv_goto (tgt := 32) hx hb dX12_counts_28 (by decide) ?_
      exact w_X12_counts_32 hdd O hr hlk hself _ _ _ h _ _ _ hH (lv_sub hl [] rfl)
set_option maxHeartbeats 4000000 in
theorem c_X12_counts_n {l : Launch} {G : va_G} {tA : Nat → ClassId} {z : Nat} {E : Ex} : ∀ (n : Nat) (x1 : Int32) (x2 : Int32) (x3 : Int32) (D D' : Dm) , f_X12_counts n x1 x2 x3 D = some D' → CtV l yX12_counts cX12_counts 9 G tA z E (4 + n) 0 0 [.ref (z + 281), .int x1, .int x2, .int x3] LAY D LAY D' := by
  intro n
  induction n with
  | zero => intro x1 x2 x3 D D' h; exact no_some h
  | succ n ih => intro x1 x2 x3 D D' h; exact ct_BV (by decide +kernel) (Nat.le_of_ble_eq_true rfl) (fun _ _ _ _ _ _ _ _ O hr hlk => w_X12_counts (dd := 4 + n) (by omega) O hr hlk ih x1 x2 x3 _ h)
set_option maxHeartbeats 4000000 in
theorem c_X12_counts {l : Launch} {G : va_G} {tA : Nat → ClassId} {z : Nat} {E : Ex} {x1 : Int32} {x2 : Int32} {x3 : Int32} {D D' : Dm} (h : f_X12_counts RF x1 x2 x3 D = some D') : CtV l yX12_counts cX12_counts 9 G tA z E (4 + RF) 0 0 [.ref (z + 281), .int x1, .int x2, .int x3] LAY D LAY D' := c_X12_counts_n RF _ _ _ _ _ h
set_option maxHeartbeats 4000000 in
theorem w_X12_laysCounts {G : va_G} {tA : Nat → ClassId} {z : Nat} {E : Ex} {p : Program} {l : Launch} {e : Env} {s : State} {m : MethodId} {args : Array Value} {below : List Frame} {meth : Method} {c : Code} {r : Int32} {D' : Dm} (O : Ok G tA z E cX12_laysCounts RX12 3 p s m args c) (hr : meth.sig.returnType = some .int) (hlk : meth.locks = false) (x1 : Int32) (x2 : Int32) (D : Dm) (h : f_X12_laysCounts x1 x2 D = some (r, D')) : BI G tA z E p l e (rmC 21 0 0) s m args below meth c LAY D r D' 3 0 [(0, .ref (z + 281)), (1, .int x1), (2, .int x2)] [] := by
  obtain ⟨hx, hb, -, hown, hts, -⟩ := id O
  unfold f_X12_laysCounts at h
  intro H locs ls hH hl
  refine lv_iload_n hx hb dX12_laysCounts_0 rfl (lv_at hl 1 rfl) ?_
  obtain ⟨y3, D1, hc2, h⟩ := bI_some h
  refine h_callSi (As := [.int x1]) (rest := []) O hH (c_X12_isMachine hc2) ml_X12_243 rfl hl.1 rfl ⟨Nat.le_of_ble_eq_true rfl, Nat.le_of_ble_eq_true rfl⟩ (Nat.le_of_ble_eq_true rfl) dX12_laysCounts_1 (fun H locs hH => ?_)
  refine lv_if_ne (tgt := 10) hx hb dX12_laysCounts_4 (by decide) (fun c4 => ?_) (fun c4 => ?_)
  · have h := it_neg h c4
    refine lv_iload_n hx hb dX12_laysCounts_10 rfl (lv_at hl 2 rfl) ?_
    refine lv_i2l hx hb dX12_laysCounts_11 rfl ?_
    refine lv_lconst (v := 0) hx hb dX12_laysCounts_12 (by decide) ?_
    refine lv_ldc2 (v := 5) hx hb hown (hts _ ww_1536) dX12_laysCounts_13 ?_
    obtain ⟨y7, D5, hc6, h⟩ := bI_some h
    refine h_callSi (As := [.long (Int32.toInt64 x2), .long 0, .long 5]) (rest := []) O hH (c_X12_isIn hc6) ml_X12_182 rfl hl.1 rfl ⟨Nat.le_of_ble_eq_true rfl, Nat.le_of_ble_eq_true rfl⟩ (Nat.le_of_ble_eq_true rfl) dX12_laysCounts_16 (fun H locs hH => ?_)
    refine lv_if_ne (tgt := 25) hx hb dX12_laysCounts_19 (by decide) (fun c8 => ?_) (fun c8 => ?_)
    · have h := it_neg h c8
      refine lv_aload_n hx hb dX12_laysCounts_25 rfl (lv_at hl 0 rfl) ?_
      refine lv_iconst (v := 0) hx hb dX12_laysCounts_26 (by decide) ?_
      obtain ⟨D9, e10, h⟩ := lt_some h
      refine h_puti O hH ly_281 rfl fl_X12_288 e10 dX12_laysCounts_27 (fun H locs hH => ?_)
      refine lv_aload_n hx hb dX12_laysCounts_30 rfl (lv_at hl 0 rfl) ?_
      refine lv_iconst (v := 0) hx hb dX12_laysCounts_31 (by decide) ?_
      obtain ⟨D11, e12, h⟩ := lt_some h
      refine h_puti O hH ly_281 rfl fl_X12_291 e12 dX12_laysCounts_32 (fun H locs hH => ?_)
      refine lv_aload_n hx hb dX12_laysCounts_35 rfl (lv_at hl 0 rfl) ?_
      obtain ⟨D13, hc14, h⟩ := bV_some h
      refine h_callVv (As := []) (rest := []) O hH (c_X12_starts hc14) ml_X12_276 ly_281 rfl rfl hl.1 rfl ⟨Nat.le_of_ble_eq_true rfl, Nat.le_of_ble_eq_true rfl⟩ (Nat.le_of_ble_eq_true rfl) dX12_laysCounts_36 (fun H locs hH => ?_)
      refine lv_aload_n hx hb dX12_laysCounts_39 rfl (lv_at hl 0 rfl) ?_
      refine lv_iload_n hx hb dX12_laysCounts_40 rfl (lv_at hl 1 rfl) ?_
      refine lv_iload_n hx hb dX12_laysCounts_41 rfl (lv_at hl 2 rfl) ?_
      refine lv_iconst (v := 0) hx hb dX12_laysCounts_42 (by decide) ?_
      obtain ⟨D15, hc16, h⟩ := bV_some h
      refine h_callVv (As := [.int x1, .int x2, .int 0]) (rest := []) O hH (c_X12_counts hc16) ml_X12_294 ly_281 rfl rfl hl.1 rfl ⟨Nat.le_of_ble_eq_true rfl, Nat.le_of_ble_eq_true rfl⟩ (Nat.le_of_ble_eq_true rfl) dX12_laysCounts_43 (fun H locs hH => ?_)
      refine lv_iconst (v := 0) hx hb dX12_laysCounts_46 (by decide) ?_
      obtain ⟨rfl, rfl⟩ := ret_i h
      exact h_iret O hr hlk hH dX12_laysCounts_47
    · have h := it_pos h c8
      refine lv_bipush (v := (-3)) hx hb dX12_laysCounts_22 (by decide) ?_
      obtain ⟨rfl, rfl⟩ := ret_i h
      exact h_iret O hr hlk hH dX12_laysCounts_24
  · have h := it_pos h c4
    refine lv_bipush (v := (-2)) hx hb dX12_laysCounts_7 (by decide) ?_
    obtain ⟨rfl, rfl⟩ := ret_i h
    exact h_iret O hr hlk hH dX12_laysCounts_9
set_option maxHeartbeats 4000000 in
theorem c_X12_laysCounts {l : Launch} {G : va_G} {tA : Nat → ClassId} {z : Nat} {E : Ex} {x1 : Int32} {x2 : Int32} {D D' : Dm} {r : Int32} (h : f_X12_laysCounts x1 x2 D = some (r, D')) : CtI l yX12_laysCounts cX12_laysCounts 3 (some .int) G tA z E 21 0 0 [.ref (z + 281), .int x1, .int x2] LAY D r LAY D' :=
  ct_BI (by decide +kernel) (Nat.le_of_ble_eq_true rfl) (fun _ _ _ _ _ _ _ _ O hr hlk => w_X12_laysCounts O hr hlk _ _ _ h)
set_option maxHeartbeats 4000000 in
theorem w_X12_many {G : va_G} {tA : Nat → ClassId} {z : Nat} {E : Ex} {p : Program} {l : Launch} {e : Env} {s : State} {m : MethodId} {args : Array Value} {below : List Frame} {meth : Method} {c : Code} {r : Int32} {D' : Dm} (O : Ok G tA z E cX12_many RX12 4 p s m args c) (hr : meth.sig.returnType = some .int) (hlk : meth.locks = false) (x1 : Int32) (x2 : Int32) (D : Dm) (h : f_X12_many x1 x2 D = some (r, D')) : BI G tA z E p l e (rmC 22 0 0) s m args below meth c LAY D r D' 4 0 [(0, .ref (z + 281)), (1, .int x1), (2, .int x2)] [] := by
  obtain ⟨hx, hb, -, hown, hts, -⟩ := id O
  unfold f_X12_many at h
  intro H locs ls hH hl
  refine lv_aload_n hx hb dX12_many_0 rfl (lv_at hl 0 rfl) ?_
  refine lv_iconst (v := 0) hx hb dX12_many_1 (by decide) ?_
  obtain ⟨D1, e2, h⟩ := lt_some h
  refine h_puti O hH ly_281 rfl fl_X12_1 e2 dX12_many_2 (fun H locs hH => ?_)
  refine lv_aload_n hx hb dX12_many_5 rfl (lv_at hl 0 rfl) ?_
  refine lv_iload_n hx hb dX12_many_6 rfl (lv_at hl 1 rfl) ?_
  refine lv_iload_n hx hb dX12_many_7 rfl (lv_at hl 2 rfl) ?_
  obtain ⟨y5, D3, hc4, h⟩ := bI_some h
  refine h_callVi (As := [.int x1, .int x2]) (rest := []) O hH (c_X12_laysCounts hc4) ml_X12_299 ly_281 rfl rfl hl.1 rfl ⟨Nat.le_of_ble_eq_true rfl, Nat.le_of_ble_eq_true rfl⟩ (Nat.le_of_ble_eq_true rfl) dX12_many_8 (fun H locs hH => ?_)
  refine lv_istore_n (lv' := [(3, .int y5), (0, .ref (z + 281)), (1, .int x1), (2, .int x2)]) hx hb dX12_many_11 rfl hl (by decide) rfl (fun ls hl => ?_)
  refine lv_iload_n hx hb dX12_many_12 rfl (lv_at hl 0 rfl) ?_
  refine lv_if_ge (tgt := 20) hx hb dX12_many_13 (by decide) (fun c6 => ?_) (fun c6 => ?_)
  · have h := it_pos h c6
    refine lv_aload_n hx hb dX12_many_20 rfl (lv_at hl 1 rfl) ?_
    refine h_geti O hH ly_281 rfl fl_X12_291 dX12_many_21 ?_
    obtain ⟨rfl, rfl⟩ := ret_i h
    exact h_iret O hr hlk hH dX12_many_24
  · have h := it_neg h c6
    refine lv_iload_n hx hb dX12_many_16 rfl (lv_at hl 0 rfl) ?_
    refine lv_goto (tgt := 24) hx hb dX12_many_17 (by decide) ?_
    obtain ⟨rfl, rfl⟩ := ret_i h
    exact h_iret O hr hlk hH dX12_many_24
set_option maxHeartbeats 4000000 in
theorem c_X12_many {l : Launch} {G : va_G} {tA : Nat → ClassId} {z : Nat} {E : Ex} {x1 : Int32} {x2 : Int32} {D D' : Dm} {r : Int32} (h : f_X12_many x1 x2 D = some (r, D')) : CtI l yX12_many cX12_many 4 (some .int) G tA z E 22 0 0 [.ref (z + 281), .int x1, .int x2] LAY D r LAY D' :=
  ct_BI (by decide +kernel) (Nat.le_of_ble_eq_true rfl) (fun _ _ _ _ _ _ _ _ O hr hlk => w_X12_many O hr hlk _ _ _ h)
set_option maxHeartbeats 4000000 in
theorem w_X12_bitsOf_81 {G : va_G} {tA : Nat → ClassId} {z : Nat} {E : Ex} {p : Program} {l : Launch} {e : Env} {s : State} {m : MethodId} {args : Array Value} {below : List Frame} {meth : Method} {c : Code} {r : Int32} {D' : Dm} (O : Ok G tA z E cX12_bitsOf RX12 9 p s m args c) (hr : meth.sig.returnType = some .int) (hlk : meth.locks = false) (x2 : Int32) (x5 : Int64) (D : Dm) (h : f_X12_bitsOf_81 x2 x5 D = some (r, D')) : BI G tA z E p l e (rmC 1 0 0) s m args below meth c LAY D r D' 9 81 [(2, .int x2), (5, .long x5)] [] := by
  obtain ⟨hx, hb, -, hown, hts, -⟩ := id O
  unfold f_X12_bitsOf_81 at h
  intro H locs ls hH hl
  refine lv_ldc2 (v := 127) hx hb hown (hts _ ww_1548) dX12_bitsOf_81 ?_
  refine lv_iload_n hx hb dX12_bitsOf_84 rfl (lv_at hl 0 rfl) ?_
  refine lv_i2l hx hb dX12_bitsOf_85 rfl ?_
  refine lv_lsub hx hb dX12_bitsOf_86 ?_
  refine lv_lconst (v := 1) hx hb dX12_bitsOf_87 (by decide) ?_
  refine lv_lsub hx hb dX12_bitsOf_88 ?_
  refine lv_bipush (v := 23) hx hb dX12_bitsOf_89 (by decide) ?_
  refine lv_lshl hx hb dX12_bitsOf_91 rfl ?_
  refine lv_lload hx hb dX12_bitsOf_92 (lv_at hl 1 rfl) ?_
  refine lv_ladd hx hb dX12_bitsOf_94 ?_
  refine lv_l2i hx hb dX12_bitsOf_95 rfl ?_
  obtain ⟨rfl, rfl⟩ := ret_i h
  exact h_iret O hr hlk hH dX12_bitsOf_96
set_option maxHeartbeats 4000000 in
theorem w_X12_bitsOf_75 {G : va_G} {tA : Nat → ClassId} {z : Nat} {E : Ex} {p : Program} {l : Launch} {e : Env} {s : State} {m : MethodId} {args : Array Value} {below : List Frame} {meth : Method} {c : Code} {r : Int32} {D' : Dm} (O : Ok G tA z E cX12_bitsOf RX12 9 p s m args c) (hr : meth.sig.returnType = some .int) (hlk : meth.locks = false) (x2 : Int32) (x5 : Int64) (D : Dm) (h : f_X12_bitsOf_75 x2 x5 D = some (r, D')) : BI G tA z E p l e (rmC 1 0 0) s m args below meth c LAY D r D' 9 75 [(2, .int x2), (5, .long x5)] [] := by
  obtain ⟨hx, hb, -, hown, hts, -⟩ := id O
  unfold f_X12_bitsOf_75 at h
  intro H locs ls hH hl
  refine lv_lload hx hb dX12_bitsOf_75 (lv_at hl 1 rfl) ?_
  refine lv_lconst (v := 1) hx hb dX12_bitsOf_77 (by decide) ?_
  refine lv_ladd hx hb dX12_bitsOf_78 ?_
  refine lv_topl (fun y1 e2 => ?_)
  have h := lt_at e2 h
  refine lv_lstore (lv' := [(5, .long y1), (2, .int x2)]) hx hb dX12_bitsOf_79 hl (by decide) rfl (fun ls hl => ?_)
  exact w_X12_bitsOf_81 O hr hlk _ _ _ h _ _ _ hH (lv_sub hl [1, 0] rfl)
set_option maxHeartbeats 4000000 in
theorem w_X12_bitsOf_8_b {G : va_G} {tA : Nat → ClassId} {z : Nat} {E : Ex} {p : Program} {l : Launch} {e : Env} {s : State} {m : MethodId} {args : Array Value} {below : List Frame} {meth : Method} {c : Code} {r : Int32} {D' : Dm} (O : Ok G tA z E cX12_bitsOf RX12 9 p s m args c) (hr : meth.sig.returnType = some .int) (hlk : meth.locks = false) {k8 : Int32 → Int32 → Int32 → Dm → Option (Int32 × Dm)} (hk8 : ∀ (x0 : Int32) (x1 : Int32) (x2 : Int32) (D : Dm), k8 x0 x1 x2 D = some (r, D') → BI G tA z E p l e (rmC 1 0 0) s m args below meth c LAY D r D' 9 8 [(0, .int x0), (1, .int x1), (2, .int x2)] []) (x0 : Int32) (x1 : Int32) (x2 : Int32) (D : Dm) (h : f_X12_bitsOf_8_b k8 x0 x1 x2 D = some (r, D')) : BI G tA z E p l e (rmC 1 0 0) s m args below meth c LAY D r D' 9 8 [(0, .int x0), (1, .int x1), (2, .int x2)] [] := by
  obtain ⟨hx, hb, -, hown, hts, -⟩ := id O
  unfold f_X12_bitsOf_8_b at h
  intro H locs ls hH hl
  refine lv_iload_n hx hb dX12_bitsOf_8 rfl (lv_at hl 0 rfl) ?_
  refine lv_i2l hx hb dX12_bitsOf_9 rfl ?_
  refine lv_iload_n hx hb dX12_bitsOf_10 rfl (lv_at hl 2 rfl) ?_
  refine lv_lshl hx hb dX12_bitsOf_11 rfl ?_
  refine lv_iload_n hx hb dX12_bitsOf_12 rfl (lv_at hl 1 rfl) ?_
  refine lv_i2l hx hb dX12_bitsOf_13 rfl ?_
  refine W.lcmp hx hb dX12_bitsOf_14 ?_
  refine lv_if_ge (tgt := 24) hx hb dX12_bitsOf_15 (by decide) (fun c1 => ?_) (fun c1 => ?_)
  · have h := it_pos h c1
    refine lv_iload_n hx hb dX12_bitsOf_24 rfl (lv_at hl 0 rfl) ?_
    refine lv_i2l hx hb dX12_bitsOf_25 rfl ?_
    refine lv_iload_n hx hb dX12_bitsOf_26 rfl (lv_at hl 2 rfl) ?_
    refine lv_bipush (v := 23) hx hb dX12_bitsOf_27 (by decide) ?_
    refine lv_iadd hx hb dX12_bitsOf_29 ?_
    refine lv_lshl hx hb dX12_bitsOf_30 rfl ?_
    refine lv_topl (fun y2 e3 => ?_)
    have h := lt_at e3 h
    refine lv_lstore_n (lv' := [(3, .long y2), (0, .int x0), (1, .int x1), (2, .int x2)]) hx hb dX12_bitsOf_31 rfl hl (by decide) rfl (fun ls hl => ?_)
    refine lv_lload_n hx hb dX12_bitsOf_32 rfl (lv_at hl 0 rfl) ?_
    refine lv_iload_n hx hb dX12_bitsOf_33 rfl (lv_at hl 2 rfl) ?_
    refine lv_i2l hx hb dX12_bitsOf_34 rfl ?_
    obtain ⟨g4, h⟩ := gd_some h
    refine lv_ldiv hx hb dX12_bitsOf_35 (of_decide_eq_true g4) ?_
    refine lv_topl (fun y5 e6 => ?_)
    have h := lt_at e6 h
    refine lv_lstore (lv' := [(5, .long y5), (3, .long y2), (0, .int x0), (1, .int x1), (2, .int x2)]) hx hb dX12_bitsOf_36 hl (by decide) rfl (fun ls hl => ?_)
    refine lv_ldc2 (v := 2) hx hb hown (hts _ ww_1495) dX12_bitsOf_38 ?_
    refine lv_lload_n hx hb dX12_bitsOf_41 rfl (lv_at hl 1 rfl) ?_
    refine lv_iload_n hx hb dX12_bitsOf_42 rfl (lv_at hl 3 rfl) ?_
    refine lv_i2l hx hb dX12_bitsOf_43 rfl ?_
    obtain ⟨g7, h⟩ := gd_some h
    refine lv_lrem hx hb dX12_bitsOf_44 (of_decide_eq_true g7) ?_
    refine lv_lmul hx hb dX12_bitsOf_45 ?_
    refine lv_topl (fun y8 e9 => ?_)
    have h := lt_at e9 h
    refine lv_lstore (lv' := [(7, .long y8), (5, .long y5), (3, .long y2), (0, .int x0), (1, .int x1), (2, .int x2)]) hx hb dX12_bitsOf_46 hl (by decide) rfl (fun ls hl => ?_)
    refine lv_lload hx hb dX12_bitsOf_48 (lv_at hl 0 rfl) ?_
    refine lv_iload_n hx hb dX12_bitsOf_50 rfl (lv_at hl 4 rfl) ?_
    refine lv_i2l hx hb dX12_bitsOf_51 rfl ?_
    refine W.lcmp hx hb dX12_bitsOf_52 ?_
    refine lv_if_gt (tgt := 75) hx hb dX12_bitsOf_53 (by decide) (fun c10 => ?_) (fun c10 => ?_)
    · have h := it_pos h c10
      exact w_X12_bitsOf_75 O hr hlk _ _ _ h _ _ _ hH (lv_sub hl [5, 1] rfl)
    · have h := it_neg h c10
      refine lv_lload hx hb dX12_bitsOf_56 (lv_at hl 0 rfl) ?_
      refine lv_iload_n hx hb dX12_bitsOf_58 rfl (lv_at hl 4 rfl) ?_
      refine lv_i2l hx hb dX12_bitsOf_59 rfl ?_
      refine W.lcmp hx hb dX12_bitsOf_60 ?_
      refine lv_if_ne (tgt := 81) hx hb dX12_bitsOf_61 (by decide) (fun c11 => ?_) (fun c11 => ?_)
      · have h := it_neg h c11
        exact w_X12_bitsOf_81 O hr hlk _ _ _ h _ _ _ hH (lv_sub hl [5, 1] rfl)
      · have h := it_pos h c11
        refine lv_lload hx hb dX12_bitsOf_64 (lv_at hl 1 rfl) ?_
        refine lv_ldc2 (v := 2) hx hb hown (hts _ ww_1495) dX12_bitsOf_66 ?_
        obtain ⟨g12, h⟩ := gd_some h
        refine lv_lrem hx hb dX12_bitsOf_69 (of_decide_eq_true g12) ?_
        refine lv_lconst (v := 1) hx hb dX12_bitsOf_70 (by decide) ?_
        refine W.lcmp hx hb dX12_bitsOf_71 ?_
        refine lv_if_ne (tgt := 81) hx hb dX12_bitsOf_72 (by decide) (fun c13 => ?_) (fun c13 => ?_)
        · have h := it_neg h c13
          exact w_X12_bitsOf_81 O hr hlk _ _ _ h _ _ _ hH (lv_sub hl [5, 1] rfl)
        · have h := it_pos h c13
          exact w_X12_bitsOf_75 O hr hlk _ _ _ h _ _ _ hH (lv_sub hl [5, 1] rfl)
  · have h := it_neg h c1
    obtain ⟨y14, e15, h⟩ := lt_some h
    refine lv_iinc (v := y14) (lv' := [(2, .int y14), (0, .int x0), (1, .int x1)]) hx hb dX12_bitsOf_18 hl (k := 2) rfl (by rw [e15]; rfl) (by decide) rfl (fun ls hl => ?_)
    refine lv_goto (tgt := 8) hx hb dX12_bitsOf_21 (by decide) ?_
    exact hk8 _ _ _ _ h _ _ _ hH (lv_sub hl [1, 2, 0] rfl)
set_option maxHeartbeats 4000000 in
theorem w_X12_bitsOf_8 {G : va_G} {tA : Nat → ClassId} {z : Nat} {E : Ex} {p : Program} {l : Launch} {e : Env} {s : State} {m : MethodId} {args : Array Value} {below : List Frame} {meth : Method} {c : Code} {r : Int32} {D' : Dm} (O : Ok G tA z E cX12_bitsOf RX12 9 p s m args c) (hr : meth.sig.returnType = some .int) (hlk : meth.locks = false) : ∀ (n : Nat) (x0 : Int32) (x1 : Int32) (x2 : Int32) (D : Dm) (h : f_X12_bitsOf_8 n x0 x1 x2 D = some (r, D')), BI G tA z E p l e (rmC 1 0 0) s m args below meth c LAY D r D' 9 8 [(0, .int x0), (1, .int x1), (2, .int x2)] [] := by
  intro n
  induction n with
  | zero => intro x0 x1 x2 D h; exact no_some h
  | succ n ih => intro x0 x1 x2 D h; exact w_X12_bitsOf_8_b O hr hlk (fun x0 x1 x2 D h => ih x0 x1 x2 D h) x0 x1 x2 D h
set_option maxHeartbeats 4000000 in
theorem w_X12_bitsOf {G : va_G} {tA : Nat → ClassId} {z : Nat} {E : Ex} {p : Program} {l : Launch} {e : Env} {s : State} {m : MethodId} {args : Array Value} {below : List Frame} {meth : Method} {c : Code} {r : Int32} {D' : Dm} (O : Ok G tA z E cX12_bitsOf RX12 9 p s m args c) (hr : meth.sig.returnType = some .int) (hlk : meth.locks = false) (x0 : Int32) (x1 : Int32) (D : Dm) (h : f_X12_bitsOf x0 x1 D = some (r, D')) : BI G tA z E p l e (rmC 1 0 0) s m args below meth c LAY D r D' 9 0 [(0, .int x0), (1, .int x1)] [] := by
  obtain ⟨hx, hb, -, hown, hts, -⟩ := id O
  unfold f_X12_bitsOf at h
  intro H locs ls hH hl
  refine lv_iload_n hx hb dX12_bitsOf_0 rfl (lv_at hl 0 rfl) ?_
  refine lv_if_ne (tgt := 6) hx hb dX12_bitsOf_1 (by decide) (fun c1 => ?_) (fun c1 => ?_)
  · have h := it_neg h c1
    refine lv_iconst (v := 0) hx hb dX12_bitsOf_6 (by decide) ?_
    refine lv_istore_n (lv' := [(2, .int 0), (0, .int x0), (1, .int x1)]) hx hb dX12_bitsOf_7 rfl hl (by decide) rfl (fun ls hl => ?_)
    exact w_X12_bitsOf_8 O hr hlk FU _ _ _ _ h _ _ _ hH (lv_sub hl [1, 2, 0] rfl)
  · have h := it_pos h c1
    refine lv_iconst (v := 0) hx hb dX12_bitsOf_4 (by decide) ?_
    obtain ⟨rfl, rfl⟩ := ret_i h
    exact h_iret O hr hlk hH dX12_bitsOf_5
set_option maxHeartbeats 4000000 in
theorem c_X12_bitsOf {l : Launch} {G : va_G} {tA : Nat → ClassId} {z : Nat} {E : Ex} {x0 : Int32} {x1 : Int32} {D D' : Dm} {r : Int32} (h : f_X12_bitsOf x0 x1 D = some (r, D')) : CtI l yX12_bitsOf cX12_bitsOf 9 (some .int) G tA z E 1 0 0 [.int x0, .int x1] LAY D r LAY D' :=
  ct_BI (by decide +kernel) (Nat.le_of_ble_eq_true rfl) (fun _ _ _ _ _ _ _ _ O hr hlk => w_X12_bitsOf O hr hlk _ _ _ h)
set_option maxHeartbeats 4000000 in
theorem w_X12_share {G : va_G} {tA : Nat → ClassId} {z : Nat} {E : Ex} {p : Program} {l : Launch} {e : Env} {s : State} {m : MethodId} {args : Array Value} {below : List Frame} {meth : Method} {c : Code} {r : Int32} {D' : Dm} (O : Ok G tA z E cX12_share RX12 4 p s m args c) (hr : meth.sig.returnType = some .int) (hlk : meth.locks = false) (x1 : Int32) (x2 : Int32) (D : Dm) (h : f_X12_share x1 x2 D = some (r, D')) : BI G tA z E p l e (rmC 22 0 0) s m args below meth c LAY D r D' 4 0 [(0, .ref (z + 281)), (1, .int x1), (2, .int x2)] [] := by
  obtain ⟨hx, hb, -, hown, hts, -⟩ := id O
  unfold f_X12_share at h
  intro H locs ls hH hl
  refine lv_aload_n hx hb dX12_share_0 rfl (lv_at hl 0 rfl) ?_
  refine lv_iconst (v := 0) hx hb dX12_share_1 (by decide) ?_
  obtain ⟨D1, e2, h⟩ := lt_some h
  refine h_puti O hH ly_281 rfl fl_X12_1 e2 dX12_share_2 (fun H locs hH => ?_)
  refine lv_aload_n hx hb dX12_share_5 rfl (lv_at hl 0 rfl) ?_
  refine lv_iload_n hx hb dX12_share_6 rfl (lv_at hl 1 rfl) ?_
  refine lv_iload_n hx hb dX12_share_7 rfl (lv_at hl 2 rfl) ?_
  obtain ⟨y5, D3, hc4, h⟩ := bI_some h
  refine h_callVi (As := [.int x1, .int x2]) (rest := []) O hH (c_X12_laysCounts hc4) ml_X12_299 ly_281 rfl rfl hl.1 rfl ⟨Nat.le_of_ble_eq_true rfl, Nat.le_of_ble_eq_true rfl⟩ (Nat.le_of_ble_eq_true rfl) dX12_share_8 (fun H locs hH => ?_)
  refine lv_istore_n (lv' := [(3, .int y5), (0, .ref (z + 281)), (1, .int x1), (2, .int x2)]) hx hb dX12_share_11 rfl hl (by decide) rfl (fun ls hl => ?_)
  refine lv_iload_n hx hb dX12_share_12 rfl (lv_at hl 0 rfl) ?_
  refine lv_if_ge (tgt := 20) hx hb dX12_share_13 (by decide) (fun c6 => ?_) (fun c6 => ?_)
  · have h := it_pos h c6
    refine lv_aload_n hx hb dX12_share_20 rfl (lv_at hl 1 rfl) ?_
    refine h_geti O hH ly_281 rfl fl_X12_291 dX12_share_21 ?_
    refine lv_aload_n hx hb dX12_share_24 rfl (lv_at hl 1 rfl) ?_
    refine h_geti O hH ly_281 rfl fl_X12_288 dX12_share_25 ?_
    obtain ⟨y9, D7, hc8, h⟩ := bI_some h
    refine h_callSi (As := [.int (D3 281 20), .int (D3 281 19)]) (rest := []) O hH (c_X12_bitsOf hc8) ml_X12_304 rfl hl.1 rfl ⟨Nat.le_of_ble_eq_true rfl, Nat.le_of_ble_eq_true rfl⟩ (Nat.le_of_ble_eq_true rfl) dX12_share_28 (fun H locs hH => ?_)
    obtain ⟨rfl, rfl⟩ := ret_i h
    exact h_iret O hr hlk hH dX12_share_31
  · have h := it_neg h c6
    refine lv_iload_n hx hb dX12_share_16 rfl (lv_at hl 0 rfl) ?_
    refine lv_goto (tgt := 31) hx hb dX12_share_17 (by decide) ?_
    obtain ⟨rfl, rfl⟩ := ret_i h
    exact h_iret O hr hlk hH dX12_share_31
set_option maxHeartbeats 4000000 in
theorem c_X12_share {l : Launch} {G : va_G} {tA : Nat → ClassId} {z : Nat} {E : Ex} {x1 : Int32} {x2 : Int32} {D D' : Dm} {r : Int32} (h : f_X12_share x1 x2 D = some (r, D')) : CtI l yX12_share cX12_share 4 (some .int) G tA z E 22 0 0 [.ref (z + 281), .int x1, .int x2] LAY D r LAY D' :=
  ct_BI (by decide +kernel) (Nat.le_of_ble_eq_true rfl) (fun _ _ _ _ _ _ _ _ O hr hlk => w_X12_share O hr hlk _ _ _ h)
set_option maxHeartbeats 4000000 in
theorem w_X12_leastOf_87 {G : va_G} {tA : Nat → ClassId} {z : Nat} {E : Ex} {p : Program} {l : Launch} {e : Env} {s : State} {m : MethodId} {args : Array Value} {below : List Frame} {meth : Method} {c : Code} {r : Int32} {D' : Dm} {dd : Nat} (hdd : 1 ≤ dd) (O : Ok G tA z E cX12_leastOf RX12 6 p s m args c) (hr : meth.sig.returnType = some .int) (hlk : meth.locks = false) {self : Int32 → Dm → Option (Int32 × Dm)} (hself : ∀ (x1 : Int32) (D1 D2 : Dm) (r1 : Int32), self x1 D1 = some (r1, D2) → CtI l yX12_leastOf cX12_leastOf 6 (some .int) G tA z E dd 0 0 [.ref (z + 281), .int x1] LAY D1 r1 LAY D2) {k4 : Int32 → Int32 → Int32 → Dm → Option (Int32 × Dm)} (hk4 : ∀ (x1 : Int32) (x2 : Int32) (x3 : Int32) (D : Dm), k4 x1 x2 x3 D = some (r, D') → BI G tA z E p l e (rmC (dd + 1) 0 0) s m args below meth c LAY D r D' 6 4 [(0, .ref (z + 281)), (1, .int x1), (2, .int x2), (3, .int x3)] []) (x1 : Int32) (x3 : Int32) (xs0 : Int32) (xs1 : Int32) (D : Dm) (h : f_X12_leastOf_87 self k4 x1 x3 xs0 xs1 D = some (r, D')) : BI G tA z E p l e (rmC (dd + 1) 0 0) s m args below meth c LAY D r D' 6 87 [(0, .ref (z + 281)), (1, .int x1), (3, .int x3)] [.int xs0, .int xs1] := by
  obtain ⟨hx, hb, -, hown, hts, -⟩ := id O
  unfold f_X12_leastOf_87 at h
  intro H locs ls hH hl
  refine lv_iadd hx hb dX12_leastOf_87 ?_
  refine lv_topi (fun y1 e2 => ?_)
  have h := lt_at e2 h
  refine lv_istore_n (lv' := [(2, .int y1), (0, .ref (z + 281)), (1, .int x1), (3, .int x3)]) hx hb dX12_leastOf_88 rfl hl (by decide) rfl (fun ls hl => ?_)
  obtain ⟨y3, e4, h⟩ := lt_some h
  refine lv_iinc (v := y3) (lv' := [(3, .int y3), (2, .int y1), (0, .ref (z + 281)), (1, .int x1)]) hx hb dX12_leastOf_89 hl (k := 3) rfl (by rw [e4]; rfl) (by decide) rfl (fun ls hl => ?_)
  refine lv_goto (tgt := 4) hx hb dX12_leastOf_92 (by decide) ?_
  exact hk4 _ _ _ _ h _ _ _ hH (lv_sub hl [2, 3, 1, 0] rfl)
set_option maxHeartbeats 4000000 in
theorem w_X12_leastOf_68 {G : va_G} {tA : Nat → ClassId} {z : Nat} {E : Ex} {p : Program} {l : Launch} {e : Env} {s : State} {m : MethodId} {args : Array Value} {below : List Frame} {meth : Method} {c : Code} {r : Int32} {D' : Dm} {dd : Nat} (hdd : 1 ≤ dd) (O : Ok G tA z E cX12_leastOf RX12 6 p s m args c) (hr : meth.sig.returnType = some .int) (hlk : meth.locks = false) {self : Int32 → Dm → Option (Int32 × Dm)} (hself : ∀ (x1 : Int32) (D1 D2 : Dm) (r1 : Int32), self x1 D1 = some (r1, D2) → CtI l yX12_leastOf cX12_leastOf 6 (some .int) G tA z E dd 0 0 [.ref (z + 281), .int x1] LAY D1 r1 LAY D2) {k4 : Int32 → Int32 → Int32 → Dm → Option (Int32 × Dm)} (hk4 : ∀ (x1 : Int32) (x2 : Int32) (x3 : Int32) (D : Dm), k4 x1 x2 x3 D = some (r, D') → BI G tA z E p l e (rmC (dd + 1) 0 0) s m args below meth c LAY D r D' 6 4 [(0, .ref (z + 281)), (1, .int x1), (2, .int x2), (3, .int x3)] []) {k36 : Int32 → Int32 → Int32 → Int32 → Int32 → Dm → Option (Int32 × Dm)} (hk36 : ∀ (x1 : Int32) (x2 : Int32) (x3 : Int32) (x4 : Int32) (x5 : Int32) (D : Dm), k36 x1 x2 x3 x4 x5 D = some (r, D') → BI G tA z E p l e (rmC (dd + 1) 0 0) s m args below meth c LAY D r D' 6 36 [(0, .ref (z + 281)), (1, .int x1), (2, .int x2), (3, .int x3), (4, .int x4), (5, .int x5)] []) (x1 : Int32) (x2 : Int32) (x3 : Int32) (x5 : Int32) (xs0 : Int32) (D : Dm) (h : f_X12_leastOf_68 self k4 k36 x1 x2 x3 x5 xs0 D = some (r, D')) : BI G tA z E p l e (rmC (dd + 1) 0 0) s m args below meth c LAY D r D' 6 68 [(0, .ref (z + 281)), (1, .int x1), (2, .int x2), (3, .int x3), (5, .int x5)] [.int xs0] := by
  obtain ⟨hx, hb, -, hown, hts, -⟩ := id O
  unfold f_X12_leastOf_68 at h
  intro H locs ls hH hl
  refine lv_istore (lv' := [(4, .int xs0), (0, .ref (z + 281)), (1, .int x1), (2, .int x2), (3, .int x3), (5, .int x5)]) hx hb dX12_leastOf_68 hl (by decide) rfl (fun ls hl => ?_)
  obtain ⟨y1, e2, h⟩ := lt_some h
  refine lv_iinc (v := y1) (lv' := [(5, .int y1), (4, .int xs0), (0, .ref (z + 281)), (1, .int x1), (2, .int x2), (3, .int x3)]) hx hb dX12_leastOf_70 hl (k := 5) rfl (by rw [e2]; rfl) (by decide) rfl (fun ls hl => ?_)
  refine lv_goto (tgt := 36) hx hb dX12_leastOf_73 (by decide) ?_
  exact hk36 _ _ _ _ _ _ h _ _ _ hH (lv_sub hl [2, 3, 4, 5, 1, 0] rfl)
set_option maxHeartbeats 4000000 in
theorem w_X12_leastOf_67 {G : va_G} {tA : Nat → ClassId} {z : Nat} {E : Ex} {p : Program} {l : Launch} {e : Env} {s : State} {m : MethodId} {args : Array Value} {below : List Frame} {meth : Method} {c : Code} {r : Int32} {D' : Dm} {dd : Nat} (hdd : 1 ≤ dd) (O : Ok G tA z E cX12_leastOf RX12 6 p s m args c) (hr : meth.sig.returnType = some .int) (hlk : meth.locks = false) {self : Int32 → Dm → Option (Int32 × Dm)} (hself : ∀ (x1 : Int32) (D1 D2 : Dm) (r1 : Int32), self x1 D1 = some (r1, D2) → CtI l yX12_leastOf cX12_leastOf 6 (some .int) G tA z E dd 0 0 [.ref (z + 281), .int x1] LAY D1 r1 LAY D2) {k4 : Int32 → Int32 → Int32 → Dm → Option (Int32 × Dm)} (hk4 : ∀ (x1 : Int32) (x2 : Int32) (x3 : Int32) (D : Dm), k4 x1 x2 x3 D = some (r, D') → BI G tA z E p l e (rmC (dd + 1) 0 0) s m args below meth c LAY D r D' 6 4 [(0, .ref (z + 281)), (1, .int x1), (2, .int x2), (3, .int x3)] []) {k36 : Int32 → Int32 → Int32 → Int32 → Int32 → Dm → Option (Int32 × Dm)} (hk36 : ∀ (x1 : Int32) (x2 : Int32) (x3 : Int32) (x4 : Int32) (x5 : Int32) (D : Dm), k36 x1 x2 x3 x4 x5 D = some (r, D') → BI G tA z E p l e (rmC (dd + 1) 0 0) s m args below meth c LAY D r D' 6 36 [(0, .ref (z + 281)), (1, .int x1), (2, .int x2), (3, .int x3), (4, .int x4), (5, .int x5)] []) (x1 : Int32) (x2 : Int32) (x3 : Int32) (x5 : Int32) (D : Dm) (h : f_X12_leastOf_67 self k4 k36 x1 x2 x3 x5 D = some (r, D')) : BI G tA z E p l e (rmC (dd + 1) 0 0) s m args below meth c LAY D r D' 6 67 [(0, .ref (z + 281)), (1, .int x1), (2, .int x2), (3, .int x3), (5, .int x5)] [] := by
  obtain ⟨hx, hb, -, hown, hts, -⟩ := id O
  unfold f_X12_leastOf_67 at h
  intro H locs ls hH hl
  refine lv_iconst (v := 0) hx hb dX12_leastOf_67 (by decide) ?_
  exact w_X12_leastOf_68 hdd O hr hlk hself hk4 hk36 _ _ _ _ _ _ h _ _ _ hH (lv_sub hl [0, 1, 2, 3, 4] rfl)
set_option maxHeartbeats 4000000 in
theorem w_X12_leastOf_36_b {G : va_G} {tA : Nat → ClassId} {z : Nat} {E : Ex} {p : Program} {l : Launch} {e : Env} {s : State} {m : MethodId} {args : Array Value} {below : List Frame} {meth : Method} {c : Code} {r : Int32} {D' : Dm} {dd : Nat} (hdd : 1 ≤ dd) (O : Ok G tA z E cX12_leastOf RX12 6 p s m args c) (hr : meth.sig.returnType = some .int) (hlk : meth.locks = false) {self : Int32 → Dm → Option (Int32 × Dm)} (hself : ∀ (x1 : Int32) (D1 D2 : Dm) (r1 : Int32), self x1 D1 = some (r1, D2) → CtI l yX12_leastOf cX12_leastOf 6 (some .int) G tA z E dd 0 0 [.ref (z + 281), .int x1] LAY D1 r1 LAY D2) {k4 : Int32 → Int32 → Int32 → Dm → Option (Int32 × Dm)} (hk4 : ∀ (x1 : Int32) (x2 : Int32) (x3 : Int32) (D : Dm), k4 x1 x2 x3 D = some (r, D') → BI G tA z E p l e (rmC (dd + 1) 0 0) s m args below meth c LAY D r D' 6 4 [(0, .ref (z + 281)), (1, .int x1), (2, .int x2), (3, .int x3)] []) {k36 : Int32 → Int32 → Int32 → Int32 → Int32 → Dm → Option (Int32 × Dm)} (hk36 : ∀ (x1 : Int32) (x2 : Int32) (x3 : Int32) (x4 : Int32) (x5 : Int32) (D : Dm), k36 x1 x2 x3 x4 x5 D = some (r, D') → BI G tA z E p l e (rmC (dd + 1) 0 0) s m args below meth c LAY D r D' 6 36 [(0, .ref (z + 281)), (1, .int x1), (2, .int x2), (3, .int x3), (4, .int x4), (5, .int x5)] []) (x1 : Int32) (x2 : Int32) (x3 : Int32) (x4 : Int32) (x5 : Int32) (D : Dm) (h : f_X12_leastOf_36_b self k4 k36 x1 x2 x3 x4 x5 D = some (r, D')) : BI G tA z E p l e (rmC (dd + 1) 0 0) s m args below meth c LAY D r D' 6 36 [(0, .ref (z + 281)), (1, .int x1), (2, .int x2), (3, .int x3), (4, .int x4), (5, .int x5)] [] := by
  obtain ⟨hx, hb, -, hown, hts, -⟩ := id O
  unfold f_X12_leastOf_36_b at h
  intro H locs ls hH hl
  refine lv_iload hx hb dX12_leastOf_36 (lv_at hl 5 rfl) ?_
  refine lv_iload_n hx hb dX12_leastOf_38 rfl (lv_at hl 3 rfl) ?_
  refine lv_icmp_ge (tgt := 76) hx hb dX12_leastOf_39 (by decide) (fun c1 => ?_) (fun c1 => ?_)
  · have h := it_pos h c1
    refine lv_iload_n hx hb dX12_leastOf_76 rfl (lv_at hl 2 rfl) ?_
    refine lv_iload hx hb dX12_leastOf_77 (lv_at hl 4 rfl) ?_
    refine lv_if_eq (tgt := 86) hx hb dX12_leastOf_79 (by decide) (fun c2 => ?_) (fun c2 => ?_)
    · have h := it_pos h c2
      refine lv_iconst (v := 0) hx hb dX12_leastOf_86 (by decide) ?_
      exact w_X12_leastOf_87 hdd O hr hlk hself hk4 _ _ _ _ _ h _ _ _ hH (lv_sub hl [0, 1, 3] rfl)
    · have h := it_neg h c2
      refine lv_iconst (v := 1) hx hb dX12_leastOf_82 (by decide) ?_
      refine lv_goto (tgt := 87) hx hb dX12_leastOf_83 (by decide) ?_
      exact w_X12_leastOf_87 hdd O hr hlk hself hk4 _ _ _ _ _ h _ _ _ hH (lv_sub hl [0, 1, 3] rfl)
  · have h := it_neg h c1
    refine lv_iload hx hb dX12_leastOf_42 (lv_at hl 4 rfl) ?_
    refine lv_if_eq (tgt := 67) hx hb dX12_leastOf_44 (by decide) (fun c3 => ?_) (fun c3 => ?_)
    · have h := it_pos h c3
      exact w_X12_leastOf_67 hdd O hr hlk hself hk4 hk36 _ _ _ _ _ h _ _ _ hH (lv_sub hl [0, 1, 2, 3, 5] rfl)
    · have h := it_neg h c3
      refine lv_aload_n hx hb dX12_leastOf_47 rfl (lv_at hl 0 rfl) ?_
      refine h_getr O hH ly_281 rfl fl_X12_30 dX12_leastOf_48 ?_
      refine lv_iload hx hb dX12_leastOf_51 (lv_at hl 5 rfl) ?_
      obtain ⟨g4, h⟩ := gd_some h
      refine h_iald O hH ly_286 g4 dX12_leastOf_53 ?_
      refine lv_aload_n hx hb dX12_leastOf_54 rfl (lv_at hl 0 rfl) ?_
      refine h_getr O hH ly_281 rfl fl_X12_30 dX12_leastOf_55 ?_
      refine lv_iload_n hx hb dX12_leastOf_58 rfl (lv_at hl 3 rfl) ?_
      obtain ⟨g5, h⟩ := gd_some h
      refine h_iald O hH ly_286 g5 dX12_leastOf_59 ?_
      refine lv_icmp_eq (tgt := 67) hx hb dX12_leastOf_60 (by decide) (fun c6 => ?_) (fun c6 => ?_)
      · have h := it_pos h c6
        exact w_X12_leastOf_67 hdd O hr hlk hself hk4 hk36 _ _ _ _ _ h _ _ _ hH (lv_sub hl [0, 1, 2, 3, 5] rfl)
      · have h := it_neg h c6
        refine lv_iconst (v := 1) hx hb dX12_leastOf_63 (by decide) ?_
        refine lv_goto (tgt := 68) hx hb dX12_leastOf_64 (by decide) ?_
        exact w_X12_leastOf_68 hdd O hr hlk hself hk4 hk36 _ _ _ _ _ _ h _ _ _ hH (lv_sub hl [0, 1, 2, 3, 5] rfl)
set_option maxHeartbeats 4000000 in
theorem w_X12_leastOf_36 {G : va_G} {tA : Nat → ClassId} {z : Nat} {E : Ex} {p : Program} {l : Launch} {e : Env} {s : State} {m : MethodId} {args : Array Value} {below : List Frame} {meth : Method} {c : Code} {r : Int32} {D' : Dm} {dd : Nat} (hdd : 1 ≤ dd) (O : Ok G tA z E cX12_leastOf RX12 6 p s m args c) (hr : meth.sig.returnType = some .int) (hlk : meth.locks = false) {self : Int32 → Dm → Option (Int32 × Dm)} (hself : ∀ (x1 : Int32) (D1 D2 : Dm) (r1 : Int32), self x1 D1 = some (r1, D2) → CtI l yX12_leastOf cX12_leastOf 6 (some .int) G tA z E dd 0 0 [.ref (z + 281), .int x1] LAY D1 r1 LAY D2) {k4 : Int32 → Int32 → Int32 → Dm → Option (Int32 × Dm)} (hk4 : ∀ (x1 : Int32) (x2 : Int32) (x3 : Int32) (D : Dm), k4 x1 x2 x3 D = some (r, D') → BI G tA z E p l e (rmC (dd + 1) 0 0) s m args below meth c LAY D r D' 6 4 [(0, .ref (z + 281)), (1, .int x1), (2, .int x2), (3, .int x3)] []) : ∀ (n : Nat) (x1 : Int32) (x2 : Int32) (x3 : Int32) (x4 : Int32) (x5 : Int32) (D : Dm) (h : f_X12_leastOf_36 self k4 n x1 x2 x3 x4 x5 D = some (r, D')), BI G tA z E p l e (rmC (dd + 1) 0 0) s m args below meth c LAY D r D' 6 36 [(0, .ref (z + 281)), (1, .int x1), (2, .int x2), (3, .int x3), (4, .int x4), (5, .int x5)] [] := by
  intro n
  induction n with
  | zero => intro x1 x2 x3 x4 x5 D h; exact no_some h
  | succ n ih => intro x1 x2 x3 x4 x5 D h; exact w_X12_leastOf_36_b hdd O hr hlk hself hk4 (fun x1 x2 x3 x4 x5 D h => ih x1 x2 x3 x4 x5 D h) x1 x2 x3 x4 x5 D h
set_option maxHeartbeats 4000000 in
theorem w_X12_leastOf_4_b {G : va_G} {tA : Nat → ClassId} {z : Nat} {E : Ex} {p : Program} {l : Launch} {e : Env} {s : State} {m : MethodId} {args : Array Value} {below : List Frame} {meth : Method} {c : Code} {r : Int32} {D' : Dm} {dd : Nat} (hdd : 1 ≤ dd) (O : Ok G tA z E cX12_leastOf RX12 6 p s m args c) (hr : meth.sig.returnType = some .int) (hlk : meth.locks = false) {self : Int32 → Dm → Option (Int32 × Dm)} (hself : ∀ (x1 : Int32) (D1 D2 : Dm) (r1 : Int32), self x1 D1 = some (r1, D2) → CtI l yX12_leastOf cX12_leastOf 6 (some .int) G tA z E dd 0 0 [.ref (z + 281), .int x1] LAY D1 r1 LAY D2) {k4 : Int32 → Int32 → Int32 → Dm → Option (Int32 × Dm)} (hk4 : ∀ (x1 : Int32) (x2 : Int32) (x3 : Int32) (D : Dm), k4 x1 x2 x3 D = some (r, D') → BI G tA z E p l e (rmC (dd + 1) 0 0) s m args below meth c LAY D r D' 6 4 [(0, .ref (z + 281)), (1, .int x1), (2, .int x2), (3, .int x3)] []) (x1 : Int32) (x2 : Int32) (x3 : Int32) (D : Dm) (h : f_X12_leastOf_4_b self k4 x1 x2 x3 D = some (r, D')) : BI G tA z E p l e (rmC (dd + 1) 0 0) s m args below meth c LAY D r D' 6 4 [(0, .ref (z + 281)), (1, .int x1), (2, .int x2), (3, .int x3)] [] := by
  obtain ⟨hx, hb, -, hown, hts, -⟩ := id O
  unfold f_X12_leastOf_4_b at h
  intro H locs ls hH hl
  refine lv_iload_n hx hb dX12_leastOf_4 rfl (lv_at hl 3 rfl) ?_
  refine lv_iload_n hx hb dX12_leastOf_5 rfl (lv_at hl 1 rfl) ?_
  refine lv_icmp_ge (tgt := 95) hx hb dX12_leastOf_6 (by decide) (fun c1 => ?_) (fun c1 => ?_)
  · have h := it_pos h c1
    refine lv_iload_n hx hb dX12_leastOf_95 rfl (lv_at hl 2 rfl) ?_
    obtain ⟨rfl, rfl⟩ := ret_i h
    exact h_iret O hr hlk hH dX12_leastOf_96
  · have h := it_neg h c1
    refine lv_aload_n hx hb dX12_leastOf_9 rfl (lv_at hl 0 rfl) ?_
    refine h_getr O hH ly_281 rfl fl_X12_30 dX12_leastOf_10 ?_
    refine lv_iload_n hx hb dX12_leastOf_13 rfl (lv_at hl 3 rfl) ?_
    obtain ⟨g2, h⟩ := gd_some h
    refine h_iald O hH ly_286 g2 dX12_leastOf_14 ?_
    refine lv_aload_n hx hb dX12_leastOf_15 rfl (lv_at hl 0 rfl) ?_
    refine h_getr O hH ly_281 rfl fl_X12_30 dX12_leastOf_16 ?_
    refine lv_iload_n hx hb dX12_leastOf_19 rfl (lv_at hl 1 rfl) ?_
    obtain ⟨g3, h⟩ := gd_some h
    refine h_iald O hH ly_286 g3 dX12_leastOf_20 ?_
    refine lv_icmp_ne (tgt := 30) hx hb dX12_leastOf_21 (by decide) (fun c4 => ?_) (fun c4 => ?_)
    · have h := it_neg h c4
      refine lv_iconst (v := 1) hx hb dX12_leastOf_30 (by decide) ?_
      refine lv_istore (lv' := [(4, .int 1), (0, .ref (z + 281)), (1, .int x1), (2, .int x2), (3, .int x3)]) hx hb dX12_leastOf_31 hl (by decide) rfl (fun ls hl => ?_)
      refine lv_iconst (v := 0) hx hb dX12_leastOf_33 (by decide) ?_
      refine lv_istore (lv' := [(5, .int 0), (4, .int 1), (0, .ref (z + 281)), (1, .int x1), (2, .int x2), (3, .int x3)]) hx hb dX12_leastOf_34 hl (by decide) rfl (fun ls hl => ?_)
      exact w_X12_leastOf_36 hdd O hr hlk hself hk4 FU _ _ _ _ _ _ h _ _ _ hH (lv_sub hl [2, 3, 4, 5, 1, 0] rfl)
    · have h := it_pos h c4
      refine lv_aload_n hx hb dX12_leastOf_24 rfl (lv_at hl 0 rfl) ?_
      refine lv_iload_n hx hb dX12_leastOf_25 rfl (lv_at hl 3 rfl) ?_
      obtain ⟨y7, D5, hc6, h⟩ := bI_some h
      refine h_callVi (As := [.int x3]) (rest := []) O hH (hself _ _ _ _ hc6) ml_X12_307 ly_281 rfl rfl hl.1 rfl ⟨by show _ ≤ dd + 1; omega, by show _ ≤ 64 * (dd + 1); omega⟩ (Nat.le_of_ble_eq_true rfl) dX12_leastOf_26 (fun H locs hH => ?_)
      obtain ⟨rfl, rfl⟩ := ret_i h
      exact h_iret O hr hlk hH dX12_leastOf_29
set_option maxHeartbeats 4000000 in
theorem w_X12_leastOf_4 {G : va_G} {tA : Nat → ClassId} {z : Nat} {E : Ex} {p : Program} {l : Launch} {e : Env} {s : State} {m : MethodId} {args : Array Value} {below : List Frame} {meth : Method} {c : Code} {r : Int32} {D' : Dm} {dd : Nat} (hdd : 1 ≤ dd) (O : Ok G tA z E cX12_leastOf RX12 6 p s m args c) (hr : meth.sig.returnType = some .int) (hlk : meth.locks = false) {self : Int32 → Dm → Option (Int32 × Dm)} (hself : ∀ (x1 : Int32) (D1 D2 : Dm) (r1 : Int32), self x1 D1 = some (r1, D2) → CtI l yX12_leastOf cX12_leastOf 6 (some .int) G tA z E dd 0 0 [.ref (z + 281), .int x1] LAY D1 r1 LAY D2) : ∀ (n : Nat) (x1 : Int32) (x2 : Int32) (x3 : Int32) (D : Dm) (h : f_X12_leastOf_4 self n x1 x2 x3 D = some (r, D')), BI G tA z E p l e (rmC (dd + 1) 0 0) s m args below meth c LAY D r D' 6 4 [(0, .ref (z + 281)), (1, .int x1), (2, .int x2), (3, .int x3)] [] := by
  intro n
  induction n with
  | zero => intro x1 x2 x3 D h; exact no_some h
  | succ n ih => intro x1 x2 x3 D h; exact w_X12_leastOf_4_b hdd O hr hlk hself (fun x1 x2 x3 D h => ih x1 x2 x3 D h) x1 x2 x3 D h
set_option maxHeartbeats 4000000 in
theorem w_X12_leastOf {G : va_G} {tA : Nat → ClassId} {z : Nat} {E : Ex} {p : Program} {l : Launch} {e : Env} {s : State} {m : MethodId} {args : Array Value} {below : List Frame} {meth : Method} {c : Code} {r : Int32} {D' : Dm} {dd : Nat} (hdd : 1 ≤ dd) (O : Ok G tA z E cX12_leastOf RX12 6 p s m args c) (hr : meth.sig.returnType = some .int) (hlk : meth.locks = false) {self : Int32 → Dm → Option (Int32 × Dm)} (hself : ∀ (x1 : Int32) (D1 D2 : Dm) (r1 : Int32), self x1 D1 = some (r1, D2) → CtI l yX12_leastOf cX12_leastOf 6 (some .int) G tA z E dd 0 0 [.ref (z + 281), .int x1] LAY D1 r1 LAY D2) (x1 : Int32) (D : Dm) (h : f_X12_leastOf_e self x1 D = some (r, D')) : BI G tA z E p l e (rmC (dd + 1) 0 0) s m args below meth c LAY D r D' 6 0 [(0, .ref (z + 281)), (1, .int x1)] [] := by
  obtain ⟨hx, hb, -, hown, hts, -⟩ := id O
  unfold f_X12_leastOf_e at h
  intro H locs ls hH hl
  refine lv_iconst (v := 0) hx hb dX12_leastOf_0 (by decide) ?_
  refine lv_istore_n (lv' := [(2, .int 0), (0, .ref (z + 281)), (1, .int x1)]) hx hb dX12_leastOf_1 rfl hl (by decide) rfl (fun ls hl => ?_)
  refine lv_iconst (v := 0) hx hb dX12_leastOf_2 (by decide) ?_
  refine lv_istore_n (lv' := [(3, .int 0), (2, .int 0), (0, .ref (z + 281)), (1, .int x1)]) hx hb dX12_leastOf_3 rfl hl (by decide) rfl (fun ls hl => ?_)
  exact w_X12_leastOf_4 hdd O hr hlk hself FU _ _ _ _ h _ _ _ hH (lv_sub hl [2, 3, 1, 0] rfl)
set_option maxHeartbeats 4000000 in
theorem c_X12_leastOf_n {l : Launch} {G : va_G} {tA : Nat → ClassId} {z : Nat} {E : Ex} : ∀ (n : Nat) (x1 : Int32) (D D' : Dm) (r : Int32) , f_X12_leastOf n x1 D = some (r, D') → CtI l yX12_leastOf cX12_leastOf 6 (some .int) G tA z E (1 + n) 0 0 [.ref (z + 281), .int x1] LAY D r LAY D' := by
  intro n
  induction n with
  | zero => intro x1 D D' r h; exact no_some h
  | succ n ih => intro x1 D D' r h; exact ct_BI (by decide +kernel) (Nat.le_of_ble_eq_true rfl) (fun _ _ _ _ _ _ _ _ O hr hlk => w_X12_leastOf (dd := 1 + n) (by omega) O hr hlk ih x1 _ h)
set_option maxHeartbeats 4000000 in
theorem c_X12_leastOf {l : Launch} {G : va_G} {tA : Nat → ClassId} {z : Nat} {E : Ex} {x1 : Int32} {D D' : Dm} {r : Int32} (h : f_X12_leastOf RF x1 D = some (r, D')) : CtI l yX12_leastOf cX12_leastOf 6 (some .int) G tA z E (1 + RF) 0 0 [.ref (z + 281), .int x1] LAY D r LAY D' := c_X12_leastOf_n RF _ _ _ _ h
set_option maxHeartbeats 4000000 in
theorem w_X12_letter {G : va_G} {tA : Nat → ClassId} {z : Nat} {E : Ex} {p : Program} {l : Launch} {e : Env} {s : State} {m : MethodId} {args : Array Value} {below : List Frame} {meth : Method} {c : Code} {r : Int32} {D' : Dm} (O : Ok G tA z E cX12_letter RX12 3 p s m args c) (hr : meth.sig.returnType = some .int) (hlk : meth.locks = false) (x1 : Int32) (x2 : Int32) (D : Dm) (h : f_X12_letter x1 x2 D = some (r, D')) : BI G tA z E p l e (rmC 18 0 0) s m args below meth c LAY D r D' 3 0 [(0, .ref (z + 281)), (1, .int x1), (2, .int x2)] [] := by
  obtain ⟨hx, hb, -, hown, hts, -⟩ := id O
  unfold f_X12_letter at h
  intro H locs ls hH hl
  refine lv_aload_n hx hb dX12_letter_0 rfl (lv_at hl 0 rfl) ?_
  refine lv_iconst (v := 0) hx hb dX12_letter_1 (by decide) ?_
  obtain ⟨D1, e2, h⟩ := lt_some h
  refine h_puti O hH ly_281 rfl fl_X12_1 e2 dX12_letter_2 (fun H locs hH => ?_)
  refine lv_iload_n hx hb dX12_letter_5 rfl (lv_at hl 1 rfl) ?_
  refine lv_iconst (v := (-1)) hx hb dX12_letter_6 (by decide) ?_
  refine lv_icmp_ne (tgt := 24) hx hb dX12_letter_7 (by decide) (fun c3 => ?_) (fun c3 => ?_)
  · have h := it_neg h c3
    refine lv_iload_n hx hb dX12_letter_24 rfl (lv_at hl 1 rfl) ?_
    refine lv_i2l hx hb dX12_letter_25 rfl ?_
    refine lv_lconst (v := 0) hx hb dX12_letter_26 (by decide) ?_
    refine lv_aload_n hx hb dX12_letter_27 rfl (lv_at hl 0 rfl) ?_
    refine h_geti O hH ly_281 rfl fl_X12_259 dX12_letter_28 ?_
    refine lv_iconst (v := 1) hx hb dX12_letter_31 (by decide) ?_
    refine lv_isub hx hb dX12_letter_32 ?_
    refine lv_i2l hx hb dX12_letter_33 rfl ?_
    obtain ⟨y6, D4, hc5, h⟩ := bI_some h
    refine h_callSi (As := [.long (Int32.toInt64 x1), .long 0, .long (Int32.toInt64 ((D1 281 18) - 1))]) (rest := []) O hH (c_X12_isIn hc5) ml_X12_182 rfl hl.1 rfl ⟨Nat.le_of_ble_eq_true rfl, Nat.le_of_ble_eq_true rfl⟩ (Nat.le_of_ble_eq_true rfl) dX12_letter_34 (fun H locs hH => ?_)
    refine lv_if_eq (tgt := 52) hx hb dX12_letter_37 (by decide) (fun c7 => ?_) (fun c7 => ?_)
    · have h := it_pos h c7
      refine lv_bipush (v := (-2)) hx hb dX12_letter_52 (by decide) ?_
      obtain ⟨rfl, rfl⟩ := ret_i h
      exact h_iret O hr hlk hH dX12_letter_54
    · have h := it_neg h c7
      refine lv_iload_n hx hb dX12_letter_40 rfl (lv_at hl 2 rfl) ?_
      refine lv_i2l hx hb dX12_letter_41 rfl ?_
      refine lv_lconst (v := 0) hx hb dX12_letter_42 (by decide) ?_
      refine lv_ldc2 (v := 2) hx hb hown (hts _ ww_1495) dX12_letter_43 ?_
      obtain ⟨y10, D8, hc9, h⟩ := bI_some h
      refine h_callSi (As := [.long (Int32.toInt64 x2), .long 0, .long 2]) (rest := []) O hH (c_X12_isIn hc9) ml_X12_182 rfl hl.1 rfl ⟨Nat.le_of_ble_eq_true rfl, Nat.le_of_ble_eq_true rfl⟩ (Nat.le_of_ble_eq_true rfl) dX12_letter_46 (fun H locs hH => ?_)
      refine lv_if_ne (tgt := 55) hx hb dX12_letter_49 (by decide) (fun c11 => ?_) (fun c11 => ?_)
      · have h := it_neg h c11
        refine lv_iload_n hx hb dX12_letter_55 rfl (lv_at hl 2 rfl) ?_
        refine lv_if_ne (tgt := 68) hx hb dX12_letter_56 (by decide) (fun c12 => ?_) (fun c12 => ?_)
        · have h := it_neg h c12
          refine lv_iload_n hx hb dX12_letter_68 rfl (lv_at hl 2 rfl) ?_
          refine lv_iconst (v := 1) hx hb dX12_letter_69 (by decide) ?_
          refine lv_icmp_ne (tgt := 82) hx hb dX12_letter_70 (by decide) (fun c13 => ?_) (fun c13 => ?_)
          · have h := it_neg h c13
            refine lv_aload_n hx hb dX12_letter_82 rfl (lv_at hl 0 rfl) ?_
            refine lv_iload_n hx hb dX12_letter_83 rfl (lv_at hl 1 rfl) ?_
            obtain ⟨y16, D14, hc15, h⟩ := bI_some h
            refine h_callVi (As := [.int x1]) (rest := []) O hH (c_X12_leastOf hc15) ml_X12_307 ly_281 rfl rfl hl.1 rfl ⟨Nat.le_of_ble_eq_true rfl, Nat.le_of_ble_eq_true rfl⟩ (Nat.le_of_ble_eq_true rfl) dX12_letter_84 (fun H locs hH => ?_)
            obtain ⟨rfl, rfl⟩ := ret_i h
            exact h_iret O hr hlk hH dX12_letter_87
          · have h := it_pos h c13
            refine lv_aload_n hx hb dX12_letter_73 rfl (lv_at hl 0 rfl) ?_
            refine h_getr O hH ly_281 rfl fl_X12_30 dX12_letter_74 ?_
            refine lv_iload_n hx hb dX12_letter_77 rfl (lv_at hl 1 rfl) ?_
            obtain ⟨g17, h⟩ := gd_some h
            refine h_iald O hH ly_286 g17 dX12_letter_78 ?_
            refine lv_goto (tgt := 87) hx hb dX12_letter_79 (by decide) ?_
            obtain ⟨rfl, rfl⟩ := ret_i h
            exact h_iret O hr hlk hH dX12_letter_87
        · have h := it_pos h c12
          refine lv_aload_n hx hb dX12_letter_59 rfl (lv_at hl 0 rfl) ?_
          refine h_getr O hH ly_281 rfl fl_X12_27 dX12_letter_60 ?_
          refine lv_iload_n hx hb dX12_letter_63 rfl (lv_at hl 1 rfl) ?_
          obtain ⟨g18, h⟩ := gd_some h
          refine h_iald O hH ly_285 g18 dX12_letter_64 ?_
          refine lv_goto (tgt := 87) hx hb dX12_letter_65 (by decide) ?_
          obtain ⟨rfl, rfl⟩ := ret_i h
          exact h_iret O hr hlk hH dX12_letter_87
      · have h := it_pos h c11
        refine lv_bipush (v := (-2)) hx hb dX12_letter_52 (by decide) ?_
        obtain ⟨rfl, rfl⟩ := ret_i h
        exact h_iret O hr hlk hH dX12_letter_54
  · have h := it_pos h c3
    refine lv_iload_n hx hb dX12_letter_10 rfl (lv_at hl 2 rfl) ?_
    refine lv_if_ne (tgt := 21) hx hb dX12_letter_11 (by decide) (fun c19 => ?_) (fun c19 => ?_)
    · have h := it_neg h c19
      refine lv_bipush (v := (-2)) hx hb dX12_letter_21 (by decide) ?_
      obtain ⟨rfl, rfl⟩ := ret_i h
      exact h_iret O hr hlk hH dX12_letter_23
    · have h := it_pos h c19
      refine lv_aload_n hx hb dX12_letter_14 rfl (lv_at hl 0 rfl) ?_
      refine h_geti O hH ly_281 rfl fl_X12_259 dX12_letter_15 ?_
      refine lv_goto (tgt := 23) hx hb dX12_letter_18 (by decide) ?_
      obtain ⟨rfl, rfl⟩ := ret_i h
      exact h_iret O hr hlk hH dX12_letter_23
set_option maxHeartbeats 4000000 in
theorem c_X12_letter {l : Launch} {G : va_G} {tA : Nat → ClassId} {z : Nat} {E : Ex} {x1 : Int32} {x2 : Int32} {D D' : Dm} {r : Int32} (h : f_X12_letter x1 x2 D = some (r, D')) : CtI l yX12_letter cX12_letter 3 (some .int) G tA z E 18 0 0 [.ref (z + 281), .int x1, .int x2] LAY D r LAY D' :=
  ct_BI (by decide +kernel) (Nat.le_of_ble_eq_true rfl) (fun _ _ _ _ _ _ _ _ O hr hlk => w_X12_letter O hr hlk _ _ _ h)
set_option maxHeartbeats 4000000 in
theorem w_X12_takesShort_12_b {G : va_G} {tA : Nat → ClassId} {z : Nat} {E : Ex} {p : Program} {l : Launch} {e : Env} {s : State} {m : MethodId} {args : Array Value} {below : List Frame} {meth : Method} {c : Code} {D' : Dm} (O : Ok G tA z E cX12_takesShort RX12 3 p s m args c) (hr : meth.sig.returnType = none) (hlk : meth.locks = false) {k12 : Int32 → Int32 → Dm → Option Dm} (hk12 : ∀ (x1 : Int32) (x2 : Int32) (D : Dm), k12 x1 x2 D = some D' → BV G tA z E p l e (rmC 1 0 0) s m args below meth c LAY D D' 3 12 [(0, .ref (z + 281)), (1, .int x1), (2, .int x2)] []) (x1 : Int32) (x2 : Int32) (D : Dm) (h : f_X12_takesShort_12_b k12 x1 x2 D = some D') : BV G tA z E p l e (rmC 1 0 0) s m args below meth c LAY D D' 3 12 [(0, .ref (z + 281)), (1, .int x1), (2, .int x2)] [] := by
  obtain ⟨hx, hb, -, hown, hts, -⟩ := id O
  unfold f_X12_takesShort_12_b at h
  intro H locs ls hH hl
  refine lv_iload_n hx hb dX12_takesShort_12 rfl (lv_at hl 2 rfl) ?_
  refine lv_aload_n hx hb dX12_takesShort_13 rfl (lv_at hl 0 rfl) ?_
  refine h_geti O hH ly_281 rfl fl_X12_319 dX12_takesShort_14 ?_
  refine lv_icmp_ge (tgt := 60) hx hb dX12_takesShort_17 (by decide) (fun c1 => ?_) (fun c1 => ?_)
  · have h := it_pos h c1
    obtain rfl := ret_v h
    exact h_vret O hr hlk hH dX12_takesShort_60
  · have h := it_neg h c1
    refine lv_aload_n hx hb dX12_takesShort_20 rfl (lv_at hl 0 rfl) ?_
    refine h_getr O hH ly_281 rfl fl_X12_69 dX12_takesShort_21 ?_
    refine lv_iload_n hx hb dX12_takesShort_24 rfl (lv_at hl 2 rfl) ?_
    refine lv_aload_n hx hb dX12_takesShort_25 rfl (lv_at hl 0 rfl) ?_
    refine h_getr O hH ly_281 rfl fl_X12_42 dX12_takesShort_26 ?_
    refine lv_bipush (v := 6) hx hb dX12_takesShort_29 (by decide) ?_
    refine lv_iload_n hx hb dX12_takesShort_31 rfl (lv_at hl 1 rfl) ?_
    refine lv_imul hx hb dX12_takesShort_32 ?_
    refine lv_iload_n hx hb dX12_takesShort_33 rfl (lv_at hl 2 rfl) ?_
    refine lv_iadd hx hb dX12_takesShort_34 ?_
    obtain ⟨g2, h⟩ := gd_some h
    refine h_iald O hH ly_290 g2 dX12_takesShort_35 ?_
    obtain ⟨g3, h⟩ := gd_some h
    obtain ⟨D4, e5, h⟩ := lt_some h
    refine h_iast O hH ly_299 g3 e5 dX12_takesShort_36 (fun H locs hH => ?_)
    refine lv_aload_n hx hb dX12_takesShort_37 rfl (lv_at hl 0 rfl) ?_
    refine h_getr O hH ly_281 rfl fl_X12_72 dX12_takesShort_38 ?_
    refine lv_iload_n hx hb dX12_takesShort_41 rfl (lv_at hl 2 rfl) ?_
    refine lv_aload_n hx hb dX12_takesShort_42 rfl (lv_at hl 0 rfl) ?_
    refine h_getr O hH ly_281 rfl fl_X12_45 dX12_takesShort_43 ?_
    refine lv_bipush (v := 6) hx hb dX12_takesShort_46 (by decide) ?_
    refine lv_iload_n hx hb dX12_takesShort_48 rfl (lv_at hl 1 rfl) ?_
    refine lv_imul hx hb dX12_takesShort_49 ?_
    refine lv_iload_n hx hb dX12_takesShort_50 rfl (lv_at hl 2 rfl) ?_
    refine lv_iadd hx hb dX12_takesShort_51 ?_
    obtain ⟨g6, h⟩ := gd_some h
    refine h_iald O hH ly_291 g6 dX12_takesShort_52 ?_
    obtain ⟨g7, h⟩ := gd_some h
    obtain ⟨D8, e9, h⟩ := lt_some h
    refine h_iast O hH ly_300 g7 e9 dX12_takesShort_53 (fun H locs hH => ?_)
    obtain ⟨y10, e11, h⟩ := lt_some h
    refine lv_iinc (v := y10) (lv' := [(2, .int y10), (0, .ref (z + 281)), (1, .int x1)]) hx hb dX12_takesShort_54 hl (k := 2) rfl (by rw [e11]; rfl) (by decide) rfl (fun ls hl => ?_)
    refine lv_goto (tgt := 12) hx hb dX12_takesShort_57 (by decide) ?_
    exact hk12 _ _ _ h _ _ _ hH (lv_sub hl [1, 2, 0] rfl)
set_option maxHeartbeats 4000000 in
theorem w_X12_takesShort_12 {G : va_G} {tA : Nat → ClassId} {z : Nat} {E : Ex} {p : Program} {l : Launch} {e : Env} {s : State} {m : MethodId} {args : Array Value} {below : List Frame} {meth : Method} {c : Code} {D' : Dm} (O : Ok G tA z E cX12_takesShort RX12 3 p s m args c) (hr : meth.sig.returnType = none) (hlk : meth.locks = false) : ∀ (n : Nat) (x1 : Int32) (x2 : Int32) (D : Dm) (h : f_X12_takesShort_12 n x1 x2 D = some D'), BV G tA z E p l e (rmC 1 0 0) s m args below meth c LAY D D' 3 12 [(0, .ref (z + 281)), (1, .int x1), (2, .int x2)] [] := by
  intro n
  induction n with
  | zero => intro x1 x2 D h; exact no_some h
  | succ n ih => intro x1 x2 D h; exact w_X12_takesShort_12_b O hr hlk (fun x1 x2 D h => ih x1 x2 D h) x1 x2 D h
set_option maxHeartbeats 4000000 in
theorem w_X12_takesShort {G : va_G} {tA : Nat → ClassId} {z : Nat} {E : Ex} {p : Program} {l : Launch} {e : Env} {s : State} {m : MethodId} {args : Array Value} {below : List Frame} {meth : Method} {c : Code} {D' : Dm} (O : Ok G tA z E cX12_takesShort RX12 3 p s m args c) (hr : meth.sig.returnType = none) (hlk : meth.locks = false) (x1 : Int32) (D : Dm) (h : f_X12_takesShort x1 D = some D') : BV G tA z E p l e (rmC 1 0 0) s m args below meth c LAY D D' 3 0 [(0, .ref (z + 281)), (1, .int x1)] [] := by
  obtain ⟨hx, hb, -, hown, hts, -⟩ := id O
  unfold f_X12_takesShort at h
  intro H locs ls hH hl
  refine lv_aload_n hx hb dX12_takesShort_0 rfl (lv_at hl 0 rfl) ?_
  refine lv_aload_n hx hb dX12_takesShort_1 rfl (lv_at hl 0 rfl) ?_
  refine h_getr O hH ly_281 rfl fl_X12_39 dX12_takesShort_2 ?_
  refine lv_iload_n hx hb dX12_takesShort_5 rfl (lv_at hl 1 rfl) ?_
  obtain ⟨g1, h⟩ := gd_some h
  refine h_iald O hH ly_289 g1 dX12_takesShort_6 ?_
  obtain ⟨D2, e3, h⟩ := lt_some h
  refine h_puti O hH ly_281 rfl fl_X12_319 e3 dX12_takesShort_7 (fun H locs hH => ?_)
  refine lv_iconst (v := 0) hx hb dX12_takesShort_10 (by decide) ?_
  refine lv_istore_n (lv' := [(2, .int 0), (0, .ref (z + 281)), (1, .int x1)]) hx hb dX12_takesShort_11 rfl hl (by decide) rfl (fun ls hl => ?_)
  exact w_X12_takesShort_12 O hr hlk FU _ _ _ h _ _ _ hH (lv_sub hl [1, 2, 0] rfl)
set_option maxHeartbeats 4000000 in
theorem c_X12_takesShort {l : Launch} {G : va_G} {tA : Nat → ClassId} {z : Nat} {E : Ex} {x1 : Int32} {D D' : Dm} (h : f_X12_takesShort x1 D = some D') : CtV l yX12_takesShort cX12_takesShort 3 G tA z E 1 0 0 [.ref (z + 281), .int x1] LAY D LAY D' :=
  ct_BV (by decide +kernel) (Nat.le_of_ble_eq_true rfl) (fun _ _ _ _ _ _ _ _ O hr hlk => w_X12_takesShort O hr hlk _ _ h)
set_option maxHeartbeats 4000000 in
theorem w_X12_takesLetter {G : va_G} {tA : Nat → ClassId} {z : Nat} {E : Ex} {p : Program} {l : Launch} {e : Env} {s : State} {m : MethodId} {args : Array Value} {below : List Frame} {meth : Method} {c : Code} {D' : Dm} (O : Ok G tA z E cX12_takesLetter RX12 3 p s m args c) (hr : meth.sig.returnType = none) (hlk : meth.locks = false) (x1 : Int32) (x2 : Int32) (D : Dm) (h : f_X12_takesLetter x1 x2 D = some D') : BV G tA z E p l e (rmC 1 0 0) s m args below meth c LAY D D' 3 0 [(0, .ref (z + 281)), (1, .int x1), (2, .int x2)] [] := by
  obtain ⟨hx, hb, -, hown, hts, -⟩ := id O
  unfold f_X12_takesLetter at h
  intro H locs ls hH hl
  refine lv_aload_n hx hb dX12_takesLetter_0 rfl (lv_at hl 0 rfl) ?_
  refine h_getr O hH ly_281 rfl fl_X12_69 dX12_takesLetter_1 ?_
  refine lv_aload_n hx hb dX12_takesLetter_4 rfl (lv_at hl 0 rfl) ?_
  refine h_geti O hH ly_281 rfl fl_X12_319 dX12_takesLetter_5 ?_
  refine lv_iload_n hx hb dX12_takesLetter_8 rfl (lv_at hl 1 rfl) ?_
  obtain ⟨g1, h⟩ := gd_some h
  obtain ⟨D2, e3, h⟩ := lt_some h
  refine h_iast O hH ly_299 g1 e3 dX12_takesLetter_9 (fun H locs hH => ?_)
  refine lv_aload_n hx hb dX12_takesLetter_10 rfl (lv_at hl 0 rfl) ?_
  refine h_getr O hH ly_281 rfl fl_X12_72 dX12_takesLetter_11 ?_
  refine lv_aload_n hx hb dX12_takesLetter_14 rfl (lv_at hl 0 rfl) ?_
  refine h_geti O hH ly_281 rfl fl_X12_319 dX12_takesLetter_15 ?_
  refine lv_iload_n hx hb dX12_takesLetter_18 rfl (lv_at hl 2 rfl) ?_
  obtain ⟨g4, h⟩ := gd_some h
  obtain ⟨D5, e6, h⟩ := lt_some h
  refine h_iast O hH ly_300 g4 e6 dX12_takesLetter_19 (fun H locs hH => ?_)
  refine lv_aload_n hx hb dX12_takesLetter_20 rfl (lv_at hl 0 rfl) ?_
  refine lv_dup hx hb dX12_takesLetter_21 rfl ?_
  refine h_geti O hH ly_281 rfl fl_X12_319 dX12_takesLetter_22 ?_
  refine lv_iconst (v := 1) hx hb dX12_takesLetter_25 (by decide) ?_
  refine lv_iadd hx hb dX12_takesLetter_26 ?_
  obtain ⟨D7, e8, h⟩ := lt_some h
  refine h_puti O hH ly_281 rfl fl_X12_319 e8 dX12_takesLetter_27 (fun H locs hH => ?_)
  obtain rfl := ret_v h
  exact h_vret O hr hlk hH dX12_takesLetter_30
set_option maxHeartbeats 4000000 in
theorem c_X12_takesLetter {l : Launch} {G : va_G} {tA : Nat → ClassId} {z : Nat} {E : Ex} {x1 : Int32} {x2 : Int32} {D D' : Dm} (h : f_X12_takesLetter x1 x2 D = some D') : CtV l yX12_takesLetter cX12_takesLetter 3 G tA z E 1 0 0 [.ref (z + 281), .int x1, .int x2] LAY D LAY D' :=
  ct_BV (by decide +kernel) (Nat.le_of_ble_eq_true rfl) (fun _ _ _ _ _ _ _ _ O hr hlk => w_X12_takesLetter O hr hlk _ _ _ h)
set_option maxHeartbeats 4000000 in
theorem w_X12_takesLong {G : va_G} {tA : Nat → ClassId} {z : Nat} {E : Ex} {p : Program} {l : Launch} {e : Env} {s : State} {m : MethodId} {args : Array Value} {below : List Frame} {meth : Method} {c : Code} {D' : Dm} (O : Ok G tA z E cX12_takesLong RX12 4 p s m args c) (hr : meth.sig.returnType = none) (hlk : meth.locks = false) (x1 : Int32) (x2 : Int32) (x3 : Int32) (D : Dm) (h : f_X12_takesLong x1 x2 x3 D = some D') : BV G tA z E p l e (rmC 2 0 0) s m args below meth c LAY D D' 4 0 [(0, .ref (z + 281)), (1, .int x1), (2, .int x2), (3, .int x3)] [] := by
  obtain ⟨hx, hb, -, hown, hts, -⟩ := id O
  unfold f_X12_takesLong at h
  intro H locs ls hH hl
  refine lv_aload_n hx hb dX12_takesLong_0 rfl (lv_at hl 0 rfl) ?_
  refine lv_iload_n hx hb dX12_takesLong_1 rfl (lv_at hl 1 rfl) ?_
  obtain ⟨D1, hc2, h⟩ := bV_some h
  refine h_callVv (As := [.int x1]) (rest := []) O hH (c_X12_takesShort hc2) ml_X12_322 ly_281 rfl rfl hl.1 rfl ⟨Nat.le_of_ble_eq_true rfl, Nat.le_of_ble_eq_true rfl⟩ (Nat.le_of_ble_eq_true rfl) dX12_takesLong_2 (fun H locs hH => ?_)
  refine lv_aload_n hx hb dX12_takesLong_5 rfl (lv_at hl 0 rfl) ?_
  refine lv_iload_n hx hb dX12_takesLong_6 rfl (lv_at hl 2 rfl) ?_
  refine lv_iload_n hx hb dX12_takesLong_7 rfl (lv_at hl 3 rfl) ?_
  obtain ⟨D3, hc4, h⟩ := bV_some h
  refine h_callVv (As := [.int x2, .int x3]) (rest := []) O hH (c_X12_takesLetter hc4) ml_X12_325 ly_281 rfl rfl hl.1 rfl ⟨Nat.le_of_ble_eq_true rfl, Nat.le_of_ble_eq_true rfl⟩ (Nat.le_of_ble_eq_true rfl) dX12_takesLong_8 (fun H locs hH => ?_)
  obtain rfl := ret_v h
  exact h_vret O hr hlk hH dX12_takesLong_11
set_option maxHeartbeats 4000000 in
theorem c_X12_takesLong {l : Launch} {G : va_G} {tA : Nat → ClassId} {z : Nat} {E : Ex} {x1 : Int32} {x2 : Int32} {x3 : Int32} {D D' : Dm} (h : f_X12_takesLong x1 x2 x3 D = some D') : CtV l yX12_takesLong cX12_takesLong 4 G tA z E 2 0 0 [.ref (z + 281), .int x1, .int x2, .int x3] LAY D LAY D' :=
  ct_BV (by decide +kernel) (Nat.le_of_ble_eq_true rfl) (fun _ _ _ _ _ _ _ _ O hr hlk => w_X12_takesLong O hr hlk _ _ _ _ h)
set_option maxHeartbeats 4000000 in
theorem w_X12_takesTold_10_b {G : va_G} {tA : Nat → ClassId} {z : Nat} {E : Ex} {p : Program} {l : Launch} {e : Env} {s : State} {m : MethodId} {args : Array Value} {below : List Frame} {meth : Method} {c : Code} {D' : Dm} (O : Ok G tA z E cX12_takesTold RX12 2 p s m args c) (hr : meth.sig.returnType = none) (hlk : meth.locks = false) {k10 : Int32 → Dm → Option Dm} (hk10 : ∀ (x1 : Int32) (D : Dm), k10 x1 D = some D' → BV G tA z E p l e (rmC 18 0 0) s m args below meth c LAY D D' 2 10 [(0, .ref (z + 281)), (1, .int x1)] []) (x1 : Int32) (D : Dm) (h : f_X12_takesTold_10_b k10 x1 D = some D') : BV G tA z E p l e (rmC 18 0 0) s m args below meth c LAY D D' 2 10 [(0, .ref (z + 281)), (1, .int x1)] [] := by
  obtain ⟨hx, hb, -, hown, hts, -⟩ := id O
  unfold f_X12_takesTold_10_b at h
  intro H locs ls hH hl
  refine lv_iload_n hx hb dX12_takesTold_10 rfl (lv_at hl 1 rfl) ?_
  refine lv_aload_n hx hb dX12_takesTold_11 rfl (lv_at hl 0 rfl) ?_
  refine h_geti O hH ly_281 rfl fl_X12_259 dX12_takesTold_12 ?_
  refine lv_icmp_ge (tgt := 47) hx hb dX12_takesTold_15 (by decide) (fun c1 => ?_) (fun c1 => ?_)
  · have h := it_pos h c1
    obtain rfl := ret_v h
    exact h_vret O hr hlk hH dX12_takesTold_47
  · have h := it_neg h c1
    refine lv_aload_n hx hb dX12_takesTold_18 rfl (lv_at hl 0 rfl) ?_
    refine h_getr O hH ly_281 rfl fl_X12_69 dX12_takesTold_19 ?_
    refine lv_iload_n hx hb dX12_takesTold_22 rfl (lv_at hl 1 rfl) ?_
    refine lv_aload_n hx hb dX12_takesTold_23 rfl (lv_at hl 0 rfl) ?_
    refine h_getr O hH ly_281 rfl fl_X12_27 dX12_takesTold_24 ?_
    refine lv_iload_n hx hb dX12_takesTold_27 rfl (lv_at hl 1 rfl) ?_
    obtain ⟨g2, h⟩ := gd_some h
    refine h_iald O hH ly_285 g2 dX12_takesTold_28 ?_
    obtain ⟨g3, h⟩ := gd_some h
    obtain ⟨D4, e5, h⟩ := lt_some h
    refine h_iast O hH ly_299 g3 e5 dX12_takesTold_29 (fun H locs hH => ?_)
    refine lv_aload_n hx hb dX12_takesTold_30 rfl (lv_at hl 0 rfl) ?_
    refine h_getr O hH ly_281 rfl fl_X12_72 dX12_takesTold_31 ?_
    refine lv_iload_n hx hb dX12_takesTold_34 rfl (lv_at hl 1 rfl) ?_
    refine lv_aload_n hx hb dX12_takesTold_35 rfl (lv_at hl 0 rfl) ?_
    refine lv_iload_n hx hb dX12_takesTold_36 rfl (lv_at hl 1 rfl) ?_
    obtain ⟨y8, D6, hc7, h⟩ := bI_some h
    refine h_callVi (As := [.int x1]) (rest := [.int x1, .ref (z + 300)]) O hH (c_X12_leastOf hc7) ml_X12_307 ly_281 rfl rfl hl.1 rfl ⟨Nat.le_of_ble_eq_true rfl, Nat.le_of_ble_eq_true rfl⟩ (Nat.le_of_ble_eq_true rfl) dX12_takesTold_37 (fun H locs hH => ?_)
    obtain ⟨g9, h⟩ := gd_some h
    obtain ⟨D10, e11, h⟩ := lt_some h
    refine h_iast O hH ly_300 g9 e11 dX12_takesTold_40 (fun H locs hH => ?_)
    obtain ⟨y12, e13, h⟩ := lt_some h
    refine lv_iinc (v := y12) (lv' := [(1, .int y12), (0, .ref (z + 281))]) hx hb dX12_takesTold_41 hl (k := 1) rfl (by rw [e13]; rfl) (by decide) rfl (fun ls hl => ?_)
    refine lv_goto (tgt := 10) hx hb dX12_takesTold_44 (by decide) ?_
    exact hk10 _ _ h _ _ _ hH (lv_sub hl [1, 0] rfl)
set_option maxHeartbeats 4000000 in
theorem w_X12_takesTold_10 {G : va_G} {tA : Nat → ClassId} {z : Nat} {E : Ex} {p : Program} {l : Launch} {e : Env} {s : State} {m : MethodId} {args : Array Value} {below : List Frame} {meth : Method} {c : Code} {D' : Dm} (O : Ok G tA z E cX12_takesTold RX12 2 p s m args c) (hr : meth.sig.returnType = none) (hlk : meth.locks = false) : ∀ (n : Nat) (x1 : Int32) (D : Dm) (h : f_X12_takesTold_10 n x1 D = some D'), BV G tA z E p l e (rmC 18 0 0) s m args below meth c LAY D D' 2 10 [(0, .ref (z + 281)), (1, .int x1)] [] := by
  intro n
  induction n with
  | zero => intro x1 D h; exact no_some h
  | succ n ih => intro x1 D h; exact w_X12_takesTold_10_b O hr hlk (fun x1 D h => ih x1 D h) x1 D h
set_option maxHeartbeats 4000000 in
theorem w_X12_takesTold {G : va_G} {tA : Nat → ClassId} {z : Nat} {E : Ex} {p : Program} {l : Launch} {e : Env} {s : State} {m : MethodId} {args : Array Value} {below : List Frame} {meth : Method} {c : Code} {D' : Dm} (O : Ok G tA z E cX12_takesTold RX12 2 p s m args c) (hr : meth.sig.returnType = none) (hlk : meth.locks = false)  (D : Dm) (h : f_X12_takesTold  D = some D') : BV G tA z E p l e (rmC 18 0 0) s m args below meth c LAY D D' 2 0 [(0, .ref (z + 281))] [] := by
  obtain ⟨hx, hb, -, hown, hts, -⟩ := id O
  unfold f_X12_takesTold at h
  intro H locs ls hH hl
  refine lv_aload_n hx hb dX12_takesTold_0 rfl (lv_at hl 0 rfl) ?_
  refine lv_aload_n hx hb dX12_takesTold_1 rfl (lv_at hl 0 rfl) ?_
  refine h_geti O hH ly_281 rfl fl_X12_259 dX12_takesTold_2 ?_
  obtain ⟨D1, e2, h⟩ := lt_some h
  refine h_puti O hH ly_281 rfl fl_X12_319 e2 dX12_takesTold_5 (fun H locs hH => ?_)
  refine lv_iconst (v := 0) hx hb dX12_takesTold_8 (by decide) ?_
  refine lv_istore_n (lv' := [(1, .int 0), (0, .ref (z + 281))]) hx hb dX12_takesTold_9 rfl hl (by decide) rfl (fun ls hl => ?_)
  exact w_X12_takesTold_10 O hr hlk FU _ _ h _ _ _ hH (lv_sub hl [1, 0] rfl)
set_option maxHeartbeats 4000000 in
theorem c_X12_takesTold {l : Launch} {G : va_G} {tA : Nat → ClassId} {z : Nat} {E : Ex}  {D D' : Dm} (h : f_X12_takesTold  D = some D') : CtV l yX12_takesTold cX12_takesTold 2 G tA z E 18 0 0 [.ref (z + 281)] LAY D LAY D' :=
  ct_BV (by decide +kernel) (Nat.le_of_ble_eq_true rfl) (fun _ _ _ _ _ _ _ _ O hr hlk => w_X12_takesTold O hr hlk  _ h)
set_option maxHeartbeats 4000000 in
theorem w_X12_namesOf_36 {G : va_G} {tA : Nat → ClassId} {z : Nat} {E : Ex} {p : Program} {l : Launch} {e : Env} {s : State} {m : MethodId} {args : Array Value} {below : List Frame} {meth : Method} {c : Code} {r : Int32} {D' : Dm} (O : Ok G tA z E cX12_namesOf RX12 6 p s m args c) (hr : meth.sig.returnType = some .int) (hlk : meth.locks = false) {k6 : Nat → Nat → Int32 → Int32 → Int32 → Int32 → Dm → Option (Int32 × Dm)} (hk6 : ∀ (r1 : Nat) (n1 : Nat) (x2 : Int32) (x3 : Int32) (x4 : Int32) (x5 : Int32) (h1 : LAY[r1]? = some (.inl (0, n1))) (D : Dm), k6 r1 n1 x2 x3 x4 x5 D = some (r, D') → BI G tA z E p l e (rmC 1 0 0) s m args below meth c LAY D r D' 6 6 [(1, .ref (z + r1)), (2, .int x2), (3, .int x3), (4, .int x4), (5, .int x5)] []) (r1 : Nat) (n1 : Nat) (x2 : Int32) (x3 : Int32) (x5 : Int32) (xs0 : Int32) (h1 : LAY[r1]? = some (.inl (0, n1))) (D : Dm) (h : f_X12_namesOf_36 k6 r1 n1 x2 x3 x5 xs0 D = some (r, D')) : BI G tA z E p l e (rmC 1 0 0) s m args below meth c LAY D r D' 6 36 [(1, .ref (z + r1)), (2, .int x2), (3, .int x3), (5, .int x5)] [.int xs0] := by
  obtain ⟨hx, hb, -, hown, hts, -⟩ := id O
  unfold f_X12_namesOf_36 at h
  intro H locs ls hH hl
  refine lv_istore (lv' := [(4, .int xs0), (1, .ref (z + r1)), (2, .int x2), (3, .int x3), (5, .int x5)]) hx hb dX12_namesOf_36 hl (by decide) rfl (fun ls hl => ?_)
  obtain ⟨y1, e2, h⟩ := lt_some h
  refine lv_iinc (v := y1) (lv' := [(5, .int y1), (4, .int xs0), (1, .ref (z + r1)), (2, .int x2), (3, .int x3)]) hx hb dX12_namesOf_38 hl (k := 4) rfl (by rw [e2]; rfl) (by decide) rfl (fun ls hl => ?_)
  refine lv_goto (tgt := 6) hx hb dX12_namesOf_41 (by decide) ?_
  exact hk6 _ _ _ _ _ _ h1 _ h _ _ _ hH (lv_sub hl [2, 3, 4, 1, 0] rfl)
set_option maxHeartbeats 4000000 in
theorem w_X12_namesOf_6_b {G : va_G} {tA : Nat → ClassId} {z : Nat} {E : Ex} {p : Program} {l : Launch} {e : Env} {s : State} {m : MethodId} {args : Array Value} {below : List Frame} {meth : Method} {c : Code} {r : Int32} {D' : Dm} (O : Ok G tA z E cX12_namesOf RX12 6 p s m args c) (hr : meth.sig.returnType = some .int) (hlk : meth.locks = false) {k6 : Nat → Nat → Int32 → Int32 → Int32 → Int32 → Dm → Option (Int32 × Dm)} (hk6 : ∀ (r1 : Nat) (n1 : Nat) (x2 : Int32) (x3 : Int32) (x4 : Int32) (x5 : Int32) (h1 : LAY[r1]? = some (.inl (0, n1))) (D : Dm), k6 r1 n1 x2 x3 x4 x5 D = some (r, D') → BI G tA z E p l e (rmC 1 0 0) s m args below meth c LAY D r D' 6 6 [(1, .ref (z + r1)), (2, .int x2), (3, .int x3), (4, .int x4), (5, .int x5)] []) (r1 : Nat) (n1 : Nat) (x2 : Int32) (x3 : Int32) (x4 : Int32) (x5 : Int32) (h1 : LAY[r1]? = some (.inl (0, n1))) (D : Dm) (h : f_X12_namesOf_6_b k6 r1 n1 x2 x3 x4 x5 D = some (r, D')) : BI G tA z E p l e (rmC 1 0 0) s m args below meth c LAY D r D' 6 6 [(1, .ref (z + r1)), (2, .int x2), (3, .int x3), (4, .int x4), (5, .int x5)] [] := by
  obtain ⟨hx, hb, -, hown, hts, -⟩ := id O
  unfold f_X12_namesOf_6_b at h
  intro H locs ls hH hl
  refine lv_iload hx hb dX12_namesOf_6 (lv_at hl 4 rfl) ?_
  refine lv_iload_n hx hb dX12_namesOf_8 rfl (lv_at hl 2 rfl) ?_
  refine lv_icmp_ge (tgt := 44) hx hb dX12_namesOf_9 (by decide) (fun c1 => ?_) (fun c1 => ?_)
  · have h := it_pos h c1
    refine lv_iload hx hb dX12_namesOf_44 (lv_at hl 3 rfl) ?_
    obtain ⟨rfl, rfl⟩ := ret_i h
    exact h_iret O hr hlk hH dX12_namesOf_46
  · have h := it_neg h c1
    refine lv_aload_n hx hb dX12_namesOf_12 rfl (lv_at hl 0 rfl) ?_
    refine lv_iload_n hx hb dX12_namesOf_13 rfl (lv_at hl 1 rfl) ?_
    refine lv_iload hx hb dX12_namesOf_14 (lv_at hl 4 rfl) ?_
    refine lv_iadd hx hb dX12_namesOf_16 ?_
    obtain ⟨g2, h⟩ := gd_some h
    refine h_iald O hH h1 g2 dX12_namesOf_17 ?_
    refine lv_iload hx hb dX12_namesOf_18 (lv_at hl 3 rfl) ?_
    refine lv_icmp_lt (tgt := 34) hx hb dX12_namesOf_20 (by decide) (fun c3 => ?_) (fun c3 => ?_)
    · have h := it_pos h c3
      refine lv_iload hx hb dX12_namesOf_34 (lv_at hl 3 rfl) ?_
      exact w_X12_namesOf_36 O hr hlk hk6 _ _ _ _ _ _ h1 _ h _ _ _ hH (lv_sub hl [0, 1, 2, 4] rfl)
    · have h := it_neg h c3
      refine lv_aload_n hx hb dX12_namesOf_23 rfl (lv_at hl 0 rfl) ?_
      refine lv_iload_n hx hb dX12_namesOf_24 rfl (lv_at hl 1 rfl) ?_
      refine lv_iload hx hb dX12_namesOf_25 (lv_at hl 4 rfl) ?_
      refine lv_iadd hx hb dX12_namesOf_27 ?_
      obtain ⟨g4, h⟩ := gd_some h
      refine h_iald O hH h1 g4 dX12_namesOf_28 ?_
      refine lv_iconst (v := 1) hx hb dX12_namesOf_29 (by decide) ?_
      refine lv_iadd hx hb dX12_namesOf_30 ?_
      refine lv_goto (tgt := 36) hx hb dX12_namesOf_31 (by decide) ?_
      exact w_X12_namesOf_36 O hr hlk hk6 _ _ _ _ _ _ h1 _ h _ _ _ hH (lv_sub hl [0, 1, 2, 4] rfl)
set_option maxHeartbeats 4000000 in
theorem w_X12_namesOf_6 {G : va_G} {tA : Nat → ClassId} {z : Nat} {E : Ex} {p : Program} {l : Launch} {e : Env} {s : State} {m : MethodId} {args : Array Value} {below : List Frame} {meth : Method} {c : Code} {r : Int32} {D' : Dm} (O : Ok G tA z E cX12_namesOf RX12 6 p s m args c) (hr : meth.sig.returnType = some .int) (hlk : meth.locks = false) : ∀ (n : Nat) (r1 : Nat) (n1 : Nat) (x2 : Int32) (x3 : Int32) (x4 : Int32) (x5 : Int32) (h1 : LAY[r1]? = some (.inl (0, n1))) (D : Dm) (h : f_X12_namesOf_6 n r1 n1 x2 x3 x4 x5 D = some (r, D')), BI G tA z E p l e (rmC 1 0 0) s m args below meth c LAY D r D' 6 6 [(1, .ref (z + r1)), (2, .int x2), (3, .int x3), (4, .int x4), (5, .int x5)] [] := by
  intro n
  induction n with
  | zero => intro r1 n1 x2 x3 x4 x5 h1 D h; exact no_some h
  | succ n ih => intro r1 n1 x2 x3 x4 x5 h1 D h; exact w_X12_namesOf_6_b O hr hlk (fun r1 n1 x2 x3 x4 x5 h1 D h => ih r1 n1 x2 x3 x4 x5 h1 D h) r1 n1 x2 x3 x4 x5 h1 D h
set_option maxHeartbeats 4000000 in
theorem w_X12_namesOf {G : va_G} {tA : Nat → ClassId} {z : Nat} {E : Ex} {p : Program} {l : Launch} {e : Env} {s : State} {m : MethodId} {args : Array Value} {below : List Frame} {meth : Method} {c : Code} {r : Int32} {D' : Dm} (O : Ok G tA z E cX12_namesOf RX12 6 p s m args c) (hr : meth.sig.returnType = some .int) (hlk : meth.locks = false) (r1 : Nat) (n1 : Nat) (x2 : Int32) (x3 : Int32) (h1 : LAY[r1]? = some (.inl (0, n1))) (D : Dm) (h : f_X12_namesOf r1 n1 x2 x3 D = some (r, D')) : BI G tA z E p l e (rmC 1 0 0) s m args below meth c LAY D r D' 6 0 [(0, .ref (z + 281)), (1, .ref (z + r1)), (2, .int x2), (3, .int x3)] [] := by
  obtain ⟨hx, hb, -, hown, hts, -⟩ := id O
  unfold f_X12_namesOf at h
  intro H locs ls hH hl
  refine lv_iconst (v := 0) hx hb dX12_namesOf_0 (by decide) ?_
  refine lv_istore (lv' := [(4, .int 0), (0, .ref (z + 281)), (1, .ref (z + r1)), (2, .int x2), (3, .int x3)]) hx hb dX12_namesOf_1 hl (by decide) rfl (fun ls hl => ?_)
  refine lv_iconst (v := 0) hx hb dX12_namesOf_3 (by decide) ?_
  refine lv_istore (lv' := [(5, .int 0), (4, .int 0), (0, .ref (z + 281)), (1, .ref (z + r1)), (2, .int x2), (3, .int x3)]) hx hb dX12_namesOf_4 hl (by decide) rfl (fun ls hl => ?_)
  exact w_X12_namesOf_6 O hr hlk FU _ _ _ _ _ _ h1 _ h _ _ _ hH (lv_sub hl [3, 4, 5, 1, 0] rfl)
set_option maxHeartbeats 4000000 in
theorem c_X12_namesOf {l : Launch} {G : va_G} {tA : Nat → ClassId} {z : Nat} {E : Ex} {r1 : Nat} {n1 : Nat} {x2 : Int32} {x3 : Int32} (h1 : LAY[r1]? = some (.inl (0, n1))) {D D' : Dm} {r : Int32} (h : f_X12_namesOf r1 n1 x2 x3 D = some (r, D')) : CtI l yX12_namesOf cX12_namesOf 6 (some .int) G tA z E 1 0 0 [.ref (z + 281), .ref (z + r1), .int x2, .int x3] LAY D r LAY D' :=
  ct_BI (by decide +kernel) (Nat.le_of_ble_eq_true rfl) (fun _ _ _ _ _ _ _ _ O hr hlk => w_X12_namesOf O hr hlk _ _ _ _ h1 _ h)
set_option maxHeartbeats 4000000 in
theorem w_X12_namesOfShort {G : va_G} {tA : Nat → ClassId} {z : Nat} {E : Ex} {p : Program} {l : Launch} {e : Env} {s : State} {m : MethodId} {args : Array Value} {below : List Frame} {meth : Method} {c : Code} {r : Int32} {D' : Dm} (O : Ok G tA z E cX12_namesOfShort RX12 2 p s m args c) (hr : meth.sig.returnType = some .int) (hlk : meth.locks = false) (x1 : Int32) (D : Dm) (h : f_X12_namesOfShort x1 D = some (r, D')) : BI G tA z E p l e (rmC 2 0 0) s m args below meth c LAY D r D' 2 0 [(0, .ref (z + 281)), (1, .int x1)] [] := by
  obtain ⟨hx, hb, -, hown, hts, -⟩ := id O
  unfold f_X12_namesOfShort at h
  intro H locs ls hH hl
  refine lv_aload_n hx hb dX12_namesOfShort_0 rfl (lv_at hl 0 rfl) ?_
  refine lv_aload_n hx hb dX12_namesOfShort_1 rfl (lv_at hl 0 rfl) ?_
  refine h_getr O hH ly_281 rfl fl_X12_45 dX12_namesOfShort_2 ?_
  refine lv_bipush (v := 6) hx hb dX12_namesOfShort_5 (by decide) ?_
  refine lv_iload_n hx hb dX12_namesOfShort_7 rfl (lv_at hl 1 rfl) ?_
  refine lv_imul hx hb dX12_namesOfShort_8 ?_
  refine lv_aload_n hx hb dX12_namesOfShort_9 rfl (lv_at hl 0 rfl) ?_
  refine h_getr O hH ly_281 rfl fl_X12_39 dX12_namesOfShort_10 ?_
  refine lv_iload_n hx hb dX12_namesOfShort_13 rfl (lv_at hl 1 rfl) ?_
  obtain ⟨g1, h⟩ := gd_some h
  refine h_iald O hH ly_289 g1 dX12_namesOfShort_14 ?_
  obtain ⟨y4, D2, hc3, h⟩ := bI_some h
  refine h_callVi (As := [.ref (z + 291), .int (6 * x1), .int (D 289 (Int32.toNatClampNeg x1))]) (rest := []) O hH (c_X12_namesOf ly_291 hc3) ml_X12_328 ly_281 rfl rfl hl.1 rfl ⟨Nat.le_of_ble_eq_true rfl, Nat.le_of_ble_eq_true rfl⟩ (Nat.le_of_ble_eq_true rfl) dX12_namesOfShort_15 (fun H locs hH => ?_)
  obtain ⟨rfl, rfl⟩ := ret_i h
  exact h_iret O hr hlk hH dX12_namesOfShort_18
set_option maxHeartbeats 4000000 in
theorem c_X12_namesOfShort {l : Launch} {G : va_G} {tA : Nat → ClassId} {z : Nat} {E : Ex} {x1 : Int32} {D D' : Dm} {r : Int32} (h : f_X12_namesOfShort x1 D = some (r, D')) : CtI l yX12_namesOfShort cX12_namesOfShort 2 (some .int) G tA z E 2 0 0 [.ref (z + 281), .int x1] LAY D r LAY D' :=
  ct_BI (by decide +kernel) (Nat.le_of_ble_eq_true rfl) (fun _ _ _ _ _ _ _ _ O hr hlk => w_X12_namesOfShort O hr hlk _ _ h)
set_option maxHeartbeats 4000000 in
theorem w_X12_leasts_74_b {G : va_G} {tA : Nat → ClassId} {z : Nat} {E : Ex} {p : Program} {l : Launch} {e : Env} {s : State} {m : MethodId} {args : Array Value} {below : List Frame} {meth : Method} {c : Code} {D' : Dm} (O : Ok G tA z E cX12_leasts RX12 5 p s m args c) (hr : meth.sig.returnType = none) (hlk : meth.locks = false) {k74 : Int32 → Dm → Option Dm} (hk74 : ∀ (x2 : Int32) (D : Dm), k74 x2 D = some D' → BV G tA z E p l e (rmC 1 0 0) s m args below meth c LAY D D' 5 74 [(0, .ref (z + 281)), (2, .int x2)] []) (x2 : Int32) (D : Dm) (h : f_X12_leasts_74_b k74 x2 D = some D') : BV G tA z E p l e (rmC 1 0 0) s m args below meth c LAY D D' 5 74 [(0, .ref (z + 281)), (2, .int x2)] [] := by
  obtain ⟨hx, hb, -, hown, hts, -⟩ := id O
  unfold f_X12_leasts_74_b at h
  intro H locs ls hH hl
  refine lv_iload_n hx hb dX12_leasts_74 rfl (lv_at hl 1 rfl) ?_
  refine lv_aload_n hx hb dX12_leasts_75 rfl (lv_at hl 0 rfl) ?_
  refine h_geti O hH ly_281 rfl fl_X12_319 dX12_leasts_76 ?_
  refine lv_icmp_ge (tgt := 102) hx hb dX12_leasts_79 (by decide) (fun c1 => ?_) (fun c1 => ?_)
  · have h := it_pos h c1
    obtain rfl := ret_v h
    exact h_vret O hr hlk hH dX12_leasts_102
  · have h := it_neg h c1
    refine lv_aload_n hx hb dX12_leasts_82 rfl (lv_at hl 0 rfl) ?_
    refine h_getr O hH ly_281 rfl fl_X12_72 dX12_leasts_83 ?_
    refine lv_iload_n hx hb dX12_leasts_86 rfl (lv_at hl 1 rfl) ?_
    refine lv_iconst (v := (-1)) hx hb dX12_leasts_87 (by decide) ?_
    refine lv_aload_n hx hb dX12_leasts_88 rfl (lv_at hl 0 rfl) ?_
    refine h_getr O hH ly_281 rfl fl_X12_72 dX12_leasts_89 ?_
    refine lv_iload_n hx hb dX12_leasts_92 rfl (lv_at hl 1 rfl) ?_
    obtain ⟨g2, h⟩ := gd_some h
    refine h_iald O hH ly_300 g2 dX12_leasts_93 ?_
    refine lv_isub hx hb dX12_leasts_94 ?_
    obtain ⟨g3, h⟩ := gd_some h
    obtain ⟨D4, e5, h⟩ := lt_some h
    refine h_iast O hH ly_300 g3 e5 dX12_leasts_95 (fun H locs hH => ?_)
    obtain ⟨y6, e7, h⟩ := lt_some h
    refine lv_iinc (v := y6) (lv' := [(2, .int y6), (0, .ref (z + 281))]) hx hb dX12_leasts_96 hl (k := 1) rfl (by rw [e7]; rfl) (by decide) rfl (fun ls hl => ?_)
    refine lv_goto (tgt := 74) hx hb dX12_leasts_99 (by decide) ?_
    exact hk74 _ _ h _ _ _ hH (lv_sub hl [1, 0] rfl)
set_option maxHeartbeats 4000000 in
theorem w_X12_leasts_74 {G : va_G} {tA : Nat → ClassId} {z : Nat} {E : Ex} {p : Program} {l : Launch} {e : Env} {s : State} {m : MethodId} {args : Array Value} {below : List Frame} {meth : Method} {c : Code} {D' : Dm} (O : Ok G tA z E cX12_leasts RX12 5 p s m args c) (hr : meth.sig.returnType = none) (hlk : meth.locks = false) : ∀ (n : Nat) (x2 : Int32) (D : Dm) (h : f_X12_leasts_74 n x2 D = some D'), BV G tA z E p l e (rmC 1 0 0) s m args below meth c LAY D D' 5 74 [(0, .ref (z + 281)), (2, .int x2)] [] := by
  intro n
  induction n with
  | zero => intro x2 D h; exact no_some h
  | succ n ih => intro x2 D h; exact w_X12_leasts_74_b O hr hlk (fun x2 D h => ih x2 D h) x2 D h
set_option maxHeartbeats 4000000 in
theorem w_X12_leasts_66 {G : va_G} {tA : Nat → ClassId} {z : Nat} {E : Ex} {p : Program} {l : Launch} {e : Env} {s : State} {m : MethodId} {args : Array Value} {below : List Frame} {meth : Method} {c : Code} {D' : Dm} (O : Ok G tA z E cX12_leasts RX12 5 p s m args c) (hr : meth.sig.returnType = none) (hlk : meth.locks = false) {k4 : Int32 → Int32 → Dm → Option Dm} (hk4 : ∀ (x1 : Int32) (x2 : Int32) (D : Dm), k4 x1 x2 D = some D' → BV G tA z E p l e (rmC 1 0 0) s m args below meth c LAY D D' 5 4 [(0, .ref (z + 281)), (1, .int x1), (2, .int x2)] []) (x1 : Int32) (x2 : Int32) (D : Dm) (h : f_X12_leasts_66 k4 x1 x2 D = some D') : BV G tA z E p l e (rmC 1 0 0) s m args below meth c LAY D D' 5 66 [(0, .ref (z + 281)), (1, .int x1), (2, .int x2)] [] := by
  obtain ⟨hx, hb, -, hown, hts, -⟩ := id O
  unfold f_X12_leasts_66 at h
  intro H locs ls hH hl
  obtain ⟨y1, e2, h⟩ := lt_some h
  refine lv_iinc (v := y1) (lv' := [(2, .int y1), (0, .ref (z + 281)), (1, .int x1)]) hx hb dX12_leasts_66 hl (k := 2) rfl (by rw [e2]; rfl) (by decide) rfl (fun ls hl => ?_)
  refine lv_goto (tgt := 4) hx hb dX12_leasts_69 (by decide) ?_
  exact hk4 _ _ _ h _ _ _ hH (lv_sub hl [1, 2, 0] rfl)
set_option maxHeartbeats 4000000 in
theorem w_X12_leasts_60 {G : va_G} {tA : Nat → ClassId} {z : Nat} {E : Ex} {p : Program} {l : Launch} {e : Env} {s : State} {m : MethodId} {args : Array Value} {below : List Frame} {meth : Method} {c : Code} {D' : Dm} (O : Ok G tA z E cX12_leasts RX12 5 p s m args c) (hr : meth.sig.returnType = none) (hlk : meth.locks = false) {k4 : Int32 → Int32 → Dm → Option Dm} (hk4 : ∀ (x1 : Int32) (x2 : Int32) (D : Dm), k4 x1 x2 D = some D' → BV G tA z E p l e (rmC 1 0 0) s m args below meth c LAY D D' 5 4 [(0, .ref (z + 281)), (1, .int x1), (2, .int x2)] []) {k32 : Int32 → Int32 → Int32 → Int32 → Dm → Option Dm} (hk32 : ∀ (x1 : Int32) (x2 : Int32) (x3 : Int32) (x4 : Int32) (D : Dm), k32 x1 x2 x3 x4 D = some D' → BV G tA z E p l e (rmC 1 0 0) s m args below meth c LAY D D' 5 32 [(0, .ref (z + 281)), (1, .int x1), (2, .int x2), (3, .int x3), (4, .int x4)] []) (x1 : Int32) (x2 : Int32) (x3 : Int32) (x4 : Int32) (D : Dm) (h : f_X12_leasts_60 k4 k32 x1 x2 x3 x4 D = some D') : BV G tA z E p l e (rmC 1 0 0) s m args below meth c LAY D D' 5 60 [(0, .ref (z + 281)), (1, .int x1), (2, .int x2), (3, .int x3), (4, .int x4)] [] := by
  obtain ⟨hx, hb, -, hown, hts, -⟩ := id O
  unfold f_X12_leasts_60 at h
  intro H locs ls hH hl
  obtain ⟨y1, e2, h⟩ := lt_some h
  refine lv_iinc (v := y1) (lv' := [(4, .int y1), (0, .ref (z + 281)), (1, .int x1), (2, .int x2), (3, .int x3)]) hx hb dX12_leasts_60 hl (k := 4) rfl (by rw [e2]; rfl) (by decide) rfl (fun ls hl => ?_)
  refine lv_goto (tgt := 32) hx hb dX12_leasts_63 (by decide) ?_
  exact hk32 _ _ _ _ _ h _ _ _ hH (lv_sub hl [1, 2, 3, 4, 0] rfl)
set_option maxHeartbeats 4000000 in
theorem w_X12_leasts_32_b {G : va_G} {tA : Nat → ClassId} {z : Nat} {E : Ex} {p : Program} {l : Launch} {e : Env} {s : State} {m : MethodId} {args : Array Value} {below : List Frame} {meth : Method} {c : Code} {D' : Dm} (O : Ok G tA z E cX12_leasts RX12 5 p s m args c) (hr : meth.sig.returnType = none) (hlk : meth.locks = false) {k4 : Int32 → Int32 → Dm → Option Dm} (hk4 : ∀ (x1 : Int32) (x2 : Int32) (D : Dm), k4 x1 x2 D = some D' → BV G tA z E p l e (rmC 1 0 0) s m args below meth c LAY D D' 5 4 [(0, .ref (z + 281)), (1, .int x1), (2, .int x2)] []) {k32 : Int32 → Int32 → Int32 → Int32 → Dm → Option Dm} (hk32 : ∀ (x1 : Int32) (x2 : Int32) (x3 : Int32) (x4 : Int32) (D : Dm), k32 x1 x2 x3 x4 D = some D' → BV G tA z E p l e (rmC 1 0 0) s m args below meth c LAY D D' 5 32 [(0, .ref (z + 281)), (1, .int x1), (2, .int x2), (3, .int x3), (4, .int x4)] []) (x1 : Int32) (x2 : Int32) (x3 : Int32) (x4 : Int32) (D : Dm) (h : f_X12_leasts_32_b k4 k32 x1 x2 x3 x4 D = some D') : BV G tA z E p l e (rmC 1 0 0) s m args below meth c LAY D D' 5 32 [(0, .ref (z + 281)), (1, .int x1), (2, .int x2), (3, .int x3), (4, .int x4)] [] := by
  obtain ⟨hx, hb, -, hown, hts, -⟩ := id O
  unfold f_X12_leasts_32_b at h
  intro H locs ls hH hl
  refine lv_iload hx hb dX12_leasts_32 (lv_at hl 4 rfl) ?_
  refine lv_aload_n hx hb dX12_leasts_34 rfl (lv_at hl 0 rfl) ?_
  refine h_geti O hH ly_281 rfl fl_X12_319 dX12_leasts_35 ?_
  refine lv_icmp_ge (tgt := 66) hx hb dX12_leasts_38 (by decide) (fun c1 => ?_) (fun c1 => ?_)
  · have h := it_pos h c1
    exact w_X12_leasts_66 O hr hlk hk4 _ _ _ h _ _ _ hH (lv_sub hl [0, 1, 2] rfl)
  · have h := it_neg h c1
    refine lv_aload_n hx hb dX12_leasts_41 rfl (lv_at hl 0 rfl) ?_
    refine h_getr O hH ly_281 rfl fl_X12_72 dX12_leasts_42 ?_
    refine lv_iload hx hb dX12_leasts_45 (lv_at hl 4 rfl) ?_
    obtain ⟨g2, h⟩ := gd_some h
    refine h_iald O hH ly_300 g2 dX12_leasts_47 ?_
    refine lv_iload_n hx hb dX12_leasts_48 rfl (lv_at hl 3 rfl) ?_
    refine lv_icmp_ne (tgt := 60) hx hb dX12_leasts_49 (by decide) (fun c3 => ?_) (fun c3 => ?_)
    · have h := it_neg h c3
      exact w_X12_leasts_60 O hr hlk hk4 hk32 _ _ _ _ _ h _ _ _ hH (lv_sub hl [0, 1, 2, 3, 4] rfl)
    · have h := it_pos h c3
      refine lv_aload_n hx hb dX12_leasts_52 rfl (lv_at hl 0 rfl) ?_
      refine h_getr O hH ly_281 rfl fl_X12_72 dX12_leasts_53 ?_
      refine lv_iload hx hb dX12_leasts_56 (lv_at hl 4 rfl) ?_
      refine lv_iload_n hx hb dX12_leasts_58 rfl (lv_at hl 1 rfl) ?_
      obtain ⟨g4, h⟩ := gd_some h
      obtain ⟨D5, e6, h⟩ := lt_some h
      refine h_iast O hH ly_300 g4 e6 dX12_leasts_59 (fun H locs hH => ?_)
      exact w_X12_leasts_60 O hr hlk hk4 hk32 _ _ _ _ _ h _ _ _ hH (lv_sub hl [0, 1, 2, 3, 4] rfl)
set_option maxHeartbeats 4000000 in
theorem w_X12_leasts_32 {G : va_G} {tA : Nat → ClassId} {z : Nat} {E : Ex} {p : Program} {l : Launch} {e : Env} {s : State} {m : MethodId} {args : Array Value} {below : List Frame} {meth : Method} {c : Code} {D' : Dm} (O : Ok G tA z E cX12_leasts RX12 5 p s m args c) (hr : meth.sig.returnType = none) (hlk : meth.locks = false) {k4 : Int32 → Int32 → Dm → Option Dm} (hk4 : ∀ (x1 : Int32) (x2 : Int32) (D : Dm), k4 x1 x2 D = some D' → BV G tA z E p l e (rmC 1 0 0) s m args below meth c LAY D D' 5 4 [(0, .ref (z + 281)), (1, .int x1), (2, .int x2)] []) : ∀ (n : Nat) (x1 : Int32) (x2 : Int32) (x3 : Int32) (x4 : Int32) (D : Dm) (h : f_X12_leasts_32 k4 n x1 x2 x3 x4 D = some D'), BV G tA z E p l e (rmC 1 0 0) s m args below meth c LAY D D' 5 32 [(0, .ref (z + 281)), (1, .int x1), (2, .int x2), (3, .int x3), (4, .int x4)] [] := by
  intro n
  induction n with
  | zero => intro x1 x2 x3 x4 D h; exact no_some h
  | succ n ih => intro x1 x2 x3 x4 D h; exact w_X12_leasts_32_b O hr hlk hk4 (fun x1 x2 x3 x4 D h => ih x1 x2 x3 x4 D h) x1 x2 x3 x4 D h
set_option maxHeartbeats 4000000 in
theorem w_X12_leasts_4_b {G : va_G} {tA : Nat → ClassId} {z : Nat} {E : Ex} {p : Program} {l : Launch} {e : Env} {s : State} {m : MethodId} {args : Array Value} {below : List Frame} {meth : Method} {c : Code} {D' : Dm} (O : Ok G tA z E cX12_leasts RX12 5 p s m args c) (hr : meth.sig.returnType = none) (hlk : meth.locks = false) {k4 : Int32 → Int32 → Dm → Option Dm} (hk4 : ∀ (x1 : Int32) (x2 : Int32) (D : Dm), k4 x1 x2 D = some D' → BV G tA z E p l e (rmC 1 0 0) s m args below meth c LAY D D' 5 4 [(0, .ref (z + 281)), (1, .int x1), (2, .int x2)] []) (x1 : Int32) (x2 : Int32) (D : Dm) (h : f_X12_leasts_4_b k4 x1 x2 D = some D') : BV G tA z E p l e (rmC 1 0 0) s m args below meth c LAY D D' 5 4 [(0, .ref (z + 281)), (1, .int x1), (2, .int x2)] [] := by
  obtain ⟨hx, hb, -, hown, hts, -⟩ := id O
  unfold f_X12_leasts_4_b at h
  intro H locs ls hH hl
  refine lv_iload_n hx hb dX12_leasts_4 rfl (lv_at hl 2 rfl) ?_
  refine lv_aload_n hx hb dX12_leasts_5 rfl (lv_at hl 0 rfl) ?_
  refine h_geti O hH ly_281 rfl fl_X12_319 dX12_leasts_6 ?_
  refine lv_icmp_ge (tgt := 72) hx hb dX12_leasts_9 (by decide) (fun c1 => ?_) (fun c1 => ?_)
  · have h := it_pos h c1
    refine lv_iconst (v := 0) hx hb dX12_leasts_72 (by decide) ?_
    refine lv_istore_n (lv' := [(2, .int 0), (0, .ref (z + 281)), (1, .int x1)]) hx hb dX12_leasts_73 rfl hl (by decide) rfl (fun ls hl => ?_)
    exact w_X12_leasts_74 O hr hlk FU _ _ h _ _ _ hH (lv_sub hl [1, 0] rfl)
  · have h := it_neg h c1
    refine lv_aload_n hx hb dX12_leasts_12 rfl (lv_at hl 0 rfl) ?_
    refine h_getr O hH ly_281 rfl fl_X12_72 dX12_leasts_13 ?_
    refine lv_iload_n hx hb dX12_leasts_16 rfl (lv_at hl 2 rfl) ?_
    obtain ⟨g2, h⟩ := gd_some h
    refine h_iald O hH ly_300 g2 dX12_leasts_17 ?_
    refine lv_topi (fun y3 e4 => ?_)
    have h := lt_at e4 h
    refine lv_istore_n (lv' := [(3, .int y3), (0, .ref (z + 281)), (1, .int x1), (2, .int x2)]) hx hb dX12_leasts_18 rfl hl (by decide) rfl (fun ls hl => ?_)
    refine lv_iload_n hx hb dX12_leasts_19 rfl (lv_at hl 0 rfl) ?_
    refine lv_if_ge (tgt := 26) hx hb dX12_leasts_20 (by decide) (fun c5 => ?_) (fun c5 => ?_)
    · have h := it_pos h c5
      obtain ⟨y6, e7, h⟩ := lt_some h
      refine lv_iinc (v := y6) (lv' := [(1, .int y6), (3, .int y3), (0, .ref (z + 281)), (2, .int x2)]) hx hb dX12_leasts_26 hl (k := 2) rfl (by rw [e7]; rfl) (by decide) rfl (fun ls hl => ?_)
      refine lv_iload_n hx hb dX12_leasts_29 rfl (lv_at hl 3 rfl) ?_
      refine lv_istore (lv' := [(4, .int x2), (1, .int y6), (3, .int y3), (0, .ref (z + 281)), (2, .int x2)]) hx hb dX12_leasts_30 hl (by decide) rfl (fun ls hl => ?_)
      exact w_X12_leasts_32 O hr hlk hk4 FU _ _ _ _ _ h _ _ _ hH (lv_sub hl [3, 1, 4, 2, 0] rfl)
    · have h := it_neg h c5
      refine lv_goto (tgt := 66) hx hb dX12_leasts_23 (by decide) ?_
      exact w_X12_leasts_66 O hr hlk hk4 _ _ _ h _ _ _ hH (lv_sub hl [1, 2, 3] rfl)
set_option maxHeartbeats 4000000 in
theorem w_X12_leasts_4 {G : va_G} {tA : Nat → ClassId} {z : Nat} {E : Ex} {p : Program} {l : Launch} {e : Env} {s : State} {m : MethodId} {args : Array Value} {below : List Frame} {meth : Method} {c : Code} {D' : Dm} (O : Ok G tA z E cX12_leasts RX12 5 p s m args c) (hr : meth.sig.returnType = none) (hlk : meth.locks = false) : ∀ (n : Nat) (x1 : Int32) (x2 : Int32) (D : Dm) (h : f_X12_leasts_4 n x1 x2 D = some D'), BV G tA z E p l e (rmC 1 0 0) s m args below meth c LAY D D' 5 4 [(0, .ref (z + 281)), (1, .int x1), (2, .int x2)] [] := by
  intro n
  induction n with
  | zero => intro x1 x2 D h; exact no_some h
  | succ n ih => intro x1 x2 D h; exact w_X12_leasts_4_b O hr hlk (fun x1 x2 D h => ih x1 x2 D h) x1 x2 D h
set_option maxHeartbeats 4000000 in
theorem w_X12_leasts {G : va_G} {tA : Nat → ClassId} {z : Nat} {E : Ex} {p : Program} {l : Launch} {e : Env} {s : State} {m : MethodId} {args : Array Value} {below : List Frame} {meth : Method} {c : Code} {D' : Dm} (O : Ok G tA z E cX12_leasts RX12 5 p s m args c) (hr : meth.sig.returnType = none) (hlk : meth.locks = false)  (D : Dm) (h : f_X12_leasts  D = some D') : BV G tA z E p l e (rmC 1 0 0) s m args below meth c LAY D D' 5 0 [(0, .ref (z + 281))] [] := by
  obtain ⟨hx, hb, -, hown, hts, -⟩ := id O
  unfold f_X12_leasts at h
  intro H locs ls hH hl
  refine lv_iconst (v := 0) hx hb dX12_leasts_0 (by decide) ?_
  refine lv_istore_n (lv' := [(1, .int 0), (0, .ref (z + 281))]) hx hb dX12_leasts_1 rfl hl (by decide) rfl (fun ls hl => ?_)
  refine lv_iconst (v := 0) hx hb dX12_leasts_2 (by decide) ?_
  refine lv_istore_n (lv' := [(2, .int 0), (1, .int 0), (0, .ref (z + 281))]) hx hb dX12_leasts_3 rfl hl (by decide) rfl (fun ls hl => ?_)
  exact w_X12_leasts_4 O hr hlk FU _ _ _ h _ _ _ hH (lv_sub hl [2, 1, 0] rfl)
set_option maxHeartbeats 4000000 in
theorem c_X12_leasts {l : Launch} {G : va_G} {tA : Nat → ClassId} {z : Nat} {E : Ex}  {D D' : Dm} (h : f_X12_leasts  D = some D') : CtV l yX12_leasts cX12_leasts 5 G tA z E 1 0 0 [.ref (z + 281)] LAY D LAY D' :=
  ct_BV (by decide +kernel) (Nat.le_of_ble_eq_true rfl) (fun _ _ _ _ _ _ _ _ O hr hlk => w_X12_leasts O hr hlk  _ h)
set_option maxHeartbeats 4000000 in
theorem w_X12_runs_6_b {G : va_G} {tA : Nat → ClassId} {z : Nat} {E : Ex} {p : Program} {l : Launch} {e : Env} {s : State} {m : MethodId} {args : Array Value} {below : List Frame} {meth : Method} {c : Code} {D' : Dm} (O : Ok G tA z E cX12_runs RX12 2 p s m args c) (hr : meth.sig.returnType = none) (hlk : meth.locks = false) {k6 : Int32 → Dm → Option Dm} (hk6 : ∀ (x1 : Int32) (D : Dm), k6 x1 D = some D' → BV G tA z E p l e (rmC 4 0 0) s m args below meth c LAY D D' 2 6 [(0, .ref (z + 281)), (1, .int x1)] []) (x1 : Int32) (D : Dm) (h : f_X12_runs_6_b k6 x1 D = some D') : BV G tA z E p l e (rmC 4 0 0) s m args below meth c LAY D D' 2 6 [(0, .ref (z + 281)), (1, .int x1)] [] := by
  obtain ⟨hx, hb, -, hown, hts, -⟩ := id O
  unfold f_X12_runs_6_b at h
  intro H locs ls hH hl
  refine lv_iload_n hx hb dX12_runs_6 rfl (lv_at hl 1 rfl) ?_
  refine lv_aload_n hx hb dX12_runs_7 rfl (lv_at hl 0 rfl) ?_
  refine h_geti O hH ly_281 rfl fl_X12_319 dX12_runs_8 ?_
  refine lv_icmp_ge (tgt := 37) hx hb dX12_runs_11 (by decide) (fun c1 => ?_) (fun c1 => ?_)
  · have h := it_pos h c1
    obtain rfl := ret_v h
    exact h_vret O hr hlk hH dX12_runs_37
  · have h := it_neg h c1
    refine lv_aload_n hx hb dX12_runs_14 rfl (lv_at hl 0 rfl) ?_
    refine lv_iconst (v := 0) hx hb dX12_runs_15 (by decide) ?_
    refine lv_aload_n hx hb dX12_runs_16 rfl (lv_at hl 0 rfl) ?_
    refine h_getr O hH ly_281 rfl fl_X12_69 dX12_runs_17 ?_
    refine lv_iload_n hx hb dX12_runs_20 rfl (lv_at hl 1 rfl) ?_
    obtain ⟨g2, h⟩ := gd_some h
    refine h_iald O hH ly_299 g2 dX12_runs_21 ?_
    refine lv_aload_n hx hb dX12_runs_22 rfl (lv_at hl 0 rfl) ?_
    refine h_getr O hH ly_281 rfl fl_X12_72 dX12_runs_23 ?_
    refine lv_iload_n hx hb dX12_runs_26 rfl (lv_at hl 1 rfl) ?_
    obtain ⟨g3, h⟩ := gd_some h
    refine h_iald O hH ly_300 g3 dX12_runs_27 ?_
    obtain ⟨D4, hc5, h⟩ := bV_some h
    refine h_callVv (As := [.int 0, .int (D 299 (Int32.toNatClampNeg x1)), .int (D 300 (Int32.toNatClampNeg x1))]) (rest := []) O hH (c_X12_goesBy hc5) ml_X12_279 ly_281 rfl rfl hl.1 rfl ⟨Nat.le_of_ble_eq_true rfl, Nat.le_of_ble_eq_true rfl⟩ (Nat.le_of_ble_eq_true rfl) dX12_runs_28 (fun H locs hH => ?_)
    obtain ⟨y6, e7, h⟩ := lt_some h
    refine lv_iinc (v := y6) (lv' := [(1, .int y6), (0, .ref (z + 281))]) hx hb dX12_runs_31 hl (k := 1) rfl (by rw [e7]; rfl) (by decide) rfl (fun ls hl => ?_)
    refine lv_goto (tgt := 6) hx hb dX12_runs_34 (by decide) ?_
    exact hk6 _ _ h _ _ _ hH (lv_sub hl [1, 0] rfl)
set_option maxHeartbeats 4000000 in
theorem w_X12_runs_6 {G : va_G} {tA : Nat → ClassId} {z : Nat} {E : Ex} {p : Program} {l : Launch} {e : Env} {s : State} {m : MethodId} {args : Array Value} {below : List Frame} {meth : Method} {c : Code} {D' : Dm} (O : Ok G tA z E cX12_runs RX12 2 p s m args c) (hr : meth.sig.returnType = none) (hlk : meth.locks = false) : ∀ (n : Nat) (x1 : Int32) (D : Dm) (h : f_X12_runs_6 n x1 D = some D'), BV G tA z E p l e (rmC 4 0 0) s m args below meth c LAY D D' 2 6 [(0, .ref (z + 281)), (1, .int x1)] [] := by
  intro n
  induction n with
  | zero => intro x1 D h; exact no_some h
  | succ n ih => intro x1 D h; exact w_X12_runs_6_b O hr hlk (fun x1 D h => ih x1 D h) x1 D h
set_option maxHeartbeats 4000000 in
theorem w_X12_runs {G : va_G} {tA : Nat → ClassId} {z : Nat} {E : Ex} {p : Program} {l : Launch} {e : Env} {s : State} {m : MethodId} {args : Array Value} {below : List Frame} {meth : Method} {c : Code} {D' : Dm} (O : Ok G tA z E cX12_runs RX12 2 p s m args c) (hr : meth.sig.returnType = none) (hlk : meth.locks = false)  (D : Dm) (h : f_X12_runs  D = some D') : BV G tA z E p l e (rmC 4 0 0) s m args below meth c LAY D D' 2 0 [(0, .ref (z + 281))] [] := by
  obtain ⟨hx, hb, -, hown, hts, -⟩ := id O
  unfold f_X12_runs at h
  intro H locs ls hH hl
  refine lv_aload_n hx hb dX12_runs_0 rfl (lv_at hl 0 rfl) ?_
  obtain ⟨D1, hc2, h⟩ := bV_some h
  refine h_callVv (As := []) (rest := []) O hH (c_X12_starts hc2) ml_X12_276 ly_281 rfl rfl hl.1 rfl ⟨Nat.le_of_ble_eq_true rfl, Nat.le_of_ble_eq_true rfl⟩ (Nat.le_of_ble_eq_true rfl) dX12_runs_1 (fun H locs hH => ?_)
  refine lv_iconst (v := 0) hx hb dX12_runs_4 (by decide) ?_
  refine lv_istore_n (lv' := [(1, .int 0), (0, .ref (z + 281))]) hx hb dX12_runs_5 rfl hl (by decide) rfl (fun ls hl => ?_)
  exact w_X12_runs_6 O hr hlk FU _ _ h _ _ _ hH (lv_sub hl [1, 0] rfl)
set_option maxHeartbeats 4000000 in
theorem c_X12_runs {l : Launch} {G : va_G} {tA : Nat → ClassId} {z : Nat} {E : Ex}  {D D' : Dm} (h : f_X12_runs  D = some D') : CtV l yX12_runs cX12_runs 2 G tA z E 4 0 0 [.ref (z + 281)] LAY D LAY D' :=
  ct_BV (by decide +kernel) (Nat.le_of_ble_eq_true rfl) (fun _ _ _ _ _ _ _ _ O hr hlk => w_X12_runs O hr hlk  _ h)
set_option maxHeartbeats 4000000 in
theorem w_X12_keepsOne {G : va_G} {tA : Nat → ClassId} {z : Nat} {E : Ex} {p : Program} {l : Launch} {e : Env} {s : State} {m : MethodId} {args : Array Value} {below : List Frame} {meth : Method} {c : Code} {D' : Dm} (O : Ok G tA z E cX12_keepsOne RX12 1 p s m args c) (hr : meth.sig.returnType = none) (hlk : meth.locks = false)  (D : Dm) (h : f_X12_keepsOne  D = some D') : BV G tA z E p l e (rmC 5 0 0) s m args below meth c LAY D D' 1 0 [(0, .ref (z + 281))] [] := by
  obtain ⟨hx, hb, -, hown, hts, -⟩ := id O
  unfold f_X12_keepsOne at h
  intro H locs ls hH hl
  refine lv_aload_n hx hb dX12_keepsOne_0 rfl (lv_at hl 0 rfl) ?_
  obtain ⟨D1, hc2, h⟩ := bV_some h
  refine h_callVv (As := []) (rest := []) O hH (c_X12_runs hc2) ml_X12_332 ly_281 rfl rfl hl.1 rfl ⟨Nat.le_of_ble_eq_true rfl, Nat.le_of_ble_eq_true rfl⟩ (Nat.le_of_ble_eq_true rfl) dX12_keepsOne_1 (fun H locs hH => ?_)
  refine lv_aload_n hx hb dX12_keepsOne_4 rfl (lv_at hl 0 rfl) ?_
  refine lv_aload_n hx hb dX12_keepsOne_5 rfl (lv_at hl 0 rfl) ?_
  refine h_geti O hH ly_281 rfl fl_X12_135 dX12_keepsOne_6 ?_
  obtain ⟨D3, e4, h⟩ := lt_some h
  refine h_puti O hH ly_281 rfl fl_X12_335 e4 dX12_keepsOne_9 (fun H locs hH => ?_)
  refine lv_aload_n hx hb dX12_keepsOne_12 rfl (lv_at hl 0 rfl) ?_
  refine lv_aload_n hx hb dX12_keepsOne_13 rfl (lv_at hl 0 rfl) ?_
  refine h_geti O hH ly_281 rfl fl_X12_138 dX12_keepsOne_14 ?_
  obtain ⟨D5, e6, h⟩ := lt_some h
  refine h_puti O hH ly_281 rfl fl_X12_338 e6 dX12_keepsOne_17 (fun H locs hH => ?_)
  refine lv_aload_n hx hb dX12_keepsOne_20 rfl (lv_at hl 0 rfl) ?_
  refine lv_aload_n hx hb dX12_keepsOne_21 rfl (lv_at hl 0 rfl) ?_
  refine h_geti O hH ly_281 rfl fl_X12_141 dX12_keepsOne_22 ?_
  obtain ⟨D7, e8, h⟩ := lt_some h
  refine h_puti O hH ly_281 rfl fl_X12_341 e8 dX12_keepsOne_25 (fun H locs hH => ?_)
  obtain rfl := ret_v h
  exact h_vret O hr hlk hH dX12_keepsOne_28
set_option maxHeartbeats 4000000 in
theorem c_X12_keepsOne {l : Launch} {G : va_G} {tA : Nat → ClassId} {z : Nat} {E : Ex}  {D D' : Dm} (h : f_X12_keepsOne  D = some D') : CtV l yX12_keepsOne cX12_keepsOne 1 G tA z E 5 0 0 [.ref (z + 281)] LAY D LAY D' :=
  ct_BV (by decide +kernel) (Nat.le_of_ble_eq_true rfl) (fun _ _ _ _ _ _ _ _ O hr hlk => w_X12_keepsOne O hr hlk  _ h)
set_option maxHeartbeats 4000000 in
theorem w_X12_answers_11_b {G : va_G} {tA : Nat → ClassId} {z : Nat} {E : Ex} {p : Program} {l : Launch} {e : Env} {s : State} {m : MethodId} {args : Array Value} {below : List Frame} {meth : Method} {c : Code} {r : Int32} {D' : Dm} (O : Ok G tA z E cX12_answers RX12 7 p s m args c) (hr : meth.sig.returnType = some .boolean) (hlk : meth.locks = false) {k11 : Int32 → Nat → Nat → Int32 → Dm → Option (Int32 × Dm)} (hk11 : ∀ (x1 : Int32) (r5 : Nat) (n5 : Nat) (x6 : Int32) (h5 : LAY[r5]? = some (.inl (0, n5))) (D : Dm), k11 x1 r5 n5 x6 D = some (r, D') → BI G tA z E p l e (rmC 4 0 0) s m args below meth c LAY D r D' 7 11 [(0, .ref (z + 281)), (1, .int x1), (5, .ref (z + r5)), (6, .int x6)] []) (x1 : Int32) (r5 : Nat) (n5 : Nat) (x6 : Int32) (h5 : LAY[r5]? = some (.inl (0, n5))) (D : Dm) (h : f_X12_answers_11_b k11 x1 r5 n5 x6 D = some (r, D')) : BI G tA z E p l e (rmC 4 0 0) s m args below meth c LAY D r D' 7 11 [(0, .ref (z + 281)), (1, .int x1), (5, .ref (z + r5)), (6, .int x6)] [] := by
  obtain ⟨hx, hb, -, hown, hts, -⟩ := id O
  unfold f_X12_answers_11_b at h
  intro H locs ls hH hl
  refine lv_iload hx hb dX12_answers_11 (lv_at hl 3 rfl) ?_
  refine lv_aload_n hx hb dX12_answers_13 rfl (lv_at hl 0 rfl) ?_
  refine h_getr O hH ly_281 rfl fl_X12_48 dX12_answers_14 ?_
  refine lv_iload_n hx hb dX12_answers_17 rfl (lv_at hl 1 rfl) ?_
  obtain ⟨g1, h⟩ := gd_some h
  refine h_iald O hH ly_292 g1 dX12_answers_18 ?_
  refine lv_icmp_ge (tgt := 60) hx hb dX12_answers_19 (by decide) (fun c2 => ?_) (fun c2 => ?_)
  · have h := it_pos h c2
    refine lv_aload_n hx hb dX12_answers_60 rfl (lv_at hl 0 rfl) ?_
    refine lv_iconst (v := 0) hx hb dX12_answers_61 (by decide) ?_
    obtain ⟨y5, D3, hc4, h⟩ := bI_some h
    refine h_callVi (As := [.int 0]) (rest := []) O hH (c_X12_accepts hc4) ml_X12_285 ly_281 rfl rfl hl.1 rfl ⟨Nat.le_of_ble_eq_true rfl, Nat.le_of_ble_eq_true rfl⟩ (Nat.le_of_ble_eq_true rfl) dX12_answers_62 (fun H locs hH => ?_)
    obtain ⟨g6, h⟩ := gd_some h
    obtain ⟨rfl, rfl⟩ := ret_i h
    exact h_zret O hr hlk (zbB_ok g6) hH dX12_answers_65
  · have h := it_neg h c2
    refine lv_aload_n hx hb dX12_answers_22 rfl (lv_at hl 0 rfl) ?_
    refine lv_iconst (v := 0) hx hb dX12_answers_23 (by decide) ?_
    refine lv_aload_n hx hb dX12_answers_24 rfl (lv_at hl 0 rfl) ?_
    refine h_getr O hH ly_281 rfl fl_X12_51 dX12_answers_25 ?_
    refine lv_bipush (v := 6) hx hb dX12_answers_28 (by decide) ?_
    refine lv_iload_n hx hb dX12_answers_30 rfl (lv_at hl 1 rfl) ?_
    refine lv_imul hx hb dX12_answers_31 ?_
    refine lv_iload hx hb dX12_answers_32 (lv_at hl 3 rfl) ?_
    refine lv_iadd hx hb dX12_answers_34 ?_
    obtain ⟨g7, h⟩ := gd_some h
    refine h_iald O hH ly_293 g7 dX12_answers_35 ?_
    refine lv_aload hx hb dX12_answers_36 (lv_at hl 2 rfl) ?_
    refine lv_aload_n hx hb dX12_answers_38 rfl (lv_at hl 0 rfl) ?_
    refine h_getr O hH ly_281 rfl fl_X12_54 dX12_answers_39 ?_
    refine lv_bipush (v := 6) hx hb dX12_answers_42 (by decide) ?_
    refine lv_iload_n hx hb dX12_answers_44 rfl (lv_at hl 1 rfl) ?_
    refine lv_imul hx hb dX12_answers_45 ?_
    refine lv_iload hx hb dX12_answers_46 (lv_at hl 3 rfl) ?_
    refine lv_iadd hx hb dX12_answers_48 ?_
    obtain ⟨g8, h⟩ := gd_some h
    refine h_iald O hH ly_294 g8 dX12_answers_49 ?_
    obtain ⟨g9, h⟩ := gd_some h
    refine h_iald O hH h5 g9 dX12_answers_50 ?_
    obtain ⟨D10, hc11, h⟩ := bV_some h
    refine h_callVv (As := [.int 0, .int (D 293 (Int32.toNatClampNeg ((6 * x1) + x6))), .int (D r5 (Int32.toNatClampNeg (D 294 (Int32.toNatClampNeg ((6 * x1) + x6)))))]) (rest := []) O hH (c_X12_goesBy hc11) ml_X12_279 ly_281 rfl rfl hl.1 rfl ⟨Nat.le_of_ble_eq_true rfl, Nat.le_of_ble_eq_true rfl⟩ (Nat.le_of_ble_eq_true rfl) dX12_answers_51 (fun H locs hH => ?_)
    obtain ⟨y12, e13, h⟩ := lt_some h
    refine lv_iinc (v := y12) (lv' := [(6, .int y12), (0, .ref (z + 281)), (1, .int x1), (5, .ref (z + r5))]) hx hb dX12_answers_54 hl (k := 3) rfl (by rw [e13]; rfl) (by decide) rfl (fun ls hl => ?_)
    refine lv_goto (tgt := 11) hx hb dX12_answers_57 (by decide) ?_
    exact hk11 _ _ _ _ h5 _ h _ _ _ hH (lv_sub hl [1, 2, 3, 0] rfl)
set_option maxHeartbeats 4000000 in
theorem w_X12_answers_11 {G : va_G} {tA : Nat → ClassId} {z : Nat} {E : Ex} {p : Program} {l : Launch} {e : Env} {s : State} {m : MethodId} {args : Array Value} {below : List Frame} {meth : Method} {c : Code} {r : Int32} {D' : Dm} (O : Ok G tA z E cX12_answers RX12 7 p s m args c) (hr : meth.sig.returnType = some .boolean) (hlk : meth.locks = false) : ∀ (n : Nat) (x1 : Int32) (r5 : Nat) (n5 : Nat) (x6 : Int32) (h5 : LAY[r5]? = some (.inl (0, n5))) (D : Dm) (h : f_X12_answers_11 n x1 r5 n5 x6 D = some (r, D')), BI G tA z E p l e (rmC 4 0 0) s m args below meth c LAY D r D' 7 11 [(0, .ref (z + 281)), (1, .int x1), (5, .ref (z + r5)), (6, .int x6)] [] := by
  intro n
  induction n with
  | zero => intro x1 r5 n5 x6 h5 D h; exact no_some h
  | succ n ih => intro x1 r5 n5 x6 h5 D h; exact w_X12_answers_11_b O hr hlk (fun x1 r5 n5 x6 h5 D h => ih x1 r5 n5 x6 h5 D h) x1 r5 n5 x6 h5 D h
set_option maxHeartbeats 4000000 in
theorem w_X12_answers {G : va_G} {tA : Nat → ClassId} {z : Nat} {E : Ex} {p : Program} {l : Launch} {e : Env} {s : State} {m : MethodId} {args : Array Value} {below : List Frame} {meth : Method} {c : Code} {r : Int32} {D' : Dm} (O : Ok G tA z E cX12_answers RX12 7 p s m args c) (hr : meth.sig.returnType = some .boolean) (hlk : meth.locks = false) (x1 : Int32) (x2 : Int32) (x3 : Int32) (x4 : Int32) (r5 : Nat) (n5 : Nat) (h5 : LAY[r5]? = some (.inl (0, n5))) (D : Dm) (h : f_X12_answers x1 x2 x3 x4 r5 n5 D = some (r, D')) : BI G tA z E p l e (rmC 4 0 0) s m args below meth c LAY D r D' 7 0 [(0, .ref (z + 281)), (1, .int x1), (2, .int x2), (3, .int x3), (4, .int x4), (5, .ref (z + r5))] [] := by
  obtain ⟨hx, hb, -, hown, hts, -⟩ := id O
  unfold f_X12_answers at h
  intro H locs ls hH hl
  refine lv_aload_n hx hb dX12_answers_0 rfl (lv_at hl 0 rfl) ?_
  refine lv_iload_n hx hb dX12_answers_1 rfl (lv_at hl 2 rfl) ?_
  refine lv_iload_n hx hb dX12_answers_2 rfl (lv_at hl 3 rfl) ?_
  refine lv_iload hx hb dX12_answers_3 (lv_at hl 4 rfl) ?_
  obtain ⟨D1, hc2, h⟩ := bV_some h
  refine h_callVv (As := [.int x2, .int x3, .int x4]) (rest := []) O hH (c_X12_stays hc2) ml_X12_144 ly_281 rfl rfl hl.1 rfl ⟨Nat.le_of_ble_eq_true rfl, Nat.le_of_ble_eq_true rfl⟩ (Nat.le_of_ble_eq_true rfl) dX12_answers_5 (fun H locs hH => ?_)
  refine lv_iconst (v := 0) hx hb dX12_answers_8 (by decide) ?_
  refine lv_istore (lv' := [(6, .int 0), (0, .ref (z + 281)), (1, .int x1), (2, .int x2), (3, .int x3), (4, .int x4), (5, .ref (z + r5))]) hx hb dX12_answers_9 hl (by decide) rfl (fun ls hl => ?_)
  exact w_X12_answers_11 O hr hlk FU _ _ _ _ h5 _ h _ _ _ hH (lv_sub hl [1, 2, 6, 0] rfl)
set_option maxHeartbeats 4000000 in
theorem c_X12_answers {l : Launch} {G : va_G} {tA : Nat → ClassId} {z : Nat} {E : Ex} {x1 : Int32} {x2 : Int32} {x3 : Int32} {x4 : Int32} {r5 : Nat} {n5 : Nat} (h5 : LAY[r5]? = some (.inl (0, n5))) {D D' : Dm} {r : Int32} (h : f_X12_answers x1 x2 x3 x4 r5 n5 D = some (r, D')) : CtI l yX12_answers cX12_answers 7 (some .boolean) G tA z E 4 0 0 [.ref (z + 281), .int x1, .int x2, .int x3, .int x4, .ref (z + r5)] LAY D r LAY D' :=
  ct_BI (by decide +kernel) (Nat.le_of_ble_eq_true rfl) (fun _ _ _ _ _ _ _ _ O hr hlk => w_X12_answers O hr hlk _ _ _ _ _ _ h5 _ h)
set_option maxHeartbeats 4000000 in
theorem w_X12_answersOne {G : va_G} {tA : Nat → ClassId} {z : Nat} {E : Ex} {p : Program} {l : Launch} {e : Env} {s : State} {m : MethodId} {args : Array Value} {below : List Frame} {meth : Method} {c : Code} {r : Int32} {D' : Dm} (O : Ok G tA z E cX12_answersOne RX12 2 p s m args c) (hr : meth.sig.returnType = some .boolean) (hlk : meth.locks = false) (x1 : Int32) (D : Dm) (h : f_X12_answersOne x1 D = some (r, D')) : BI G tA z E p l e (rmC 5 0 0) s m args below meth c LAY D r D' 2 0 [(0, .ref (z + 281)), (1, .int x1)] [] := by
  obtain ⟨hx, hb, -, hown, hts, -⟩ := id O
  unfold f_X12_answersOne at h
  intro H locs ls hH hl
  refine lv_aload_n hx hb dX12_answersOne_0 rfl (lv_at hl 0 rfl) ?_
  refine lv_iload_n hx hb dX12_answersOne_1 rfl (lv_at hl 1 rfl) ?_
  refine lv_aload_n hx hb dX12_answersOne_2 rfl (lv_at hl 0 rfl) ?_
  refine h_geti O hH ly_281 rfl fl_X12_335 dX12_answersOne_3 ?_
  refine lv_aload_n hx hb dX12_answersOne_6 rfl (lv_at hl 0 rfl) ?_
  refine h_geti O hH ly_281 rfl fl_X12_338 dX12_answersOne_7 ?_
  refine lv_aload_n hx hb dX12_answersOne_10 rfl (lv_at hl 0 rfl) ?_
  refine h_geti O hH ly_281 rfl fl_X12_341 dX12_answersOne_11 ?_
  refine lv_aload_n hx hb dX12_answersOne_14 rfl (lv_at hl 0 rfl) ?_
  refine h_getr O hH ly_281 rfl fl_X12_75 dX12_answersOne_15 ?_
  obtain ⟨y3, D1, hc2, h⟩ := bI_some h
  refine h_callVi (As := [.int x1, .int (D 281 37), .int (D 281 38), .int (D 281 39), .ref (z + 301)]) (rest := []) O hH (c_X12_answers ly_301 hc2) ml_X12_344 ly_281 rfl rfl hl.1 rfl ⟨Nat.le_of_ble_eq_true rfl, Nat.le_of_ble_eq_true rfl⟩ (Nat.le_of_ble_eq_true rfl) dX12_answersOne_18 (fun H locs hH => ?_)
  obtain ⟨g4, h⟩ := gd_some h
  obtain ⟨rfl, rfl⟩ := ret_i h
  exact h_zret O hr hlk (zbB_ok g4) hH dX12_answersOne_21
set_option maxHeartbeats 4000000 in
theorem c_X12_answersOne {l : Launch} {G : va_G} {tA : Nat → ClassId} {z : Nat} {E : Ex} {x1 : Int32} {D D' : Dm} {r : Int32} (h : f_X12_answersOne x1 D = some (r, D')) : CtI l yX12_answersOne cX12_answersOne 2 (some .boolean) G tA z E 5 0 0 [.ref (z + 281), .int x1] LAY D r LAY D' :=
  ct_BI (by decide +kernel) (Nat.le_of_ble_eq_true rfl) (fun _ _ _ _ _ _ _ _ O hr hlk => w_X12_answersOne O hr hlk _ _ h)
set_option maxHeartbeats 4000000 in
theorem w_X12_ownOf {G : va_G} {tA : Nat → ClassId} {z : Nat} {E : Ex} {p : Program} {l : Launch} {e : Env} {s : State} {m : MethodId} {args : Array Value} {below : List Frame} {meth : Method} {c : Code} {r : Int32} {D' : Dm} (O : Ok G tA z E cX12_ownOf RX12 2 p s m args c) (hr : meth.sig.returnType = some .int) (hlk : meth.locks = false) (x1 : Int32) (D : Dm) (h : f_X12_ownOf x1 D = some (r, D')) : BI G tA z E p l e (rmC 2 0 0) s m args below meth c LAY D r D' 2 0 [(0, .ref (z + 281)), (1, .int x1)] [] := by
  obtain ⟨hx, hb, -, hown, hts, -⟩ := id O
  unfold f_X12_ownOf at h
  intro H locs ls hH hl
  refine lv_aload_n hx hb dX12_ownOf_0 rfl (lv_at hl 0 rfl) ?_
  refine lv_aload_n hx hb dX12_ownOf_1 rfl (lv_at hl 0 rfl) ?_
  refine h_getr O hH ly_281 rfl fl_X12_54 dX12_ownOf_2 ?_
  refine lv_bipush (v := 6) hx hb dX12_ownOf_5 (by decide) ?_
  refine lv_iload_n hx hb dX12_ownOf_7 rfl (lv_at hl 1 rfl) ?_
  refine lv_imul hx hb dX12_ownOf_8 ?_
  refine lv_aload_n hx hb dX12_ownOf_9 rfl (lv_at hl 0 rfl) ?_
  refine h_getr O hH ly_281 rfl fl_X12_48 dX12_ownOf_10 ?_
  refine lv_iload_n hx hb dX12_ownOf_13 rfl (lv_at hl 1 rfl) ?_
  obtain ⟨g1, h⟩ := gd_some h
  refine h_iald O hH ly_292 g1 dX12_ownOf_14 ?_
  obtain ⟨y4, D2, hc3, h⟩ := bI_some h
  refine h_callVi (As := [.ref (z + 294), .int (6 * x1), .int (D 292 (Int32.toNatClampNeg x1))]) (rest := []) O hH (c_X12_namesOf ly_294 hc3) ml_X12_328 ly_281 rfl rfl hl.1 rfl ⟨Nat.le_of_ble_eq_true rfl, Nat.le_of_ble_eq_true rfl⟩ (Nat.le_of_ble_eq_true rfl) dX12_ownOf_15 (fun H locs hH => ?_)
  obtain ⟨rfl, rfl⟩ := ret_i h
  exact h_iret O hr hlk hH dX12_ownOf_18
set_option maxHeartbeats 4000000 in
theorem c_X12_ownOf {l : Launch} {G : va_G} {tA : Nat → ClassId} {z : Nat} {E : Ex} {x1 : Int32} {D D' : Dm} {r : Int32} (h : f_X12_ownOf x1 D = some (r, D')) : CtI l yX12_ownOf cX12_ownOf 2 (some .int) G tA z E 2 0 0 [.ref (z + 281), .int x1] LAY D r LAY D' :=
  ct_BI (by decide +kernel) (Nat.le_of_ble_eq_true rfl) (fun _ _ _ _ _ _ _ _ O hr hlk => w_X12_ownOf O hr hlk _ _ h)
set_option maxHeartbeats 4000000 in
theorem w_X12_looksAt_155 {G : va_G} {tA : Nat → ClassId} {z : Nat} {E : Ex} {p : Program} {l : Launch} {e : Env} {s : State} {m : MethodId} {args : Array Value} {below : List Frame} {meth : Method} {c : Code} {D' : Dm} (O : Ok G tA z E cX12_looksAt RX12 8 p s m args c) (hr : meth.sig.returnType = none) (hlk : meth.locks = false) {k9 : Int32 → Int32 → Int32 → Int32 → Dm → Option Dm} (hk9 : ∀ (x1 : Int32) (x2 : Int32) (x3 : Int32) (x4 : Int32) (D : Dm), k9 x1 x2 x3 x4 D = some D' → BV G tA z E p l e (rmC 6 0 0) s m args below meth c LAY D D' 8 9 [(0, .ref (z + 281)), (1, .int x1), (2, .int x2), (3, .int x3), (4, .int x4)] []) (x1 : Int32) (x2 : Int32) (x3 : Int32) (x4 : Int32) (D : Dm) (h : f_X12_looksAt_155 k9 x1 x2 x3 x4 D = some D') : BV G tA z E p l e (rmC 6 0 0) s m args below meth c LAY D D' 8 155 [(0, .ref (z + 281)), (1, .int x1), (2, .int x2), (3, .int x3), (4, .int x4)] [] := by
  obtain ⟨hx, hb, -, hown, hts, -⟩ := id O
  unfold f_X12_looksAt_155 at h
  intro H locs ls hH hl
  obtain ⟨y1, e2, h⟩ := lt_some h
  refine lv_iinc (v := y1) (lv' := [(4, .int y1), (0, .ref (z + 281)), (1, .int x1), (2, .int x2), (3, .int x3)]) hx hb dX12_looksAt_155 hl (k := 4) rfl (by rw [e2]; rfl) (by decide) rfl (fun ls hl => ?_)
  refine lv_goto (tgt := 9) hx hb dX12_looksAt_158 (by decide) ?_
  exact hk9 _ _ _ _ _ h _ _ _ hH (lv_sub hl [1, 2, 3, 4, 0] rfl)
set_option maxHeartbeats 4000000 in
theorem w_X12_looksAt_128_b {G : va_G} {tA : Nat → ClassId} {z : Nat} {E : Ex} {p : Program} {l : Launch} {e : Env} {s : State} {m : MethodId} {args : Array Value} {below : List Frame} {meth : Method} {c : Code} {D' : Dm} (O : Ok G tA z E cX12_looksAt RX12 8 p s m args c) (hr : meth.sig.returnType = none) (hlk : meth.locks = false) {k128 : Int32 → Dm → Option Dm} (hk128 : ∀ (x7 : Int32) (D : Dm), k128 x7 D = some D' → BV G tA z E p l e (rmC 6 0 0) s m args below meth c LAY D D' 8 128 [(0, .ref (z + 281)), (7, .int x7)] []) (x7 : Int32) (D : Dm) (h : f_X12_looksAt_128_b k128 x7 D = some D') : BV G tA z E p l e (rmC 6 0 0) s m args below meth c LAY D D' 8 128 [(0, .ref (z + 281)), (7, .int x7)] [] := by
  obtain ⟨hx, hb, -, hown, hts, -⟩ := id O
  unfold f_X12_looksAt_128_b at h
  intro H locs ls hH hl
  refine lv_iload hx hb dX12_looksAt_128 (lv_at hl 1 rfl) ?_
  refine lv_iconst (v := 3) hx hb dX12_looksAt_130 (by decide) ?_
  refine lv_icmp_ge (tgt := 154) hx hb dX12_looksAt_131 (by decide) (fun c1 => ?_) (fun c1 => ?_)
  · have h := it_pos h c1
    obtain rfl := ret_v h
    exact h_vret O hr hlk hH dX12_looksAt_154
  · have h := it_neg h c1
    refine lv_aload_n hx hb dX12_looksAt_134 rfl (lv_at hl 0 rfl) ?_
    refine h_getr O hH ly_281 rfl fl_X12_81 dX12_looksAt_135 ?_
    refine lv_iload hx hb dX12_looksAt_138 (lv_at hl 1 rfl) ?_
    refine lv_aload_n hx hb dX12_looksAt_140 rfl (lv_at hl 0 rfl) ?_
    refine h_getr O hH ly_281 rfl fl_X12_75 dX12_looksAt_141 ?_
    refine lv_iload hx hb dX12_looksAt_144 (lv_at hl 1 rfl) ?_
    obtain ⟨g2, h⟩ := gd_some h
    refine h_iald O hH ly_301 g2 dX12_looksAt_146 ?_
    obtain ⟨g3, h⟩ := gd_some h
    obtain ⟨D4, e5, h⟩ := lt_some h
    refine h_iast O hH ly_303 g3 e5 dX12_looksAt_147 (fun H locs hH => ?_)
    obtain ⟨y6, e7, h⟩ := lt_some h
    refine lv_iinc (v := y6) (lv' := [(7, .int y6), (0, .ref (z + 281))]) hx hb dX12_looksAt_148 hl (k := 1) rfl (by rw [e7]; rfl) (by decide) rfl (fun ls hl => ?_)
    refine lv_goto (tgt := 128) hx hb dX12_looksAt_151 (by decide) ?_
    exact hk128 _ _ h _ _ _ hH (lv_sub hl [1, 0] rfl)
set_option maxHeartbeats 4000000 in
theorem w_X12_looksAt_128 {G : va_G} {tA : Nat → ClassId} {z : Nat} {E : Ex} {p : Program} {l : Launch} {e : Env} {s : State} {m : MethodId} {args : Array Value} {below : List Frame} {meth : Method} {c : Code} {D' : Dm} (O : Ok G tA z E cX12_looksAt RX12 8 p s m args c) (hr : meth.sig.returnType = none) (hlk : meth.locks = false) : ∀ (n : Nat) (x7 : Int32) (D : Dm) (h : f_X12_looksAt_128 n x7 D = some D'), BV G tA z E p l e (rmC 6 0 0) s m args below meth c LAY D D' 8 128 [(0, .ref (z + 281)), (7, .int x7)] [] := by
  intro n
  induction n with
  | zero => intro x7 D h; exact no_some h
  | succ n ih => intro x7 D h; exact w_X12_looksAt_128_b O hr hlk (fun x7 D h => ih x7 D h) x7 D h
set_option maxHeartbeats 4000000 in
theorem w_X12_looksAt_71 {G : va_G} {tA : Nat → ClassId} {z : Nat} {E : Ex} {p : Program} {l : Launch} {e : Env} {s : State} {m : MethodId} {args : Array Value} {below : List Frame} {meth : Method} {c : Code} {D' : Dm} (O : Ok G tA z E cX12_looksAt RX12 8 p s m args c) (hr : meth.sig.returnType = none) (hlk : meth.locks = false) {k9 : Int32 → Int32 → Int32 → Int32 → Dm → Option Dm} (hk9 : ∀ (x1 : Int32) (x2 : Int32) (x3 : Int32) (x4 : Int32) (D : Dm), k9 x1 x2 x3 x4 D = some D' → BV G tA z E p l e (rmC 6 0 0) s m args below meth c LAY D D' 8 9 [(0, .ref (z + 281)), (1, .int x1), (2, .int x2), (3, .int x3), (4, .int x4)] []) (x1 : Int32) (x2 : Int32) (x3 : Int32) (x4 : Int32) (x5 : Int32) (xs0 : Int32) (D : Dm) (h : f_X12_looksAt_71 k9 x1 x2 x3 x4 x5 xs0 D = some D') : BV G tA z E p l e (rmC 6 0 0) s m args below meth c LAY D D' 8 71 [(0, .ref (z + 281)), (1, .int x1), (2, .int x2), (3, .int x3), (4, .int x4), (5, .int x5)] [.int xs0] := by
  obtain ⟨hx, hb, -, hown, hts, -⟩ := id O
  unfold f_X12_looksAt_71 at h
  intro H locs ls hH hl
  refine lv_istore (lv' := [(6, .int xs0), (0, .ref (z + 281)), (1, .int x1), (2, .int x2), (3, .int x3), (4, .int x4), (5, .int x5)]) hx hb dX12_looksAt_71 hl (by decide) rfl (fun ls hl => ?_)
  refine lv_aload_n hx hb dX12_looksAt_73 rfl (lv_at hl 1 rfl) ?_
  refine h_getr O hH ly_281 rfl fl_X12_75 dX12_looksAt_74 ?_
  refine lv_iload hx hb dX12_looksAt_77 (lv_at hl 5 rfl) ?_
  refine lv_iload hx hb dX12_looksAt_79 (lv_at hl 6 rfl) ?_
  obtain ⟨g1, h⟩ := gd_some h
  obtain ⟨D2, e3, h⟩ := lt_some h
  refine h_iast O hH ly_301 g1 e3 dX12_looksAt_81 (fun H locs hH => ?_)
  refine lv_iload hx hb dX12_looksAt_82 (lv_at hl 0 rfl) ?_
  refine lv_if_ne (tgt := 90) hx hb dX12_looksAt_84 (by decide) (fun c4 => ?_) (fun c4 => ?_)
  · have h := it_neg h c4
    refine lv_aload_n hx hb dX12_looksAt_90 rfl (lv_at hl 1 rfl) ?_
    refine lv_dup hx hb dX12_looksAt_91 rfl ?_
    refine h_geti O hH ly_281 rfl fl_X12_360 dX12_looksAt_92 ?_
    refine lv_iconst (v := 1) hx hb dX12_looksAt_95 (by decide) ?_
    refine lv_iload hx hb dX12_looksAt_96 (lv_at hl 6 rfl) ?_
    refine lv_ishl hx hb dX12_looksAt_98 ?_
    refine lv_ior hx hb dX12_looksAt_99 ?_
    obtain ⟨D5, e6, h⟩ := lt_some h
    refine h_puti O hH ly_281 rfl fl_X12_360 e6 dX12_looksAt_100 (fun H locs hH => ?_)
    refine lv_iload hx hb dX12_looksAt_103 (lv_at hl 6 rfl) ?_
    refine lv_aload_n hx hb dX12_looksAt_105 rfl (lv_at hl 1 rfl) ?_
    refine h_geti O hH ly_281 rfl fl_X12_363 dX12_looksAt_106 ?_
    refine lv_icmp_eq (tgt := 115) hx hb dX12_looksAt_109 (by decide) (fun c7 => ?_) (fun c7 => ?_)
    · have h := it_pos h c7
      refine lv_aload_n hx hb dX12_looksAt_115 rfl (lv_at hl 1 rfl) ?_
      refine lv_iconst (v := 1) hx hb dX12_looksAt_116 (by decide) ?_
      obtain ⟨D8, e9, h⟩ := lt_some h
      refine h_putz O hH ly_281 rfl fl_X12_348 zb_1 e9 dX12_looksAt_117 (fun H locs hH => ?_)
      refine lv_aload_n hx hb dX12_looksAt_120 rfl (lv_at hl 1 rfl) ?_
      refine lv_iload_n hx hb dX12_looksAt_121 rfl (lv_at hl 2 rfl) ?_
      obtain ⟨D10, e11, h⟩ := lt_some h
      refine h_puti O hH ly_281 rfl fl_X12_366 e11 dX12_looksAt_122 (fun H locs hH => ?_)
      refine lv_iconst (v := 0) hx hb dX12_looksAt_125 (by decide) ?_
      refine lv_istore (lv' := [(7, .int 0), (6, .int xs0), (0, .ref (z + 281)), (1, .int x1), (2, .int x2), (3, .int x3), (4, .int x4), (5, .int x5)]) hx hb dX12_looksAt_126 hl (by decide) rfl (fun ls hl => ?_)
      exact w_X12_looksAt_128 O hr hlk FU _ _ h _ _ _ hH (lv_sub hl [2, 0] rfl)
    · have h := it_neg h c7
      refine lv_goto (tgt := 155) hx hb dX12_looksAt_112 (by decide) ?_
      exact w_X12_looksAt_155 O hr hlk hk9 _ _ _ _ _ h _ _ _ hH (lv_sub hl [1, 2, 3, 4, 5] rfl)
  · have h := it_pos h c4
    refine lv_goto (tgt := 155) hx hb dX12_looksAt_87 (by decide) ?_
    exact w_X12_looksAt_155 O hr hlk hk9 _ _ _ _ _ h _ _ _ hH (lv_sub hl [1, 2, 3, 4, 5] rfl)
set_option maxHeartbeats 4000000 in
theorem w_X12_looksAt_9_b {G : va_G} {tA : Nat → ClassId} {z : Nat} {E : Ex} {p : Program} {l : Launch} {e : Env} {s : State} {m : MethodId} {args : Array Value} {below : List Frame} {meth : Method} {c : Code} {D' : Dm} (O : Ok G tA z E cX12_looksAt RX12 8 p s m args c) (hr : meth.sig.returnType = none) (hlk : meth.locks = false) {k9 : Int32 → Int32 → Int32 → Int32 → Dm → Option Dm} (hk9 : ∀ (x1 : Int32) (x2 : Int32) (x3 : Int32) (x4 : Int32) (D : Dm), k9 x1 x2 x3 x4 D = some D' → BV G tA z E p l e (rmC 6 0 0) s m args below meth c LAY D D' 8 9 [(0, .ref (z + 281)), (1, .int x1), (2, .int x2), (3, .int x3), (4, .int x4)] []) (x1 : Int32) (x2 : Int32) (x3 : Int32) (x4 : Int32) (D : Dm) (h : f_X12_looksAt_9_b k9 x1 x2 x3 x4 D = some D') : BV G tA z E p l e (rmC 6 0 0) s m args below meth c LAY D D' 8 9 [(0, .ref (z + 281)), (1, .int x1), (2, .int x2), (3, .int x3), (4, .int x4)] [] := by
  obtain ⟨hx, hb, -, hown, hts, -⟩ := id O
  unfold f_X12_looksAt_9_b at h
  intro H locs ls hH hl
  refine lv_iload hx hb dX12_looksAt_9 (lv_at hl 4 rfl) ?_
  refine lv_iload_n hx hb dX12_looksAt_11 rfl (lv_at hl 2 rfl) ?_
  refine lv_icmp_ge (tgt := 161) hx hb dX12_looksAt_12 (by decide) (fun c1 => ?_) (fun c1 => ?_)
  · have h := it_pos h c1
    obtain rfl := ret_v h
    exact h_vret O hr hlk hH dX12_looksAt_161
  · have h := it_neg h c1
    refine lv_aload_n hx hb dX12_looksAt_15 rfl (lv_at hl 0 rfl) ?_
    refine h_getr O hH ly_281 rfl fl_X12_75 dX12_looksAt_16 ?_
    refine lv_iload hx hb dX12_looksAt_19 (lv_at hl 4 rfl) ?_
    obtain ⟨g2, h⟩ := gd_some h
    refine h_iald O hH ly_301 g2 dX12_looksAt_21 ?_
    refine lv_topi (fun y3 e4 => ?_)
    have h := lt_at e4 h
    refine lv_istore (lv' := [(5, .int y3), (0, .ref (z + 281)), (1, .int x1), (2, .int x2), (3, .int x3), (4, .int x4)]) hx hb dX12_looksAt_22 hl (by decide) rfl (fun ls hl => ?_)
    refine lv_iload hx hb dX12_looksAt_24 (lv_at hl 0 rfl) ?_
    refine lv_bipush (v := 100) hx hb dX12_looksAt_26 (by decide) ?_
    refine lv_icmp_ge (tgt := 155) hx hb dX12_looksAt_28 (by decide) (fun c5 => ?_) (fun c5 => ?_)
    · have h := it_pos h c5
      exact w_X12_looksAt_155 O hr hlk hk9 _ _ _ _ _ h _ _ _ hH (lv_sub hl [1, 2, 3, 4, 5] rfl)
    · have h := it_neg h c5
      refine lv_aload_n hx hb dX12_looksAt_31 rfl (lv_at hl 1 rfl) ?_
      refine h_geti O hH ly_281 rfl fl_X12_360 dX12_looksAt_32 ?_
      refine lv_iload hx hb dX12_looksAt_35 (lv_at hl 0 rfl) ?_
      refine lv_ishr hx hb dX12_looksAt_37 ?_
      refine lv_iconst (v := 1) hx hb dX12_looksAt_38 (by decide) ?_
      refine lv_iand hx hb dX12_looksAt_39 ?_
      refine lv_iconst (v := 1) hx hb dX12_looksAt_40 (by decide) ?_
      refine lv_icmp_ne (tgt := 47) hx hb dX12_looksAt_41 (by decide) (fun c6 => ?_) (fun c6 => ?_)
      · have h := it_neg h c6
        refine lv_aload_n hx hb dX12_looksAt_47 rfl (lv_at hl 1 rfl) ?_
        refine h_getr O hH ly_281 rfl fl_X12_75 dX12_looksAt_48 ?_
        refine lv_iload hx hb dX12_looksAt_51 (lv_at hl 5 rfl) ?_
        refine lv_sipush (v := 200) hx hb dX12_looksAt_53 (by decide) ?_
        obtain ⟨g7, h⟩ := gd_some h
        obtain ⟨D8, e9, h⟩ := lt_some h
        refine h_iast O hH ly_301 g7 e9 dX12_looksAt_56 (fun H locs hH => ?_)
        refine lv_aload_n hx hb dX12_looksAt_57 rfl (lv_at hl 1 rfl) ?_
        refine lv_iload_n hx hb dX12_looksAt_58 rfl (lv_at hl 2 rfl) ?_
        obtain ⟨y12, D10, hc11, h⟩ := bI_some h
        refine h_callVi (As := [.int x1]) (rest := []) O hH (c_X12_answersOne hc11) ml_X12_357 ly_281 rfl rfl hl.1 rfl ⟨Nat.le_of_ble_eq_true rfl, Nat.le_of_ble_eq_true rfl⟩ (Nat.le_of_ble_eq_true rfl) dX12_looksAt_59 (fun H locs hH => ?_)
        refine lv_iload_n hx hb dX12_looksAt_62 rfl (lv_at hl 4 rfl) ?_
        refine lv_icmp_eq (tgt := 70) hx hb dX12_looksAt_63 (by decide) (fun c13 => ?_) (fun c13 => ?_)
        · have h := it_pos h c13
          refine lv_iconst (v := 0) hx hb dX12_looksAt_70 (by decide) ?_
          exact w_X12_looksAt_71 O hr hlk hk9 _ _ _ _ _ _ _ h _ _ _ hH (lv_sub hl [1, 2, 3, 4, 5, 0] rfl)
        · have h := it_neg h c13
          refine lv_iconst (v := 1) hx hb dX12_looksAt_66 (by decide) ?_
          refine lv_goto (tgt := 71) hx hb dX12_looksAt_67 (by decide) ?_
          exact w_X12_looksAt_71 O hr hlk hk9 _ _ _ _ _ _ _ h _ _ _ hH (lv_sub hl [1, 2, 3, 4, 5, 0] rfl)
      · have h := it_pos h c6
        refine lv_goto (tgt := 155) hx hb dX12_looksAt_44 (by decide) ?_
        exact w_X12_looksAt_155 O hr hlk hk9 _ _ _ _ _ h _ _ _ hH (lv_sub hl [1, 2, 3, 4, 5] rfl)
set_option maxHeartbeats 4000000 in
theorem w_X12_looksAt_9 {G : va_G} {tA : Nat → ClassId} {z : Nat} {E : Ex} {p : Program} {l : Launch} {e : Env} {s : State} {m : MethodId} {args : Array Value} {below : List Frame} {meth : Method} {c : Code} {D' : Dm} (O : Ok G tA z E cX12_looksAt RX12 8 p s m args c) (hr : meth.sig.returnType = none) (hlk : meth.locks = false) : ∀ (n : Nat) (x1 : Int32) (x2 : Int32) (x3 : Int32) (x4 : Int32) (D : Dm) (h : f_X12_looksAt_9 n x1 x2 x3 x4 D = some D'), BV G tA z E p l e (rmC 6 0 0) s m args below meth c LAY D D' 8 9 [(0, .ref (z + 281)), (1, .int x1), (2, .int x2), (3, .int x3), (4, .int x4)] [] := by
  intro n
  induction n with
  | zero => intro x1 x2 x3 x4 D h; exact no_some h
  | succ n ih => intro x1 x2 x3 x4 D h; exact w_X12_looksAt_9_b O hr hlk (fun x1 x2 x3 x4 D h => ih x1 x2 x3 x4 D h) x1 x2 x3 x4 D h
set_option maxHeartbeats 4000000 in
theorem w_X12_looksAt {G : va_G} {tA : Nat → ClassId} {z : Nat} {E : Ex} {p : Program} {l : Launch} {e : Env} {s : State} {m : MethodId} {args : Array Value} {below : List Frame} {meth : Method} {c : Code} {D' : Dm} (O : Ok G tA z E cX12_looksAt RX12 8 p s m args c) (hr : meth.sig.returnType = none) (hlk : meth.locks = false) (x1 : Int32) (x2 : Int32) (D : Dm) (h : f_X12_looksAt x1 x2 D = some D') : BV G tA z E p l e (rmC 6 0 0) s m args below meth c LAY D D' 8 0 [(0, .ref (z + 281)), (1, .int x1), (2, .int x2)] [] := by
  obtain ⟨hx, hb, -, hown, hts, -⟩ := id O
  unfold f_X12_looksAt at h
  intro H locs ls hH hl
  refine lv_aload_n hx hb dX12_looksAt_0 rfl (lv_at hl 0 rfl) ?_
  refine lv_iload_n hx hb dX12_looksAt_1 rfl (lv_at hl 1 rfl) ?_
  obtain ⟨y3, D1, hc2, h⟩ := bI_some h
  refine h_callVi (As := [.int x1]) (rest := []) O hH (c_X12_answersOne hc2) ml_X12_357 ly_281 rfl rfl hl.1 rfl ⟨Nat.le_of_ble_eq_true rfl, Nat.le_of_ble_eq_true rfl⟩ (Nat.le_of_ble_eq_true rfl) dX12_looksAt_2 (fun H locs hH => ?_)
  refine lv_istore_n (lv' := [(3, .int y3), (0, .ref (z + 281)), (1, .int x1), (2, .int x2)]) hx hb dX12_looksAt_5 rfl hl (by decide) rfl (fun ls hl => ?_)
  refine lv_iconst (v := 0) hx hb dX12_looksAt_6 (by decide) ?_
  refine lv_istore (lv' := [(4, .int 0), (3, .int y3), (0, .ref (z + 281)), (1, .int x1), (2, .int x2)]) hx hb dX12_looksAt_7 hl (by decide) rfl (fun ls hl => ?_)
  exact w_X12_looksAt_9 O hr hlk FU _ _ _ _ _ h _ _ _ hH (lv_sub hl [2, 3, 4, 1, 0] rfl)
set_option maxHeartbeats 4000000 in
theorem c_X12_looksAt {l : Launch} {G : va_G} {tA : Nat → ClassId} {z : Nat} {E : Ex} {x1 : Int32} {x2 : Int32} {D D' : Dm} (h : f_X12_looksAt x1 x2 D = some D') : CtV l yX12_looksAt cX12_looksAt 8 G tA z E 6 0 0 [.ref (z + 281), .int x1, .int x2] LAY D LAY D' :=
  ct_BV (by decide +kernel) (Nat.le_of_ble_eq_true rfl) (fun _ _ _ _ _ _ _ _ O hr hlk => w_X12_looksAt O hr hlk _ _ _ h)
