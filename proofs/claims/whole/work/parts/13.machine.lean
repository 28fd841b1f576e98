theorem dX4_slot_0 : decode cX4_slot 0 = .ok (.iload_n 0, 1) := by decide +kernel
theorem dX4_slot_1 : decode cX4_slot 1 = .ok (.iconst 2, 1) := by decide +kernel
theorem dX4_slot_2 : decode cX4_slot 2 = .ok (.imul, 1) := by decide +kernel
theorem dX4_slot_3 : decode cX4_slot 3 = .ok (.iload_n 1, 1) := by decide +kernel
theorem dX4_slot_4 : decode cX4_slot 4 = .ok (.iadd, 1) := by decide +kernel
theorem dX4_slot_5 : decode cX4_slot 5 = .ok (.iconst 3, 1) := by decide +kernel
theorem dX4_slot_6 : decode cX4_slot 6 = .ok (.imul, 1) := by decide +kernel
theorem dX4_slot_7 : decode cX4_slot 7 = .ok (.iload_n 2, 1) := by decide +kernel
theorem dX4_slot_8 : decode cX4_slot 8 = .ok (.iadd, 1) := by decide +kernel
theorem dX4_slot_9 : decode cX4_slot 9 = .ok (.ireturn, 1) := by decide +kernel
theorem dX4_advance_0 : decode cX4_advance 0 = .ok (.aload_n 1, 1) := by decide +kernel
theorem dX4_advance_1 : decode cX4_advance 1 = .ok (.getfield 49, 3) := by decide +kernel
theorem dX4_advance_4 : decode cX4_advance 4 = .ok (.iconst (-1), 1) := by decide +kernel
theorem dX4_advance_5 : decode cX4_advance 5 = .ok (.if_icmp .ne 4, 3) := by decide +kernel
theorem dX4_advance_8 : decode cX4_advance 8 = .ok (.return_, 1) := by decide +kernel
theorem dX4_advance_9 : decode cX4_advance 9 = .ok (.aload_n 1, 1) := by decide +kernel
theorem dX4_advance_10 : decode cX4_advance 10 = .ok (.getfield 49, 3) := by decide +kernel
theorem dX4_advance_13 : decode cX4_advance 13 = .ok (.iload_n 2, 1) := by decide +kernel
theorem dX4_advance_14 : decode cX4_advance 14 = .ok (.iconst 0, 1) := by decide +kernel
theorem dX4_advance_15 : decode cX4_advance 15 = .ok (.invokestatic 54, 3) := by decide +kernel
theorem dX4_advance_18 : decode cX4_advance 18 = .ok (.istore 4, 2) := by decide +kernel
theorem dX4_advance_20 : decode cX4_advance 20 = .ok (.iload 4, 2) := by decide +kernel
theorem dX4_advance_22 : decode cX4_advance 22 = .ok (.iconst 2, 1) := by decide +kernel
theorem dX4_advance_23 : decode cX4_advance 23 = .ok (.iadd, 1) := by decide +kernel
theorem dX4_advance_24 : decode cX4_advance 24 = .ok (.istore 5, 2) := by decide +kernel
theorem dX4_advance_26 : decode cX4_advance 26 = .ok (.aload_n 0, 1) := by decide +kernel
theorem dX4_advance_27 : decode cX4_advance 27 = .ok (.getfield 28, 3) := by decide +kernel
theorem dX4_advance_30 : decode cX4_advance 30 = .ok (.iconst 1, 1) := by decide +kernel
theorem dX4_advance_31 : decode cX4_advance 31 = .ok (.isub, 1) := by decide +kernel
theorem dX4_advance_32 : decode cX4_advance 32 = .ok (.istore 6, 2) := by decide +kernel
theorem dX4_advance_34 : decode cX4_advance 34 = .ok (.iload 6, 2) := by decide +kernel
theorem dX4_advance_36 : decode cX4_advance 36 = .ok (.ifCond .lt 41, 3) := by decide +kernel
theorem dX4_advance_39 : decode cX4_advance 39 = .ok (.aload_n 1, 1) := by decide +kernel
theorem dX4_advance_40 : decode cX4_advance 40 = .ok (.getfield 58, 3) := by decide +kernel
theorem dX4_advance_43 : decode cX4_advance 43 = .ok (.iload 6, 2) := by decide +kernel
theorem dX4_advance_45 : decode cX4_advance 45 = .ok (.iaload, 1) := by decide +kernel
theorem dX4_advance_46 : decode cX4_advance 46 = .ok (.iload_n 3, 1) := by decide +kernel
theorem dX4_advance_47 : decode cX4_advance 47 = .ok (.if_icmp .ne 24, 3) := by decide +kernel
theorem dX4_advance_50 : decode cX4_advance 50 = .ok (.aload_n 0, 1) := by decide +kernel
theorem dX4_advance_51 : decode cX4_advance 51 = .ok (.getfield 11, 3) := by decide +kernel
theorem dX4_advance_54 : decode cX4_advance 54 = .ok (.iload 4, 2) := by decide +kernel
theorem dX4_advance_56 : decode cX4_advance 56 = .ok (.iload 6, 2) := by decide +kernel
theorem dX4_advance_58 : decode cX4_advance 58 = .ok (.iadd, 1) := by decide +kernel
theorem dX4_advance_59 : decode cX4_advance 59 = .ok (.iaload, 1) := by decide +kernel
theorem dX4_advance_60 : decode cX4_advance 60 = .ok (.iconst (-1), 1) := by decide +kernel
theorem dX4_advance_61 : decode cX4_advance 61 = .ok (.if_icmp .eq 10, 3) := by decide +kernel
theorem dX4_advance_64 : decode cX4_advance 64 = .ok (.iload 4, 2) := by decide +kernel
theorem dX4_advance_66 : decode cX4_advance 66 = .ok (.iload 6, 2) := by decide +kernel
theorem dX4_advance_68 : decode cX4_advance 68 = .ok (.iadd, 1) := by decide +kernel
theorem dX4_advance_69 : decode cX4_advance 69 = .ok (.istore 5, 2) := by decide +kernel
theorem dX4_advance_71 : decode cX4_advance 71 = .ok (.iinc 6 (-1), 3) := by decide +kernel
theorem dX4_advance_74 : decode cX4_advance 74 = .ok (.goto (-40), 3) := by decide +kernel
theorem dX4_advance_77 : decode cX4_advance 77 = .ok (.aload_n 0, 1) := by decide +kernel
theorem dX4_advance_78 : decode cX4_advance 78 = .ok (.getfield 11, 3) := by decide +kernel
theorem dX4_advance_81 : decode cX4_advance 81 = .ok (.iload 5, 2) := by decide +kernel
theorem dX4_advance_83 : decode cX4_advance 83 = .ok (.iaload, 1) := by decide +kernel
theorem dX4_advance_84 : decode cX4_advance 84 = .ok (.iconst (-1), 1) := by decide +kernel
theorem dX4_advance_85 : decode cX4_advance 85 = .ok (.if_icmp .ne 8, 3) := by decide +kernel
theorem dX4_advance_88 : decode cX4_advance 88 = .ok (.aload_n 1, 1) := by decide +kernel
theorem dX4_advance_89 : decode cX4_advance 89 = .ok (.invokevirtual 61, 3) := by decide +kernel
theorem dX4_advance_92 : decode cX4_advance 92 = .ok (.return_, 1) := by decide +kernel
theorem dX4_advance_93 : decode cX4_advance 93 = .ok (.aload_n 0, 1) := by decide +kernel
theorem dX4_advance_94 : decode cX4_advance 94 = .ok (.getfield 15, 3) := by decide +kernel
theorem dX4_advance_97 : decode cX4_advance 97 = .ok (.iload 5, 2) := by decide +kernel
theorem dX4_advance_99 : decode cX4_advance 99 = .ok (.iaload, 1) := by decide +kernel
theorem dX4_advance_100 : decode cX4_advance 100 = .ok (.iconst (-1), 1) := by decide +kernel
theorem dX4_advance_101 : decode cX4_advance 101 = .ok (.if_icmp .eq 16, 3) := by decide +kernel
theorem dX4_advance_104 : decode cX4_advance 104 = .ok (.aload_n 1, 1) := by decide +kernel
theorem dX4_advance_105 : decode cX4_advance 105 = .ok (.getfield 58, 3) := by decide +kernel
theorem dX4_advance_108 : decode cX4_advance 108 = .ok (.aload_n 0, 1) := by decide +kernel
theorem dX4_advance_109 : decode cX4_advance 109 = .ok (.getfield 15, 3) := by decide +kernel
theorem dX4_advance_112 : decode cX4_advance 112 = .ok (.iload 5, 2) := by decide +kernel
theorem dX4_advance_114 : decode cX4_advance 114 = .ok (.iaload, 1) := by decide +kernel
theorem dX4_advance_115 : decode cX4_advance 115 = .ok (.iload_n 3, 1) := by decide +kernel
theorem dX4_advance_116 : decode cX4_advance 116 = .ok (.iastore, 1) := by decide +kernel
theorem dX4_advance_117 : decode cX4_advance 117 = .ok (.aload_n 0, 1) := by decide +kernel
theorem dX4_advance_118 : decode cX4_advance 118 = .ok (.getfield 18, 3) := by decide +kernel
theorem dX4_advance_121 : decode cX4_advance 121 = .ok (.iload 5, 2) := by decide +kernel
theorem dX4_advance_123 : decode cX4_advance 123 = .ok (.iaload, 1) := by decide +kernel
theorem dX4_advance_124 : decode cX4_advance 124 = .ok (.iconst (-1), 1) := by decide +kernel
theorem dX4_advance_125 : decode cX4_advance 125 = .ok (.if_icmp .eq 16, 3) := by decide +kernel
theorem dX4_advance_128 : decode cX4_advance 128 = .ok (.aload_n 1, 1) := by decide +kernel
theorem dX4_advance_129 : decode cX4_advance 129 = .ok (.getfield 58, 3) := by decide +kernel
theorem dX4_advance_132 : decode cX4_advance 132 = .ok (.aload_n 0, 1) := by decide +kernel
theorem dX4_advance_133 : decode cX4_advance 133 = .ok (.getfield 18, 3) := by decide +kernel
theorem dX4_advance_136 : decode cX4_advance 136 = .ok (.iload 5, 2) := by decide +kernel
theorem dX4_advance_138 : decode cX4_advance 138 = .ok (.iaload, 1) := by decide +kernel
theorem dX4_advance_139 : decode cX4_advance 139 = .ok (.iconst (-1), 1) := by decide +kernel
theorem dX4_advance_140 : decode cX4_advance 140 = .ok (.iastore, 1) := by decide +kernel
theorem dX4_advance_141 : decode cX4_advance 141 = .ok (.aload_n 1, 1) := by decide +kernel
theorem dX4_advance_142 : decode cX4_advance 142 = .ok (.aload_n 0, 1) := by decide +kernel
theorem dX4_advance_143 : decode cX4_advance 143 = .ok (.getfield 11, 3) := by decide +kernel
theorem dX4_advance_146 : decode cX4_advance 146 = .ok (.iload 5, 2) := by decide +kernel
theorem dX4_advance_148 : decode cX4_advance 148 = .ok (.iaload, 1) := by decide +kernel
theorem dX4_advance_149 : decode cX4_advance 149 = .ok (.putfield 49, 3) := by decide +kernel
theorem dX4_advance_152 : decode cX4_advance 152 = .ok (.return_, 1) := by decide +kernel
theorem dX4_takes_0 : decode cX4_takes 0 = .ok (.aload_n 1, 1) := by decide +kernel
theorem dX4_takes_1 : decode cX4_takes 1 = .ok (.getfield 49, 3) := by decide +kernel
theorem dX4_takes_4 : decode cX4_takes 4 = .ok (.iconst (-1), 1) := by decide +kernel
theorem dX4_takes_5 : decode cX4_takes 5 = .ok (.if_icmp .eq 21, 3) := by decide +kernel
theorem dX4_takes_8 : decode cX4_takes 8 = .ok (.aload_n 0, 1) := by decide +kernel
theorem dX4_takes_9 : decode cX4_takes 9 = .ok (.getfield 34, 3) := by decide +kernel
theorem dX4_takes_12 : decode cX4_takes 12 = .ok (.aload_n 1, 1) := by decide +kernel
theorem dX4_takes_13 : decode cX4_takes 13 = .ok (.getfield 49, 3) := by decide +kernel
theorem dX4_takes_16 : decode cX4_takes 16 = .ok (.ishr, 1) := by decide +kernel
theorem dX4_takes_17 : decode cX4_takes 17 = .ok (.iconst 1, 1) := by decide +kernel
theorem dX4_takes_18 : decode cX4_takes 18 = .ok (.iand, 1) := by decide +kernel
theorem dX4_takes_19 : decode cX4_takes 19 = .ok (.ifCond .eq 7, 3) := by decide +kernel
theorem dX4_takes_22 : decode cX4_takes 22 = .ok (.iconst 1, 1) := by decide +kernel
theorem dX4_takes_23 : decode cX4_takes 23 = .ok (.goto 4, 3) := by decide +kernel
theorem dX4_takes_26 : decode cX4_takes 26 = .ok (.iconst 0, 1) := by decide +kernel
theorem dX4_takes_27 : decode cX4_takes 27 = .ok (.ireturn, 1) := by decide +kernel
theorem dX4_clear_0 : decode cX4_clear 0 = .ok (.aload_n 0, 1) := by decide +kernel
theorem dX4_clear_1 : decode cX4_clear 1 = .ok (.iconst 1, 1) := by decide +kernel
theorem dX4_clear_2 : decode cX4_clear 2 = .ok (.putfield 24, 3) := by decide +kernel
theorem dX4_clear_5 : decode cX4_clear 5 = .ok (.aload_n 0, 1) := by decide +kernel
theorem dX4_clear_6 : decode cX4_clear 6 = .ok (.iconst 0, 1) := by decide +kernel
theorem dX4_clear_7 : decode cX4_clear 7 = .ok (.putfield 28, 3) := by decide +kernel
theorem dX4_clear_10 : decode cX4_clear 10 = .ok (.aload_n 0, 1) := by decide +kernel
theorem dX4_clear_11 : decode cX4_clear 11 = .ok (.iconst 1, 1) := by decide +kernel
theorem dX4_clear_12 : decode cX4_clear 12 = .ok (.putfield 31, 3) := by decide +kernel
theorem dX4_clear_15 : decode cX4_clear 15 = .ok (.aload_n 0, 1) := by decide +kernel
theorem dX4_clear_16 : decode cX4_clear 16 = .ok (.iconst 0, 1) := by decide +kernel
theorem dX4_clear_17 : decode cX4_clear 17 = .ok (.putfield 34, 3) := by decide +kernel
theorem dX4_clear_20 : decode cX4_clear 20 = .ok (.aload_n 0, 1) := by decide +kernel
theorem dX4_clear_21 : decode cX4_clear 21 = .ok (.getfield 11, 3) := by decide +kernel
theorem dX4_clear_24 : decode cX4_clear 24 = .ok (.iconst (-1), 1) := by decide +kernel
theorem dX4_clear_25 : decode cX4_clear 25 = .ok (.invokestatic 37, 3) := by decide +kernel
theorem dX4_clear_28 : decode cX4_clear 28 = .ok (.aload_n 0, 1) := by decide +kernel
theorem dX4_clear_29 : decode cX4_clear 29 = .ok (.getfield 15, 3) := by decide +kernel
theorem dX4_clear_32 : decode cX4_clear 32 = .ok (.iconst (-1), 1) := by decide +kernel
theorem dX4_clear_33 : decode cX4_clear 33 = .ok (.invokestatic 37, 3) := by decide +kernel
theorem dX4_clear_36 : decode cX4_clear 36 = .ok (.aload_n 0, 1) := by decide +kernel
theorem dX4_clear_37 : decode cX4_clear 37 = .ok (.getfield 18, 3) := by decide +kernel
theorem dX4_clear_40 : decode cX4_clear 40 = .ok (.iconst (-1), 1) := by decide +kernel
theorem dX4_clear_41 : decode cX4_clear 41 = .ok (.invokestatic 37, 3) := by decide +kernel
theorem dX4_clear_44 : decode cX4_clear 44 = .ok (.return_, 1) := by decide +kernel
theorem dX4_copy_0 : decode cX4_copy 0 = .ok (.aload_n 0, 1) := by decide +kernel
theorem dX4_copy_1 : decode cX4_copy 1 = .ok (.aload_n 1, 1) := by decide +kernel
theorem dX4_copy_2 : decode cX4_copy 2 = .ok (.getfield 24, 3) := by decide +kernel
theorem dX4_copy_5 : decode cX4_copy 5 = .ok (.putfield 24, 3) := by decide +kernel
theorem dX4_copy_8 : decode cX4_copy 8 = .ok (.aload_n 0, 1) := by decide +kernel
theorem dX4_copy_9 : decode cX4_copy 9 = .ok (.aload_n 1, 1) := by decide +kernel
theorem dX4_copy_10 : decode cX4_copy 10 = .ok (.getfield 28, 3) := by decide +kernel
theorem dX4_copy_13 : decode cX4_copy 13 = .ok (.putfield 28, 3) := by decide +kernel
theorem dX4_copy_16 : decode cX4_copy 16 = .ok (.aload_n 0, 1) := by decide +kernel
theorem dX4_copy_17 : decode cX4_copy 17 = .ok (.aload_n 1, 1) := by decide +kernel
theorem dX4_copy_18 : decode cX4_copy 18 = .ok (.getfield 31, 3) := by decide +kernel
theorem dX4_copy_21 : decode cX4_copy 21 = .ok (.putfield 31, 3) := by decide +kernel
theorem dX4_copy_24 : decode cX4_copy 24 = .ok (.aload_n 0, 1) := by decide +kernel
theorem dX4_copy_25 : decode cX4_copy 25 = .ok (.aload_n 1, 1) := by decide +kernel
theorem dX4_copy_26 : decode cX4_copy 26 = .ok (.getfield 34, 3) := by decide +kernel
theorem dX4_copy_29 : decode cX4_copy 29 = .ok (.putfield 34, 3) := by decide +kernel
theorem dX4_copy_32 : decode cX4_copy 32 = .ok (.aload_n 1, 1) := by decide +kernel
theorem dX4_copy_33 : decode cX4_copy 33 = .ok (.getfield 11, 3) := by decide +kernel
theorem dX4_copy_36 : decode cX4_copy 36 = .ok (.iconst 0, 1) := by decide +kernel
theorem dX4_copy_37 : decode cX4_copy 37 = .ok (.aload_n 0, 1) := by decide +kernel
theorem dX4_copy_38 : decode cX4_copy 38 = .ok (.getfield 11, 3) := by decide +kernel
theorem dX4_copy_41 : decode cX4_copy 41 = .ok (.iconst 0, 1) := by decide +kernel
theorem dX4_copy_42 : decode cX4_copy 42 = .ok (.bipush 30, 2) := by decide +kernel
theorem dX4_copy_44 : decode cX4_copy 44 = .ok (.invokestatic 43, 3) := by decide +kernel
theorem dX4_copy_47 : decode cX4_copy 47 = .ok (.aload_n 1, 1) := by decide +kernel
theorem dX4_copy_48 : decode cX4_copy 48 = .ok (.getfield 15, 3) := by decide +kernel
theorem dX4_copy_51 : decode cX4_copy 51 = .ok (.iconst 0, 1) := by decide +kernel
theorem dX4_copy_52 : decode cX4_copy 52 = .ok (.aload_n 0, 1) := by decide +kernel
theorem dX4_copy_53 : decode cX4_copy 53 = .ok (.getfield 15, 3) := by decide +kernel
theorem dX4_copy_56 : decode cX4_copy 56 = .ok (.iconst 0, 1) := by decide +kernel
theorem dX4_copy_57 : decode cX4_copy 57 = .ok (.bipush 30, 2) := by decide +kernel
theorem dX4_copy_59 : decode cX4_copy 59 = .ok (.invokestatic 43, 3) := by decide +kernel
theorem dX4_copy_62 : decode cX4_copy 62 = .ok (.aload_n 1, 1) := by decide +kernel
theorem dX4_copy_63 : decode cX4_copy 63 = .ok (.getfield 18, 3) := by decide +kernel
theorem dX4_copy_66 : decode cX4_copy 66 = .ok (.iconst 0, 1) := by decide +kernel
theorem dX4_copy_67 : decode cX4_copy 67 = .ok (.aload_n 0, 1) := by decide +kernel
theorem dX4_copy_68 : decode cX4_copy 68 = .ok (.getfield 18, 3) := by decide +kernel
theorem dX4_copy_71 : decode cX4_copy 71 = .ok (.iconst 0, 1) := by decide +kernel
theorem dX4_copy_72 : decode cX4_copy 72 = .ok (.bipush 30, 2) := by decide +kernel
theorem dX4_copy_74 : decode cX4_copy 74 = .ok (.invokestatic 43, 3) := by decide +kernel
theorem dX4_copy_77 : decode cX4_copy 77 = .ok (.return_, 1) := by decide +kernel
theorem dX4_hasPlace_0 : decode cX4_hasPlace 0 = .ok (.iload_n 1, 1) := by decide +kernel
theorem dX4_hasPlace_1 : decode cX4_hasPlace 1 = .ok (.ifCond .lt 23, 3) := by decide +kernel
theorem dX4_hasPlace_4 : decode cX4_hasPlace 4 = .ok (.iload_n 1, 1) := by decide +kernel
theorem dX4_hasPlace_5 : decode cX4_hasPlace 5 = .ok (.aload_n 0, 1) := by decide +kernel
theorem dX4_hasPlace_6 : decode cX4_hasPlace 6 = .ok (.getfield 24, 3) := by decide +kernel
theorem dX4_hasPlace_9 : decode cX4_hasPlace 9 = .ok (.if_icmp .ge 15, 3) := by decide +kernel
theorem dX4_hasPlace_12 : decode cX4_hasPlace 12 = .ok (.iload_n 2, 1) := by decide +kernel
theorem dX4_hasPlace_13 : decode cX4_hasPlace 13 = .ok (.ifCond .lt 11, 3) := by decide +kernel
theorem dX4_hasPlace_16 : decode cX4_hasPlace 16 = .ok (.iload_n 2, 1) := by decide +kernel
theorem dX4_hasPlace_17 : decode cX4_hasPlace 17 = .ok (.aload_n 0, 1) := by decide +kernel
theorem dX4_hasPlace_18 : decode cX4_hasPlace 18 = .ok (.getfield 31, 3) := by decide +kernel
theorem dX4_hasPlace_21 : decode cX4_hasPlace 21 = .ok (.if_icmp .lt 5, 3) := by decide +kernel
theorem dX4_hasPlace_24 : decode cX4_hasPlace 24 = .ok (.iconst 0, 1) := by decide +kernel
theorem dX4_hasPlace_25 : decode cX4_hasPlace 25 = .ok (.ireturn, 1) := by decide +kernel
theorem dX4_hasPlace_26 : decode cX4_hasPlace 26 = .ok (.iload_n 3, 1) := by decide +kernel
theorem dX4_hasPlace_27 : decode cX4_hasPlace 27 = .ok (.iconst 2, 1) := by decide +kernel
theorem dX4_hasPlace_28 : decode cX4_hasPlace 28 = .ok (.if_icmp .eq 15, 3) := by decide +kernel
theorem dX4_hasPlace_31 : decode cX4_hasPlace 31 = .ok (.iload_n 3, 1) := by decide +kernel
theorem dX4_hasPlace_32 : decode cX4_hasPlace 32 = .ok (.ifCond .lt 15, 3) := by decide +kernel
theorem dX4_hasPlace_35 : decode cX4_hasPlace 35 = .ok (.iload_n 3, 1) := by decide +kernel
theorem dX4_hasPlace_36 : decode cX4_hasPlace 36 = .ok (.aload_n 0, 1) := by decide +kernel
theorem dX4_hasPlace_37 : decode cX4_hasPlace 37 = .ok (.getfield 28, 3) := by decide +kernel
theorem dX4_hasPlace_40 : decode cX4_hasPlace 40 = .ok (.if_icmp .ge 7, 3) := by decide +kernel
theorem dX4_hasPlace_43 : decode cX4_hasPlace 43 = .ok (.iconst 1, 1) := by decide +kernel
theorem dX4_hasPlace_44 : decode cX4_hasPlace 44 = .ok (.goto 4, 3) := by decide +kernel
theorem dX4_hasPlace_47 : decode cX4_hasPlace 47 = .ok (.iconst 0, 1) := by decide +kernel
theorem dX4_hasPlace_48 : decode cX4_hasPlace 48 = .ok (.ireturn, 1) := by decide +kernel
theorem dX4_isRegisterOrNone_0 : decode cX4_isRegisterOrNone 0 = .ok (.iload_n 1, 1) := by decide +kernel
theorem dX4_isRegisterOrNone_1 : decode cX4_isRegisterOrNone 1 = .ok (.iconst (-1), 1) := by decide +kernel
theorem dX4_isRegisterOrNone_2 : decode cX4_isRegisterOrNone 2 = .ok (.if_icmp .lt 15, 3) := by decide +kernel
theorem dX4_isRegisterOrNone_5 : decode cX4_isRegisterOrNone 5 = .ok (.iload_n 1, 1) := by decide +kernel
theorem dX4_isRegisterOrNone_6 : decode cX4_isRegisterOrNone 6 = .ok (.aload_n 0, 1) := by decide +kernel
theorem dX4_isRegisterOrNone_7 : decode cX4_isRegisterOrNone 7 = .ok (.getfield 28, 3) := by decide +kernel
theorem dX4_isRegisterOrNone_10 : decode cX4_isRegisterOrNone 10 = .ok (.if_icmp .ge 7, 3) := by decide +kernel
theorem dX4_isRegisterOrNone_13 : decode cX4_isRegisterOrNone 13 = .ok (.iconst 1, 1) := by decide +kernel
theorem dX4_isRegisterOrNone_14 : decode cX4_isRegisterOrNone 14 = .ok (.goto 4, 3) := by decide +kernel
theorem dX4_isRegisterOrNone_17 : decode cX4_isRegisterOrNone 17 = .ok (.iconst 0, 1) := by decide +kernel
theorem dX4_isRegisterOrNone_18 : decode cX4_isRegisterOrNone 18 = .ok (.ireturn, 1) := by decide +kernel
theorem dX4_put_0 : decode cX4_put 0 = .ok (.aload_n 0, 1) := by decide +kernel
theorem dX4_put_1 : decode cX4_put 1 = .ok (.getfield 11, 3) := by decide +kernel
theorem dX4_put_4 : decode cX4_put 4 = .ok (.iload_n 1, 1) := by decide +kernel
theorem dX4_put_5 : decode cX4_put 5 = .ok (.iload_n 2, 1) := by decide +kernel
theorem dX4_put_6 : decode cX4_put 6 = .ok (.iastore, 1) := by decide +kernel
theorem dX4_put_7 : decode cX4_put 7 = .ok (.aload_n 0, 1) := by decide +kernel
theorem dX4_put_8 : decode cX4_put 8 = .ok (.getfield 15, 3) := by decide +kernel
theorem dX4_put_11 : decode cX4_put 11 = .ok (.iload_n 1, 1) := by decide +kernel
theorem dX4_put_12 : decode cX4_put 12 = .ok (.iload_n 3, 1) := by decide +kernel
theorem dX4_put_13 : decode cX4_put 13 = .ok (.iastore, 1) := by decide +kernel
theorem dX4_put_14 : decode cX4_put 14 = .ok (.aload_n 0, 1) := by decide +kernel
theorem dX4_put_15 : decode cX4_put 15 = .ok (.getfield 18, 3) := by decide +kernel
theorem dX4_put_18 : decode cX4_put 18 = .ok (.iload_n 1, 1) := by decide +kernel
theorem dX4_put_19 : decode cX4_put 19 = .ok (.iload 4, 2) := by decide +kernel
theorem dX4_put_21 : decode cX4_put 21 = .ok (.iastore, 1) := by decide +kernel
theorem dX4_put_22 : decode cX4_put 22 = .ok (.return_, 1) := by decide +kernel
theorem dX4_countMoves_0 : decode cX4_countMoves 0 = .ok (.iconst 0, 1) := by decide +kernel
theorem dX4_countMoves_1 : decode cX4_countMoves 1 = .ok (.istore_n 1, 1) := by decide +kernel
theorem dX4_countMoves_2 : decode cX4_countMoves 2 = .ok (.iconst 0, 1) := by decide +kernel
theorem dX4_countMoves_3 : decode cX4_countMoves 3 = .ok (.istore_n 2, 1) := by decide +kernel
theorem dX4_countMoves_4 : decode cX4_countMoves 4 = .ok (.iload_n 2, 1) := by decide +kernel
theorem dX4_countMoves_5 : decode cX4_countMoves 5 = .ok (.bipush 30, 2) := by decide +kernel
theorem dX4_countMoves_7 : decode cX4_countMoves 7 = .ok (.if_icmp .ge 22, 3) := by decide +kernel
theorem dX4_countMoves_10 : decode cX4_countMoves 10 = .ok (.aload_n 0, 1) := by decide +kernel
theorem dX4_countMoves_11 : decode cX4_countMoves 11 = .ok (.getfield 11, 3) := by decide +kernel
theorem dX4_countMoves_14 : decode cX4_countMoves 14 = .ok (.iload_n 2, 1) := by decide +kernel
theorem dX4_countMoves_15 : decode cX4_countMoves 15 = .ok (.iaload, 1) := by decide +kernel
theorem dX4_countMoves_16 : decode cX4_countMoves 16 = .ok (.iconst (-1), 1) := by decide +kernel
theorem dX4_countMoves_17 : decode cX4_countMoves 17 = .ok (.if_icmp .eq 6, 3) := by decide +kernel
theorem dX4_countMoves_20 : decode cX4_countMoves 20 = .ok (.iinc 1 1, 3) := by decide +kernel
theorem dX4_countMoves_23 : decode cX4_countMoves 23 = .ok (.iinc 2 1, 3) := by decide +kernel
theorem dX4_countMoves_26 : decode cX4_countMoves 26 = .ok (.goto (-22), 3) := by decide +kernel
theorem dX4_countMoves_29 : decode cX4_countMoves 29 = .ok (.iload_n 1, 1) := by decide +kernel
theorem dX4_countMoves_30 : decode cX4_countMoves 30 = .ok (.ireturn, 1) := by decide +kernel
def f_X4_slot (x0 : Int32) (x1 : Int32) (x2 : Int32) (D : Dm) : Option (Int32 × Dm) := some (((((x0 * 2) + x1) * 3) + x2), D)
def f_X4_advance_141 (r0 : Nat) (r1 : Nat) (x5 : Int32) (D : Dm) : Option Dm := gd (inB x5 30) (lt (ud D r1 0 (D (r0 + 1) (Int32.toNatClampNeg x5))) fun D2 => some D2)
def f_X4_advance_117 (r0 : Nat) (r1 : Nat) (x5 : Int32) (D : Dm) : Option Dm := gd (inB x5 30) (if (D (r0 + 3) (Int32.toNatClampNeg x5)) = (-1) then (f_X4_advance_141 r0 r1 x5 D) else (gd (inB x5 30) (gd (inB (D (r0 + 3) (Int32.toNatClampNeg x5)) 2) (lt (ud D (r1 + 1) (Int32.toNatClampNeg (D (r0 + 3) (Int32.toNatClampNeg x5))) (-1)) fun D5 => f_X4_advance_141 r0 r1 x5 D5))))
def f_X4_advance_71 (k34 : Nat → Nat → Int32 → Int32 → Int32 → Int32 → Dm → Option Dm) (r0 : Nat) (r1 : Nat) (x3 : Int32) (x4 : Int32) (x5 : Int32) (x6 : Int32) (D : Dm) : Option Dm := lt (x6 + (-1)) fun y1 => k34 r0 r1 x3 x4 x5 y1 D
def f_X4_advance_34_b (k34 : Nat → Nat → Int32 → Int32 → Int32 → Int32 → Dm → Option Dm) (r0 : Nat) (r1 : Nat) (x3 : Int32) (x4 : Int32) (x5 : Int32) (x6 : Int32) (D : Dm) : Option Dm := if x6 < 0 then (gd (inB x5 30) (if (D (r0 + 1) (Int32.toNatClampNeg x5)) = (-1) then (bV (f_X1_lose r1 D) fun D10 => some D10) else (gd (inB x5 30) (if (D (r0 + 2) (Int32.toNatClampNeg x5)) = (-1) then (f_X4_advance_117 r0 r1 x5 D) else (gd (inB x5 30) (gd (inB (D (r0 + 2) (Int32.toNatClampNeg x5)) 2) (lt (ud D (r1 + 1) (Int32.toNatClampNeg (D (r0 + 2) (Int32.toNatClampNeg x5))) x3) fun D8 => f_X4_advance_117 r0 r1 x5 D8))))))) else (gd (inB x6 2) (if (D (r1 + 1) (Int32.toNatClampNeg x6)) = x3 then (gd (inB (x4 + x6) 30) (if (D (r0 + 1) (Int32.toNatClampNeg (x4 + x6))) = (-1) then (f_X4_advance_71 k34 r0 r1 x3 x4 x5 x6 D) else (lt (x4 + x6) fun y16 => f_X4_advance_71 k34 r0 r1 x3 x4 y16 x6 D))) else (f_X4_advance_71 k34 r0 r1 x3 x4 x5 x6 D)))
def f_X4_advance_34 : Nat → Nat → Nat → Int32 → Int32 → Int32 → Int32 → Dm → Option Dm
  | 0, _, _, _, _, _, _, _ => none
  | n + 1, r0, r1, x3, x4, x5, x6, D => f_X4_advance_34_b (f_X4_advance_34 n) r0 r1 x3 x4 x5 x6 D
def f_X4_advance (r0 : Nat) (r1 : Nat) (x2 : Int32) (x3 : Int32) (D : Dm) : Option Dm := if (D r1 0) = (-1) then (some D) else (bI (f_X4_slot (D r1 0) x2 0 D) fun y4 D2 => lt (y4 + 2) fun y5 => lt ((D2 r0 1) - 1) fun y7 => f_X4_advance_34 FU r0 r1 x3 y4 y5 y7 D2)
def f_X4_takes (r0 : Nat) (r1 : Nat) (D : Dm) : Option (Int32 × Dm) := if (D r1 0) = (-1) then (some (0, D)) else (if (((D r0 3) >>> ((D r1 0) &&& 31)) &&& 1) = 0 then (some (0, D)) else (some (1, D)))
def f_X4_clear (r0 : Nat) (D : Dm) : Option Dm := lt (ud D r0 0 1) fun D1 => lt (ud D1 r0 1 0) fun D3 => lt (ud D3 r0 2 1) fun D5 => lt (ud D5 r0 3 0) fun D7 => bV (f_J7_fill_53178 (r0 + 1) 30 (-1) D7) fun D9 => bV (f_J7_fill_53178 (r0 + 2) 30 (-1) D9) fun D11 => bV (f_J7_fill_53178 (r0 + 3) 30 (-1) D11) fun D13 => some D13
def f_X4_copy (r0 : Nat) (r1 : Nat) (D : Dm) : Option Dm := lt (ud D r0 0 (D r1 0)) fun D1 => lt (ud D1 r0 1 (D1 r1 1)) fun D3 => lt (ud D3 r0 2 (D3 r1 2)) fun D5 => lt (ud D5 r0 3 (D5 r1 3)) fun D7 => lt (cpD D7 (r1 + 1) (r0 + 1) 30) fun D9 => lt (cpD D9 (r1 + 2) (r0 + 2) 30) fun D11 => lt (cpD D11 (r1 + 3) (r0 + 3) 30) fun D13 => some D13
def f_X4_hasPlace_43  (D : Dm) : Option (Int32 × Dm) := some (1, D)
def f_X4_hasPlace (r0 : Nat) (x1 : Int32) (x2 : Int32) (x3 : Int32) (D : Dm) : Option (Int32 × Dm) := if x1 < 0 then (some (0, D)) else (if (D r0 0) ≤ x1 then (some (0, D)) else (if x2 < 0 then (some (0, D)) else (if x2 < (D r0 2) then (if x3 = 2 then (f_X4_hasPlace_43 D) else (if x3 < 0 then (some (0, D)) else (if (D r0 1) ≤ x3 then (some (0, D)) else (f_X4_hasPlace_43 D)))) else (some (0, D)))))
def f_X4_isRegisterOrNone (r0 : Nat) (x1 : Int32) (D : Dm) : Option (Int32 × Dm) := if x1 < (-1) then (some (0, D)) else (if (D r0 1) ≤ x1 then (some (0, D)) else (some (1, D)))
def f_X4_put (r0 : Nat) (x1 : Int32) (x2 : Int32) (x3 : Int32) (x4 : Int32) (D : Dm) : Option Dm := gd (inB x1 30) (lt (ud D (r0 + 1) (Int32.toNatClampNeg x1) x2) fun D2 => gd (inB x1 30) (lt (ud D2 (r0 + 2) (Int32.toNatClampNeg x1) x3) fun D5 => gd (inB x1 30) (lt (ud D5 (r0 + 3) (Int32.toNatClampNeg x1) x4) fun D8 => some D8)))
def f_X4_countMoves_23 (k4 : Nat → Int32 → Int32 → Dm → Option (Int32 × Dm)) (r0 : Nat) (x1 : Int32) (x2 : Int32) (D : Dm) : Option (Int32 × Dm) := lt (x2 + 1) fun y1 => k4 r0 x1 y1 D
def f_X4_countMoves_4_b (k4 : Nat → Int32 → Int32 → Dm → Option (Int32 × Dm)) (r0 : Nat) (x1 : Int32) (x2 : Int32) (D : Dm) : Option (Int32 × Dm) := if 30 ≤ x2 then (some (x1, D)) else (gd (inB x2 30) (if (D (r0 + 1) (Int32.toNatClampNeg x2)) = (-1) then (f_X4_countMoves_23 k4 r0 x1 x2 D) else (lt (x1 + 1) fun y4 => f_X4_countMoves_23 k4 r0 y4 x2 D)))
def f_X4_countMoves_4 : Nat → Nat → Int32 → Int32 → Dm → Option (Int32 × Dm)
  | 0, _, _, _, _ => none
  | n + 1, r0, x1, x2, D => f_X4_countMoves_4_b (f_X4_countMoves_4 n) r0 x1 x2 D
def f_X4_countMoves (r0 : Nat) (D : Dm) : Option (Int32 × Dm) := f_X4_countMoves_4 FU r0 0 0 D
set_option maxHeartbeats 4000000 in
theorem w_X4_slot {G : va_G} {tA : Nat → ClassId} {z : Nat} {E : Ex} {p : Program} {l : Launch} {e : Env} {s : State} {m : MethodId} {args : Array Value} {below : List Frame} {meth : Method} {c : Code} {r : Int32} {D' : Dm} (O : Ok G tA z E cX4_slot RX4 3 p s m args c) (hr : meth.sig.returnType = some .int) (hlk : meth.locks = false) (x0 : Int32) (x1 : Int32) (x2 : Int32) (D : Dm) (h : f_X4_slot x0 x1 x2 D = some (r, D')) : BI G tA z E p l e (rmC 1 0 0) s m args below meth c LAY D r D' 3 0 [(0, .int x0), (1, .int x1), (2, .int x2)] [] := by
  obtain ⟨hx, hb, -, hown, hts, -⟩ := id O
  unfold f_X4_slot at h
  intro H locs ls hH hl
  refine lv_iload_n hx hb dX4_slot_0 rfl (lv_at hl 0 rfl) ?_
  refine lv_iconst (v := 2) hx hb dX4_slot_1 (by decide) ?_
  refine lv_imul hx hb dX4_slot_2 ?_
  refine lv_iload_n hx hb dX4_slot_3 rfl (lv_at hl 1 rfl) ?_
  refine lv_iadd hx hb dX4_slot_4 ?_
  refine lv_iconst (v := 3) hx hb dX4_slot_5 (by decide) ?_
  refine lv_imul hx hb dX4_slot_6 ?_
  refine lv_iload_n hx hb dX4_slot_7 rfl (lv_at hl 2 rfl) ?_
  refine lv_iadd hx hb dX4_slot_8 ?_
  obtain ⟨rfl, rfl⟩ := ret_i h
  exact h_iret O hr hlk hH dX4_slot_9
set_option maxHeartbeats 4000000 in
theorem c_X4_slot {l : Launch} {G : va_G} {tA : Nat → ClassId} {z : Nat} {E : Ex} {x0 : Int32} {x1 : Int32} {x2 : Int32} {D D' : Dm} {r : Int32} (h : f_X4_slot x0 x1 x2 D = some (r, D')) : CtI l yX4_slot cX4_slot 3 (some .int) G tA z E 1 0 0 [.int x0, .int x1, .int x2] LAY D r LAY D' :=
  ct_BI (by decide +kernel) (Nat.le_of_ble_eq_true rfl) (fun _ _ _ _ _ _ _ _ O hr hlk => w_X4_slot O hr hlk _ _ _ _ h)
set_option maxHeartbeats 4000000 in
theorem w_X4_advance_141 {G : va_G} {tA : Nat → ClassId} {z : Nat} {E : Ex} {p : Program} {l : Launch} {e : Env} {s : State} {m : MethodId} {args : Array Value} {below : List Frame} {meth : Method} {c : Code} {D' : Dm} (O : Ok G tA z E cX4_advance RX4 7 p s m args c) (hr : meth.sig.returnType = none) (hlk : meth.locks = false) (r0 : Nat) (r1 : Nat) (x5 : Int32) (h0 : isC4 r0) (h1 : isC1 r1) (D : Dm) (h : f_X4_advance_141 r0 r1 x5 D = some D') : BV G tA z E p l e (rmC 2 0 0) s m args below meth c LAY D D' 7 141 [(0, .ref (z + r0)), (1, .ref (z + r1)), (5, .int x5)] [] := by
  obtain ⟨hx, hb, -, hown, hts, -⟩ := id O
  unfold f_X4_advance_141 at h
  intro H locs ls hH hl
  refine lv_aload_n hx hb dX4_advance_141 rfl (lv_at hl 1 rfl) ?_
  refine lv_aload_n hx hb dX4_advance_142 rfl (lv_at hl 0 rfl) ?_
  refine h_getr O hH h0.1 rfl fl_X4_11 dX4_advance_143 ?_
  refine lv_iload hx hb dX4_advance_146 (lv_at hl 2 rfl) ?_
  obtain ⟨g1, h⟩ := gd_some h
  refine h_iald O hH h0.2.1 g1 dX4_advance_148 ?_
  obtain ⟨D2, e3, h⟩ := lt_some h
  refine h_puti O hH h1.1 rfl fl_X4_49 e3 dX4_advance_149 (fun H locs hH => ?_)
  obtain rfl := ret_v h
  exact h_vret O hr hlk hH dX4_advance_152
set_option maxHeartbeats 4000000 in
theorem w_X4_advance_117 {G : va_G} {tA : Nat → ClassId} {z : Nat} {E : Ex} {p : Program} {l : Launch} {e : Env} {s : State} {m : MethodId} {args : Array Value} {below : List Frame} {meth : Method} {c : Code} {D' : Dm} (O : Ok G tA z E cX4_advance RX4 7 p s m args c) (hr : meth.sig.returnType = none) (hlk : meth.locks = false) (r0 : Nat) (r1 : Nat) (x5 : Int32) (h0 : isC4 r0) (h1 : isC1 r1) (D : Dm) (h : f_X4_advance_117 r0 r1 x5 D = some D') : BV G tA z E p l e (rmC 2 0 0) s m args below meth c LAY D D' 7 117 [(0, .ref (z + r0)), (1, .ref (z + r1)), (5, .int x5)] [] := by
  obtain ⟨hx, hb, -, hown, hts, -⟩ := id O
  unfold f_X4_advance_117 at h
  intro H locs ls hH hl
  refine lv_aload_n hx hb dX4_advance_117 rfl (lv_at hl 0 rfl) ?_
  refine h_getr O hH h0.1 rfl fl_X4_18 dX4_advance_118 ?_
  refine lv_iload hx hb dX4_advance_121 (lv_at hl 2 rfl) ?_
  obtain ⟨g1, h⟩ := gd_some h
  refine h_iald O hH h0.2.2.2 g1 dX4_advance_123 ?_
  refine lv_iconst (v := (-1)) hx hb dX4_advance_124 (by decide) ?_
  refine lv_icmp_eq (tgt := 141) hx hb dX4_advance_125 (by decide) (fun c2 => ?_) (fun c2 => ?_)
  · have h := it_pos h c2
    exact w_X4_advance_141 O hr hlk _ _ _ h0 h1 _ h _ _ _ hH (lv_sub hl [0, 1, 2] rfl)
  · have h := it_neg h c2
    refine lv_aload_n hx hb dX4_advance_128 rfl (lv_at hl 1 rfl) ?_
    refine h_getr O hH h1.1 rfl fl_X4_58 dX4_advance_129 ?_
    refine lv_aload_n hx hb dX4_advance_132 rfl (lv_at hl 0 rfl) ?_
    refine h_getr O hH h0.1 rfl fl_X4_18 dX4_advance_133 ?_
    refine lv_iload hx hb dX4_advance_136 (lv_at hl 2 rfl) ?_
    obtain ⟨g3, h⟩ := gd_some h
    refine h_iald O hH h0.2.2.2 g3 dX4_advance_138 ?_
    refine lv_iconst (v := (-1)) hx hb dX4_advance_139 (by decide) ?_
    obtain ⟨g4, h⟩ := gd_some h
    obtain ⟨D5, e6, h⟩ := lt_some h
    refine h_iast O hH h1.2 g4 e6 dX4_advance_140 (fun H locs hH => ?_)
    exact w_X4_advance_141 O hr hlk _ _ _ h0 h1 _ h _ _ _ hH (lv_sub hl [0, 1, 2] rfl)
set_option maxHeartbeats 4000000 in
theorem w_X4_advance_71 {G : va_G} {tA : Nat → ClassId} {z : Nat} {E : Ex} {p : Program} {l : Launch} {e : Env} {s : State} {m : MethodId} {args : Array Value} {below : List Frame} {meth : Method} {c : Code} {D' : Dm} (O : Ok G tA z E cX4_advance RX4 7 p s m args c) (hr : meth.sig.returnType = none) (hlk : meth.locks = false) {k34 : Nat → Nat → Int32 → Int32 → Int32 → Int32 → Dm → Option Dm} (hk34 : ∀ (r0 : Nat) (r1 : Nat) (x3 : Int32) (x4 : Int32) (x5 : Int32) (x6 : Int32) (h0 : isC4 r0) (h1 : isC1 r1) (D : Dm), k34 r0 r1 x3 x4 x5 x6 D = some D' → BV G tA z E p l e (rmC 2 0 0) s m args below meth c LAY D D' 7 34 [(0, .ref (z + r0)), (1, .ref (z + r1)), (3, .int x3), (4, .int x4), (5, .int x5), (6, .int x6)] []) (r0 : Nat) (r1 : Nat) (x3 : Int32) (x4 : Int32) (x5 : Int32) (x6 : Int32) (h0 : isC4 r0) (h1 : isC1 r1) (D : Dm) (h : f_X4_advance_71 k34 r0 r1 x3 x4 x5 x6 D = some D') : BV G tA z E p l e (rmC 2 0 0) s m args below meth c LAY D D' 7 71 [(0, .ref (z + r0)), (1, .ref (z + r1)), (3, .int x3), (4, .int x4), (5, .int x5), (6, .int x6)] [] := by
  obtain ⟨hx, hb, -, hown, hts, -⟩ := id O
  unfold f_X4_advance_71 at h
  intro H locs ls hH hl
  obtain ⟨y1, e2, h⟩ := lt_some h
  refine lv_iinc (v := y1) (lv' := [(6, .int y1), (0, .ref (z + r0)), (1, .ref (z + r1)), (3, .int x3), (4, .int x4), (5, .int x5)]) hx hb dX4_advance_71 hl (k := 5) rfl (by rw [e2]; rfl) (by decide) rfl (fun ls hl => ?_)
  refine lv_goto (tgt := 34) hx hb dX4_advance_74 (by decide) ?_
  exact hk34 _ _ _ _ _ _ h0 h1 _ h _ _ _ hH (lv_sub hl [1, 2, 3, 4, 5, 0] rfl)
set_option maxHeartbeats 4000000 in
theorem w_X4_advance_34_b {G : va_G} {tA : Nat → ClassId} {z : Nat} {E : Ex} {p : Program} {l : Launch} {e : Env} {s : State} {m : MethodId} {args : Array Value} {below : List Frame} {meth : Method} {c : Code} {D' : Dm} (O : Ok G tA z E cX4_advance RX4 7 p s m args c) (hr : meth.sig.returnType = none) (hlk : meth.locks = false) {k34 : Nat → Nat → Int32 → Int32 → Int32 → Int32 → Dm → Option Dm} (hk34 : ∀ (r0 : Nat) (r1 : Nat) (x3 : Int32) (x4 : Int32) (x5 : Int32) (x6 : Int32) (h0 : isC4 r0) (h1 : isC1 r1) (D : Dm), k34 r0 r1 x3 x4 x5 x6 D = some D' → BV G tA z E p l e (rmC 2 0 0) s m args below meth c LAY D D' 7 34 [(0, .ref (z + r0)), (1, .ref (z + r1)), (3, .int x3), (4, .int x4), (5, .int x5), (6, .int x6)] []) (r0 : Nat) (r1 : Nat) (x3 : Int32) (x4 : Int32) (x5 : Int32) (x6 : Int32) (h0 : isC4 r0) (h1 : isC1 r1) (D : Dm) (h : f_X4_advance_34_b k34 r0 r1 x3 x4 x5 x6 D = some D') : BV G tA z E p l e (rmC 2 0 0) s m args below meth c LAY D D' 7 34 [(0, .ref (z + r0)), (1, .ref (z + r1)), (3, .int x3), (4, .int x4), (5, .int x5), (6, .int x6)] [] := by
  obtain ⟨hx, hb, -, hown, hts, -⟩ := id O
  unfold f_X4_advance_34_b at h
  intro H locs ls hH hl
  refine lv_iload hx hb dX4_advance_34 (lv_at hl 5 rfl) ?_
  refine lv_if_lt (tgt := 77) hx hb dX4_advance_36 (by decide) (fun c1 => ?_) (fun c1 => ?_)
  · have h := it_pos h c1
    refine lv_aload_n hx hb dX4_advance_77 rfl (lv_at hl 0 rfl) ?_
    refine h_getr O hH h0.1 rfl fl_X4_11 dX4_advance_78 ?_
    refine lv_iload hx hb dX4_advance_81 (lv_at hl 4 rfl) ?_
    obtain ⟨g2, h⟩ := gd_some h
    refine h_iald O hH h0.2.1 g2 dX4_advance_83 ?_
    refine lv_iconst (v := (-1)) hx hb dX4_advance_84 (by decide) ?_
    refine lv_icmp_ne (tgt := 93) hx hb dX4_advance_85 (by decide) (fun c3 => ?_) (fun c3 => ?_)
    · have h := it_neg h c3
      refine lv_aload_n hx hb dX4_advance_93 rfl (lv_at hl 0 rfl) ?_
      refine h_getr O hH h0.1 rfl fl_X4_15 dX4_advance_94 ?_
      refine lv_iload hx hb dX4_advance_97 (lv_at hl 4 rfl) ?_
      obtain ⟨g4, h⟩ := gd_some h
      refine h_iald O hH h0.2.2.1 g4 dX4_advance_99 ?_
      refine lv_iconst (v := (-1)) hx hb dX4_advance_100 (by decide) ?_
      refine lv_icmp_eq (tgt := 117) hx hb dX4_advance_101 (by decide) (fun c5 => ?_) (fun c5 => ?_)
      · have h := it_pos h c5
        exact w_X4_advance_117 O hr hlk _ _ _ h0 h1 _ h _ _ _ hH (lv_sub hl [0, 1, 4] rfl)
      · have h := it_neg h c5
        refine lv_aload_n hx hb dX4_advance_104 rfl (lv_at hl 1 rfl) ?_
        refine h_getr O hH h1.1 rfl fl_X4_58 dX4_advance_105 ?_
        refine lv_aload_n hx hb dX4_advance_108 rfl (lv_at hl 0 rfl) ?_
        refine h_getr O hH h0.1 rfl fl_X4_15 dX4_advance_109 ?_
        refine lv_iload hx hb dX4_advance_112 (lv_at hl 4 rfl) ?_
        obtain ⟨g6, h⟩ := gd_some h
        refine h_iald O hH h0.2.2.1 g6 dX4_advance_114 ?_
        refine lv_iload_n hx hb dX4_advance_115 rfl (lv_at hl 2 rfl) ?_
        obtain ⟨g7, h⟩ := gd_some h
        obtain ⟨D8, e9, h⟩ := lt_some h
        refine h_iast O hH h1.2 g7 e9 dX4_advance_116 (fun H locs hH => ?_)
        exact w_X4_advance_117 O hr hlk _ _ _ h0 h1 _ h _ _ _ hH (lv_sub hl [0, 1, 4] rfl)
    · have h := it_pos h c3
      refine lv_aload_n hx hb dX4_advance_88 rfl (lv_at hl 1 rfl) ?_
      obtain ⟨D10, hc11, h⟩ := bV_some h
      refine h_callVv (As := []) (rest := []) O hH (c_X1_lose h1 hc11) ml_X4_61 h1.1 rfl rfl hl.1 rfl ⟨Nat.le_of_ble_eq_true rfl, Nat.le_of_ble_eq_true rfl⟩ (Nat.le_of_ble_eq_true rfl) dX4_advance_89 (fun H locs hH => ?_)
      obtain rfl := ret_v h
      exact h_vret O hr hlk hH dX4_advance_92
  · have h := it_neg h c1
    refine lv_aload_n hx hb dX4_advance_39 rfl (lv_at hl 1 rfl) ?_
    refine h_getr O hH h1.1 rfl fl_X4_58 dX4_advance_40 ?_
    refine lv_iload hx hb dX4_advance_43 (lv_at hl 5 rfl) ?_
    obtain ⟨g12, h⟩ := gd_some h
    refine h_iald O hH h1.2 g12 dX4_advance_45 ?_
    refine lv_iload_n hx hb dX4_advance_46 rfl (lv_at hl 2 rfl) ?_
    refine lv_icmp_ne (tgt := 71) hx hb dX4_advance_47 (by decide) (fun c13 => ?_) (fun c13 => ?_)
    · have h := it_neg h c13
      exact w_X4_advance_71 O hr hlk hk34 _ _ _ _ _ _ h0 h1 _ h _ _ _ hH (lv_sub hl [0, 1, 2, 3, 4, 5] rfl)
    · have h := it_pos h c13
      refine lv_aload_n hx hb dX4_advance_50 rfl (lv_at hl 0 rfl) ?_
      refine h_getr O hH h0.1 rfl fl_X4_11 dX4_advance_51 ?_
      refine lv_iload hx hb dX4_advance_54 (lv_at hl 3 rfl) ?_
      refine lv_iload hx hb dX4_advance_56 (lv_at hl 5 rfl) ?_
      refine lv_iadd hx hb dX4_advance_58 ?_
      obtain ⟨g14, h⟩ := gd_some h
      refine h_iald O hH h0.2.1 g14 dX4_advance_59 ?_
      refine lv_iconst (v := (-1)) hx hb dX4_advance_60 (by decide) ?_
      refine lv_icmp_eq (tgt := 71) hx hb dX4_advance_61 (by decide) (fun c15 => ?_) (fun c15 => ?_)
      · have h := it_pos h c15
        exact w_X4_advance_71 O hr hlk hk34 _ _ _ _ _ _ h0 h1 _ h _ _ _ hH (lv_sub hl [0, 1, 2, 3, 4, 5] rfl)
      · have h := it_neg h c15
        refine lv_iload hx hb dX4_advance_64 (lv_at hl 3 rfl) ?_
        refine lv_iload hx hb dX4_advance_66 (lv_at hl 5 rfl) ?_
        refine lv_iadd hx hb dX4_advance_68 ?_
        refine lv_topi (fun y16 e17 => ?_)
        have h := lt_at e17 h
        refine lv_istore (lv' := [(5, .int y16), (0, .ref (z + r0)), (1, .ref (z + r1)), (3, .int x3), (4, .int x4), (6, .int x6)]) hx hb dX4_advance_69 hl (by decide) rfl (fun ls hl => ?_)
        exact w_X4_advance_71 O hr hlk hk34 _ _ _ _ _ _ h0 h1 _ h _ _ _ hH (lv_sub hl [1, 2, 3, 4, 0, 5] rfl)
set_option maxHeartbeats 4000000 in
theorem w_X4_advance_34 {G : va_G} {tA : Nat → ClassId} {z : Nat} {E : Ex} {p : Program} {l : Launch} {e : Env} {s : State} {m : MethodId} {args : Array Value} {below : List Frame} {meth : Method} {c : Code} {D' : Dm} (O : Ok G tA z E cX4_advance RX4 7 p s m args c) (hr : meth.sig.returnType = none) (hlk : meth.locks = false) : ∀ (n : Nat) (r0 : Nat) (r1 : Nat) (x3 : Int32) (x4 : Int32) (x5 : Int32) (x6 : Int32) (h0 : isC4 r0) (h1 : isC1 r1) (D : Dm) (h : f_X4_advance_34 n r0 r1 x3 x4 x5 x6 D = some D'), BV G tA z E p l e (rmC 2 0 0) s m args below meth c LAY D D' 7 34 [(0, .ref (z + r0)), (1, .ref (z + r1)), (3, .int x3), (4, .int x4), (5, .int x5), (6, .int x6)] [] := by
  intro n
  induction n with
  | zero => intro r0 r1 x3 x4 x5 x6 h0 h1 D h; exact no_some h
  | succ n ih => intro r0 r1 x3 x4 x5 x6 h0 h1 D h; exact w_X4_advance_34_b O hr hlk (fun r0 r1 x3 x4 x5 x6 h0 h1 D h => ih r0 r1 x3 x4 x5 x6 h0 h1 D h) r0 r1 x3 x4 x5 x6 h0 h1 D h
set_option maxHeartbeats 4000000 in
theorem w_X4_advance {G : va_G} {tA : Nat → ClassId} {z : Nat} {E : Ex} {p : Program} {l : Launch} {e : Env} {s : State} {m : MethodId} {args : Array Value} {below : List Frame} {meth : Method} {c : Code} {D' : Dm} (O : Ok G tA z E cX4_advance RX4 7 p s m args c) (hr : meth.sig.returnType = none) (hlk : meth.locks = false) (r0 : Nat) (r1 : Nat) (x2 : Int32) (x3 : Int32) (h0 : isC4 r0) (h1 : isC1 r1) (D : Dm) (h : f_X4_advance r0 r1 x2 x3 D = some D') : BV G tA z E p l e (rmC 2 0 0) s m args below meth c LAY D D' 7 0 [(0, .ref (z + r0)), (1, .ref (z + r1)), (2, .int x2), (3, .int x3)] [] := by
  obtain ⟨hx, hb, -, hown, hts, -⟩ := id O
  unfold f_X4_advance at h
  intro H locs ls hH hl
  refine lv_aload_n hx hb dX4_advance_0 rfl (lv_at hl 1 rfl) ?_
  refine h_geti O hH h1.1 rfl fl_X4_49 dX4_advance_1 ?_
  refine lv_iconst (v := (-1)) hx hb dX4_advance_4 (by decide) ?_
  refine lv_icmp_ne (tgt := 9) hx hb dX4_advance_5 (by decide) (fun c1 => ?_) (fun c1 => ?_)
  · have h := it_neg h c1
    refine lv_aload_n hx hb dX4_advance_9 rfl (lv_at hl 1 rfl) ?_
    refine h_geti O hH h1.1 rfl fl_X4_49 dX4_advance_10 ?_
    refine lv_iload_n hx hb dX4_advance_13 rfl (lv_at hl 2 rfl) ?_
    refine lv_iconst (v := 0) hx hb dX4_advance_14 (by decide) ?_
    obtain ⟨y4, D2, hc3, h⟩ := bI_some h
    refine h_callSi (As := [.int (D r1 0), .int x2, .int 0]) (rest := []) O hH (c_X4_slot hc3) ml_X4_54 rfl hl.1 rfl ⟨Nat.le_of_ble_eq_true rfl, Nat.le_of_ble_eq_true rfl⟩ (Nat.le_of_ble_eq_true rfl) dX4_advance_15 (fun H locs hH => ?_)
    refine lv_istore (lv' := [(4, .int y4), (0, .ref (z + r0)), (1, .ref (z + r1)), (2, .int x2), (3, .int x3)]) hx hb dX4_advance_18 hl (by decide) rfl (fun ls hl => ?_)
    refine lv_iload hx hb dX4_advance_20 (lv_at hl 0 rfl) ?_
    refine lv_iconst (v := 2) hx hb dX4_advance_22 (by decide) ?_
    refine lv_iadd hx hb dX4_advance_23 ?_
    refine lv_topi (fun y5 e6 => ?_)
    have h := lt_at e6 h
    refine lv_istore (lv' := [(5, .int y5), (4, .int y4), (0, .ref (z + r0)), (1, .ref (z + r1)), (2, .int x2), (3, .int x3)]) hx hb dX4_advance_24 hl (by decide) rfl (fun ls hl => ?_)
    refine lv_aload_n hx hb dX4_advance_26 rfl (lv_at hl 2 rfl) ?_
    refine h_geti O hH h0.1 rfl fl_X4_28 dX4_advance_27 ?_
    refine lv_iconst (v := 1) hx hb dX4_advance_30 (by decide) ?_
    refine lv_isub hx hb dX4_advance_31 ?_
    refine lv_topi (fun y7 e8 => ?_)
    have h := lt_at e8 h
    refine lv_istore (lv' := [(6, .int y7), (5, .int y5), (4, .int y4), (0, .ref (z + r0)), (1, .ref (z + r1)), (2, .int x2), (3, .int x3)]) hx hb dX4_advance_32 hl (by decide) rfl (fun ls hl => ?_)
    exact w_X4_advance_34 O hr hlk FU _ _ _ _ _ _ h0 h1 _ h _ _ _ hH (lv_sub hl [3, 4, 6, 2, 1, 0] rfl)
  · have h := it_pos h c1
    obtain rfl := ret_v h
    exact h_vret O hr hlk hH dX4_advance_8
set_option maxHeartbeats 4000000 in
theorem c_X4_advance {l : Launch} {G : va_G} {tA : Nat → ClassId} {z : Nat} {E : Ex} {r0 : Nat} {r1 : Nat} {x2 : Int32} {x3 : Int32} (h0 : isC4 r0) (h1 : isC1 r1) {D D' : Dm} (h : f_X4_advance r0 r1 x2 x3 D = some D') : CtV l yX4_advance cX4_advance 7 G tA z E 2 0 0 [.ref (z + r0), .ref (z + r1), .int x2, .int x3] LAY D LAY D' :=
  ct_BV (by decide +kernel) (Nat.le_of_ble_eq_true rfl) (fun _ _ _ _ _ _ _ _ O hr hlk => w_X4_advance O hr hlk _ _ _ _ h0 h1 _ h)
set_option maxHeartbeats 4000000 in
theorem w_X4_takes {G : va_G} {tA : Nat → ClassId} {z : Nat} {E : Ex} {p : Program} {l : Launch} {e : Env} {s : State} {m : MethodId} {args : Array Value} {below : List Frame} {meth : Method} {c : Code} {r : Int32} {D' : Dm} (O : Ok G tA z E cX4_takes RX4 2 p s m args c) (hr : meth.sig.returnType = some .boolean) (hlk : meth.locks = false) (r0 : Nat) (r1 : Nat) (h0 : isC4 r0) (h1 : isC1 r1) (D : Dm) (h : f_X4_takes r0 r1 D = some (r, D')) : BI G tA z E p l e (rmC 1 0 0) s m args below meth c LAY D r D' 2 0 [(0, .ref (z + r0)), (1, .ref (z + r1))] [] := by
  obtain ⟨hx, hb, -, hown, hts, -⟩ := id O
  unfold f_X4_takes at h
  intro H locs ls hH hl
  refine lv_aload_n hx hb dX4_takes_0 rfl (lv_at hl 1 rfl) ?_
  refine h_geti O hH h1.1 rfl fl_X4_49 dX4_takes_1 ?_
  refine lv_iconst (v := (-1)) hx hb dX4_takes_4 (by decide) ?_
  refine lv_icmp_eq (tgt := 26) hx hb dX4_takes_5 (by decide) (fun c1 => ?_) (fun c1 => ?_)
  · have h := it_pos h c1
    refine lv_iconst (v := 0) hx hb dX4_takes_26 (by decide) ?_
    obtain ⟨rfl, rfl⟩ := ret_i h
    exact h_zret O hr hlk zb_0 hH dX4_takes_27
  · have h := it_neg h c1
    refine lv_aload_n hx hb dX4_takes_8 rfl (lv_at hl 0 rfl) ?_
    refine h_geti O hH h0.1 rfl fl_X4_34 dX4_takes_9 ?_
    refine lv_aload_n hx hb dX4_takes_12 rfl (lv_at hl 1 rfl) ?_
    refine h_geti O hH h1.1 rfl fl_X4_49 dX4_takes_13 ?_
    refine lv_ishr hx hb dX4_takes_16 ?_
    refine lv_iconst (v := 1) hx hb dX4_takes_17 (by decide) ?_
    refine lv_iand hx hb dX4_takes_18 ?_
    refine lv_if_eq (tgt := 26) hx hb dX4_takes_19 (by decide) (fun c2 => ?_) (fun c2 => ?_)
    · have h := it_pos h c2
      refine lv_iconst (v := 0) hx hb dX4_takes_26 (by decide) ?_
      obtain ⟨rfl, rfl⟩ := ret_i h
      exact h_zret O hr hlk zb_0 hH dX4_takes_27
    · have h := it_neg h c2
      refine lv_iconst (v := 1) hx hb dX4_takes_22 (by decide) ?_
      refine lv_goto (tgt := 27) hx hb dX4_takes_23 (by decide) ?_
      obtain ⟨rfl, rfl⟩ := ret_i h
      exact h_zret O hr hlk zb_1 hH dX4_takes_27
set_option maxHeartbeats 4000000 in
theorem c_X4_takes {l : Launch} {G : va_G} {tA : Nat → ClassId} {z : Nat} {E : Ex} {r0 : Nat} {r1 : Nat} (h0 : isC4 r0) (h1 : isC1 r1) {D D' : Dm} {r : Int32} (h : f_X4_takes r0 r1 D = some (r, D')) : CtI l yX4_takes cX4_takes 2 (some .boolean) G tA z E 1 0 0 [.ref (z + r0), .ref (z + r1)] LAY D r LAY D' :=
  ct_BI (by decide +kernel) (Nat.le_of_ble_eq_true rfl) (fun _ _ _ _ _ _ _ _ O hr hlk => w_X4_takes O hr hlk _ _ h0 h1 _ h)
set_option maxHeartbeats 4000000 in
theorem w_X4_clear {G : va_G} {tA : Nat → ClassId} {z : Nat} {E : Ex} {p : Program} {l : Launch} {e : Env} {s : State} {m : MethodId} {args : Array Value} {below : List Frame} {meth : Method} {c : Code} {D' : Dm} (O : Ok G tA z E cX4_clear RX4 1 p s m args c) (hr : meth.sig.returnType = none) (hlk : meth.locks = false) (r0 : Nat) (h0 : isC4 r0) (D : Dm) (h : f_X4_clear r0 D = some D') : BV G tA z E p l e (rmC 2 0 0) s m args below meth c LAY D D' 1 0 [(0, .ref (z + r0))] [] := by
  obtain ⟨hx, hb, -, hown, hts, -⟩ := id O
  unfold f_X4_clear at h
  intro H locs ls hH hl
  refine lv_aload_n hx hb dX4_clear_0 rfl (lv_at hl 0 rfl) ?_
  refine lv_iconst (v := 1) hx hb dX4_clear_1 (by decide) ?_
  obtain ⟨D1, e2, h⟩ := lt_some h
  refine h_puti O hH h0.1 rfl fl_X4_24 e2 dX4_clear_2 (fun H locs hH => ?_)
  refine lv_aload_n hx hb dX4_clear_5 rfl (lv_at hl 0 rfl) ?_
  refine lv_iconst (v := 0) hx hb dX4_clear_6 (by decide) ?_
  obtain ⟨D3, e4, h⟩ := lt_some h
  refine h_puti O hH h0.1 rfl fl_X4_28 e4 dX4_clear_7 (fun H locs hH => ?_)
  refine lv_aload_n hx hb dX4_clear_10 rfl (lv_at hl 0 rfl) ?_
  refine lv_iconst (v := 1) hx hb dX4_clear_11 (by decide) ?_
  obtain ⟨D5, e6, h⟩ := lt_some h
  refine h_puti O hH h0.1 rfl fl_X4_31 e6 dX4_clear_12 (fun H locs hH => ?_)
  refine lv_aload_n hx hb dX4_clear_15 rfl (lv_at hl 0 rfl) ?_
  refine lv_iconst (v := 0) hx hb dX4_clear_16 (by decide) ?_
  obtain ⟨D7, e8, h⟩ := lt_some h
  refine h_puti O hH h0.1 rfl fl_X4_34 e8 dX4_clear_17 (fun H locs hH => ?_)
  refine lv_aload_n hx hb dX4_clear_20 rfl (lv_at hl 0 rfl) ?_
  refine h_getr O hH h0.1 rfl fl_X4_11 dX4_clear_21 ?_
  refine lv_iconst (v := (-1)) hx hb dX4_clear_24 (by decide) ?_
  obtain ⟨D9, hc10, h⟩ := bV_some h
  refine h_callSv (As := [.ref (z + (r0 + 1)), .int (-1)]) (rest := []) O hH (c_J7_fill_53178 h0.2.1 hc10) ml_X4_37 rfl hl.1 rfl ⟨Nat.le_of_ble_eq_true rfl, Nat.le_of_ble_eq_true rfl⟩ (Nat.le_of_ble_eq_true rfl) dX4_clear_25 (fun H locs hH => ?_)
  refine lv_aload_n hx hb dX4_clear_28 rfl (lv_at hl 0 rfl) ?_
  refine h_getr O hH h0.1 rfl fl_X4_15 dX4_clear_29 ?_
  refine lv_iconst (v := (-1)) hx hb dX4_clear_32 (by decide) ?_
  obtain ⟨D11, hc12, h⟩ := bV_some h
  refine h_callSv (As := [.ref (z + (r0 + 2)), .int (-1)]) (rest := []) O hH (c_J7_fill_53178 h0.2.2.1 hc12) ml_X4_37 rfl hl.1 rfl ⟨Nat.le_of_ble_eq_true rfl, Nat.le_of_ble_eq_true rfl⟩ (Nat.le_of_ble_eq_true rfl) dX4_clear_33 (fun H locs hH => ?_)
  refine lv_aload_n hx hb dX4_clear_36 rfl (lv_at hl 0 rfl) ?_
  refine h_getr O hH h0.1 rfl fl_X4_18 dX4_clear_37 ?_
  refine lv_iconst (v := (-1)) hx hb dX4_clear_40 (by decide) ?_
  obtain ⟨D13, hc14, h⟩ := bV_some h
  refine h_callSv (As := [.ref (z + (r0 + 3)), .int (-1)]) (rest := []) O hH (c_J7_fill_53178 h0.2.2.2 hc14) ml_X4_37 rfl hl.1 rfl ⟨Nat.le_of_ble_eq_true rfl, Nat.le_of_ble_eq_true rfl⟩ (Nat.le_of_ble_eq_true rfl) dX4_clear_41 (fun H locs hH => ?_)
  obtain rfl := ret_v h
  exact h_vret O hr hlk hH dX4_clear_44
set_option maxHeartbeats 4000000 in
theorem c_X4_clear {l : Launch} {G : va_G} {tA : Nat → ClassId} {z : Nat} {E : Ex} {r0 : Nat} (h0 : isC4 r0) {D D' : Dm} (h : f_X4_clear r0 D = some D') : CtV l yX4_clear cX4_clear 1 G tA z E 2 0 0 [.ref (z + r0)] LAY D LAY D' :=
  ct_BV (by decide +kernel) (Nat.le_of_ble_eq_true rfl) (fun _ _ _ _ _ _ _ _ O hr hlk => w_X4_clear O hr hlk _ h0 _ h)
set_option maxHeartbeats 4000000 in
theorem w_X4_copy {G : va_G} {tA : Nat → ClassId} {z : Nat} {E : Ex} {p : Program} {l : Launch} {e : Env} {s : State} {m : MethodId} {args : Array Value} {below : List Frame} {meth : Method} {c : Code} {D' : Dm} (O : Ok G tA z E cX4_copy RX4 2 p s m args c) (hr : meth.sig.returnType = none) (hlk : meth.locks = false) (r0 : Nat) (r1 : Nat) (h0 : isC4 r0) (h1 : isC4 r1) (D : Dm) (h : f_X4_copy r0 r1 D = some D') : BV G tA z E p l e (rmC 2 0 0) s m args below meth c LAY D D' 2 0 [(0, .ref (z + r0)), (1, .ref (z + r1))] [] := by
  obtain ⟨hx, hb, -, hown, hts, -⟩ := id O
  unfold f_X4_copy at h
  intro H locs ls hH hl
  refine lv_aload_n hx hb dX4_copy_0 rfl (lv_at hl 0 rfl) ?_
  refine lv_aload_n hx hb dX4_copy_1 rfl (lv_at hl 1 rfl) ?_
  refine h_geti O hH h1.1 rfl fl_X4_24 dX4_copy_2 ?_
  obtain ⟨D1, e2, h⟩ := lt_some h
  refine h_puti O hH h0.1 rfl fl_X4_24 e2 dX4_copy_5 (fun H locs hH => ?_)
  refine lv_aload_n hx hb dX4_copy_8 rfl (lv_at hl 0 rfl) ?_
  refine lv_aload_n hx hb dX4_copy_9 rfl (lv_at hl 1 rfl) ?_
  refine h_geti O hH h1.1 rfl fl_X4_28 dX4_copy_10 ?_
  obtain ⟨D3, e4, h⟩ := lt_some h
  refine h_puti O hH h0.1 rfl fl_X4_28 e4 dX4_copy_13 (fun H locs hH => ?_)
  refine lv_aload_n hx hb dX4_copy_16 rfl (lv_at hl 0 rfl) ?_
  refine lv_aload_n hx hb dX4_copy_17 rfl (lv_at hl 1 rfl) ?_
  refine h_geti O hH h1.1 rfl fl_X4_31 dX4_copy_18 ?_
  obtain ⟨D5, e6, h⟩ := lt_some h
  refine h_puti O hH h0.1 rfl fl_X4_31 e6 dX4_copy_21 (fun H locs hH => ?_)
  refine lv_aload_n hx hb dX4_copy_24 rfl (lv_at hl 0 rfl) ?_
  refine lv_aload_n hx hb dX4_copy_25 rfl (lv_at hl 1 rfl) ?_
  refine h_geti O hH h1.1 rfl fl_X4_34 dX4_copy_26 ?_
  obtain ⟨D7, e8, h⟩ := lt_some h
  refine h_puti O hH h0.1 rfl fl_X4_34 e8 dX4_copy_29 (fun H locs hH => ?_)
  refine lv_aload_n hx hb dX4_copy_32 rfl (lv_at hl 1 rfl) ?_
  refine h_getr O hH h1.1 rfl fl_X4_11 dX4_copy_33 ?_
  refine lv_iconst (v := 0) hx hb dX4_copy_36 (by decide) ?_
  refine lv_aload_n hx hb dX4_copy_37 rfl (lv_at hl 0 rfl) ?_
  refine h_getr O hH h0.1 rfl fl_X4_11 dX4_copy_38 ?_
  refine lv_iconst (v := 0) hx hb dX4_copy_41 (by decide) ?_
  refine lv_bipush (v := 30) hx hb dX4_copy_42 (by decide) ?_
  obtain ⟨D9, e10, h⟩ := lt_some h
  refine h_copy (k := 30) O hH hl.1 h1.2.1 h0.2.1 ww_640 (by decide) (by decide) (by decide) (by decide) ⟨Nat.le_of_ble_eq_true rfl, Nat.le_of_ble_eq_true rfl⟩ e10 dX4_copy_44 (fun H locs hH => ?_)
  refine lv_aload_n hx hb dX4_copy_47 rfl (lv_at hl 1 rfl) ?_
  refine h_getr O hH h1.1 rfl fl_X4_15 dX4_copy_48 ?_
  refine lv_iconst (v := 0) hx hb dX4_copy_51 (by decide) ?_
  refine lv_aload_n hx hb dX4_copy_52 rfl (lv_at hl 0 rfl) ?_
  refine h_getr O hH h0.1 rfl fl_X4_15 dX4_copy_53 ?_
  refine lv_iconst (v := 0) hx hb dX4_copy_56 (by decide) ?_
  refine lv_bipush (v := 30) hx hb dX4_copy_57 (by decide) ?_
  obtain ⟨D11, e12, h⟩ := lt_some h
  refine h_copy (k := 30) O hH hl.1 h1.2.2.1 h0.2.2.1 ww_640 (by decide) (by decide) (by decide) (by decide) ⟨Nat.le_of_ble_eq_true rfl, Nat.le_of_ble_eq_true rfl⟩ e12 dX4_copy_59 (fun H locs hH => ?_)
  refine lv_aload_n hx hb dX4_copy_62 rfl (lv_at hl 1 rfl) ?_
  refine h_getr O hH h1.1 rfl fl_X4_18 dX4_copy_63 ?_
  refine lv_iconst (v := 0) hx hb dX4_copy_66 (by decide) ?_
  refine lv_aload_n hx hb dX4_copy_67 rfl (lv_at hl 0 rfl) ?_
  refine h_getr O hH h0.1 rfl fl_X4_18 dX4_copy_68 ?_
  refine lv_iconst (v := 0) hx hb dX4_copy_71 (by decide) ?_
  refine lv_bipush (v := 30) hx hb dX4_copy_72 (by decide) ?_
  obtain ⟨D13, e14, h⟩ := lt_some h
  refine h_copy (k := 30) O hH hl.1 h1.2.2.2 h0.2.2.2 ww_640 (by decide) (by decide) (by decide) (by decide) ⟨Nat.le_of_ble_eq_true rfl, Nat.le_of_ble_eq_true rfl⟩ e14 dX4_copy_74 (fun H locs hH => ?_)
  obtain rfl := ret_v h
  exact h_vret O hr hlk hH dX4_copy_77
set_option maxHeartbeats 4000000 in
theorem c_X4_copy {l : Launch} {G : va_G} {tA : Nat → ClassId} {z : Nat} {E : Ex} {r0 : Nat} {r1 : Nat} (h0 : isC4 r0) (h1 : isC4 r1) {D D' : Dm} (h : f_X4_copy r0 r1 D = some D') : CtV l yX4_copy cX4_copy 2 G tA z E 2 0 0 [.ref (z + r0), .ref (z + r1)] LAY D LAY D' :=
  ct_BV (by decide +kernel) (Nat.le_of_ble_eq_true rfl) (fun _ _ _ _ _ _ _ _ O hr hlk => w_X4_copy O hr hlk _ _ h0 h1 _ h)
set_option maxHeartbeats 4000000 in
theorem w_X4_hasPlace_43 {G : va_G} {tA : Nat → ClassId} {z : Nat} {E : Ex} {p : Program} {l : Launch} {e : Env} {s : State} {m : MethodId} {args : Array Value} {below : List Frame} {meth : Method} {c : Code} {r : Int32} {D' : Dm} (O : Ok G tA z E cX4_hasPlace RX4 4 p s m args c) (hr : meth.sig.returnType = some .boolean) (hlk : meth.locks = false)  (D : Dm) (h : f_X4_hasPlace_43  D = some (r, D')) : BI G tA z E p l e (rmC 1 0 0) s m args below meth c LAY D r D' 4 43 [] [] := by
  obtain ⟨hx, hb, -, hown, hts, -⟩ := id O
  unfold f_X4_hasPlace_43 at h
  intro H locs ls hH hl
  refine lv_iconst (v := 1) hx hb dX4_hasPlace_43 (by decide) ?_
  refine lv_goto (tgt := 48) hx hb dX4_hasPlace_44 (by decide) ?_
  obtain ⟨rfl, rfl⟩ := ret_i h
  exact h_zret O hr hlk zb_1 hH dX4_hasPlace_48
set_option maxHeartbeats 4000000 in
theorem w_X4_hasPlace {G : va_G} {tA : Nat → ClassId} {z : Nat} {E : Ex} {p : Program} {l : Launch} {e : Env} {s : State} {m : MethodId} {args : Array Value} {below : List Frame} {meth : Method} {c : Code} {r : Int32} {D' : Dm} (O : Ok G tA z E cX4_hasPlace RX4 4 p s m args c) (hr : meth.sig.returnType = some .boolean) (hlk : meth.locks = false) (r0 : Nat) (x1 : Int32) (x2 : Int32) (x3 : Int32) (h0 : isC4 r0) (D : Dm) (h : f_X4_hasPlace r0 x1 x2 x3 D = some (r, D')) : BI G tA z E p l e (rmC 1 0 0) s m args below meth c LAY D r D' 4 0 [(0, .ref (z + r0)), (1, .int x1), (2, .int x2), (3, .int x3)] [] := by
  obtain ⟨hx, hb, -, hown, hts, -⟩ := id O
  unfold f_X4_hasPlace at h
  intro H locs ls hH hl
  refine lv_iload_n hx hb dX4_hasPlace_0 rfl (lv_at hl 1 rfl) ?_
  refine lv_if_lt (tgt := 24) hx hb dX4_hasPlace_1 (by decide) (fun c1 => ?_) (fun c1 => ?_)
  · have h := it_pos h c1
    refine lv_iconst (v := 0) hx hb dX4_hasPlace_24 (by decide) ?_
    obtain ⟨rfl, rfl⟩ := ret_i h
    exact h_zret O hr hlk zb_0 hH dX4_hasPlace_25
  · have h := it_neg h c1
    refine lv_iload_n hx hb dX4_hasPlace_4 rfl (lv_at hl 1 rfl) ?_
    refine lv_aload_n hx hb dX4_hasPlace_5 rfl (lv_at hl 0 rfl) ?_
    refine h_geti O hH h0.1 rfl fl_X4_24 dX4_hasPlace_6 ?_
    refine lv_icmp_ge (tgt := 24) hx hb dX4_hasPlace_9 (by decide) (fun c2 => ?_) (fun c2 => ?_)
    · have h := it_pos h c2
      refine lv_iconst (v := 0) hx hb dX4_hasPlace_24 (by decide) ?_
      obtain ⟨rfl, rfl⟩ := ret_i h
      exact h_zret O hr hlk zb_0 hH dX4_hasPlace_25
    · have h := it_neg h c2
      refine lv_iload_n hx hb dX4_hasPlace_12 rfl (lv_at hl 2 rfl) ?_
      refine lv_if_lt (tgt := 24) hx hb dX4_hasPlace_13 (by decide) (fun c3 => ?_) (fun c3 => ?_)
      · have h := it_pos h c3
        refine lv_iconst (v := 0) hx hb dX4_hasPlace_24 (by decide) ?_
        obtain ⟨rfl, rfl⟩ := ret_i h
        exact h_zret O hr hlk zb_0 hH dX4_hasPlace_25
      · have h := it_neg h c3
        refine lv_iload_n hx hb dX4_hasPlace_16 rfl (lv_at hl 2 rfl) ?_
        refine lv_aload_n hx hb dX4_hasPlace_17 rfl (lv_at hl 0 rfl) ?_
        refine h_geti O hH h0.1 rfl fl_X4_31 dX4_hasPlace_18 ?_
        refine lv_icmp_lt (tgt := 26) hx hb dX4_hasPlace_21 (by decide) (fun c4 => ?_) (fun c4 => ?_)
        · have h := it_pos h c4
          refine lv_iload_n hx hb dX4_hasPlace_26 rfl (lv_at hl 3 rfl) ?_
          refine lv_iconst (v := 2) hx hb dX4_hasPlace_27 (by decide) ?_
          refine lv_icmp_eq (tgt := 43) hx hb dX4_hasPlace_28 (by decide) (fun c5 => ?_) (fun c5 => ?_)
          · have h := it_pos h c5
            exact w_X4_hasPlace_43 O hr hlk _ h _ _ _ hH (lv_sub hl [] rfl)
          · have h := it_neg h c5
            refine lv_iload_n hx hb dX4_hasPlace_31 rfl (lv_at hl 3 rfl) ?_
            refine lv_if_lt (tgt := 47) hx hb dX4_hasPlace_32 (by decide) (fun c6 => ?_) (fun c6 => ?_)
            · have h := it_pos h c6
              refine lv_iconst (v := 0) hx hb dX4_hasPlace_47 (by decide) ?_
              obtain ⟨rfl, rfl⟩ := ret_i h
              exact h_zret O hr hlk zb_0 hH dX4_hasPlace_48
            · have h := it_neg h c6
              refine lv_iload_n hx hb dX4_hasPlace_35 rfl (lv_at hl 3 rfl) ?_
              refine lv_aload_n hx hb dX4_hasPlace_36 rfl (lv_at hl 0 rfl) ?_
              refine h_geti O hH h0.1 rfl fl_X4_28 dX4_hasPlace_37 ?_
              refine lv_icmp_ge (tgt := 47) hx hb dX4_hasPlace_40 (by decide) (fun c7 => ?_) (fun c7 => ?_)
              · have h := it_pos h c7
                refine lv_iconst (v := 0) hx hb dX4_hasPlace_47 (by decide) ?_
                obtain ⟨rfl, rfl⟩ := ret_i h
                exact h_zret O hr hlk zb_0 hH dX4_hasPlace_48
              · have h := it_neg h c7
                exact w_X4_hasPlace_43 O hr hlk _ h _ _ _ hH (lv_sub hl [] rfl)
        · have h := it_neg h c4
          refine lv_iconst (v := 0) hx hb dX4_hasPlace_24 (by decide) ?_
          obtain ⟨rfl, rfl⟩ := ret_i h
          exact h_zret O hr hlk zb_0 hH dX4_hasPlace_25
set_option maxHeartbeats 4000000 in
theorem c_X4_hasPlace {l : Launch} {G : va_G} {tA : Nat → ClassId} {z : Nat} {E : Ex} {r0 : Nat} {x1 : Int32} {x2 : Int32} {x3 : Int32} (h0 : isC4 r0) {D D' : Dm} {r : Int32} (h : f_X4_hasPlace r0 x1 x2 x3 D = some (r, D')) : CtI l yX4_hasPlace cX4_hasPlace 4 (some .boolean) G tA z E 1 0 0 [.ref (z + r0), .int x1, .int x2, .int x3] LAY D r LAY D' :=
  ct_BI (by decide +kernel) (Nat.le_of_ble_eq_true rfl) (fun _ _ _ _ _ _ _ _ O hr hlk => w_X4_hasPlace O hr hlk _ _ _ _ h0 _ h)
set_option maxHeartbeats 4000000 in
theorem w_X4_isRegisterOrNone {G : va_G} {tA : Nat → ClassId} {z : Nat} {E : Ex} {p : Program} {l : Launch} {e : Env} {s : State} {m : MethodId} {args : Array Value} {below : List Frame} {meth : Method} {c : Code} {r : Int32} {D' : Dm} (O : Ok G tA z E cX4_isRegisterOrNone RX4 2 p s m args c) (hr : meth.sig.returnType = some .boolean) (hlk : meth.locks = false) (r0 : Nat) (x1 : Int32) (h0 : isC4 r0) (D : Dm) (h : f_X4_isRegisterOrNone r0 x1 D = some (r, D')) : BI G tA z E p l e (rmC 1 0 0) s m args below meth c LAY D r D' 2 0 [(0, .ref (z + r0)), (1, .int x1)] [] := by
  obtain ⟨hx, hb, -, hown, hts, -⟩ := id O
  unfold f_X4_isRegisterOrNone at h
  intro H locs ls hH hl
  refine lv_iload_n hx hb dX4_isRegisterOrNone_0 rfl (lv_at hl 1 rfl) ?_
  refine lv_iconst (v := (-1)) hx hb dX4_isRegisterOrNone_1 (by decide) ?_
  refine lv_icmp_lt (tgt := 17) hx hb dX4_isRegisterOrNone_2 (by decide) (fun c1 => ?_) (fun c1 => ?_)
  · have h := it_pos h c1
    refine lv_iconst (v := 0) hx hb dX4_isRegisterOrNone_17 (by decide) ?_
    obtain ⟨rfl, rfl⟩ := ret_i h
    exact h_zret O hr hlk zb_0 hH dX4_isRegisterOrNone_18
  · have h := it_neg h c1
    refine lv_iload_n hx hb dX4_isRegisterOrNone_5 rfl (lv_at hl 1 rfl) ?_
    refine lv_aload_n hx hb dX4_isRegisterOrNone_6 rfl (lv_at hl 0 rfl) ?_
    refine h_geti O hH h0.1 rfl fl_X4_28 dX4_isRegisterOrNone_7 ?_
    refine lv_icmp_ge (tgt := 17) hx hb dX4_isRegisterOrNone_10 (by decide) (fun c2 => ?_) (fun c2 => ?_)
    · have h := it_pos h c2
      refine lv_iconst (v := 0) hx hb dX4_isRegisterOrNone_17 (by decide) ?_
      obtain ⟨rfl, rfl⟩ := ret_i h
      exact h_zret O hr hlk zb_0 hH dX4_isRegisterOrNone_18
    · have h := it_neg h c2
      refine lv_iconst (v := 1) hx hb dX4_isRegisterOrNone_13 (by decide) ?_
      refine lv_goto (tgt := 18) hx hb dX4_isRegisterOrNone_14 (by decide) ?_
      obtain ⟨rfl, rfl⟩ := ret_i h
      exact h_zret O hr hlk zb_1 hH dX4_isRegisterOrNone_18
set_option maxHeartbeats 4000000 in
theorem c_X4_isRegisterOrNone {l : Launch} {G : va_G} {tA : Nat → ClassId} {z : Nat} {E : Ex} {r0 : Nat} {x1 : Int32} (h0 : isC4 r0) {D D' : Dm} {r : Int32} (h : f_X4_isRegisterOrNone r0 x1 D = some (r, D')) : CtI l yX4_isRegisterOrNone cX4_isRegisterOrNone 2 (some .boolean) G tA z E 1 0 0 [.ref (z + r0), .int x1] LAY D r LAY D' :=
  ct_BI (by decide +kernel) (Nat.le_of_ble_eq_true rfl) (fun _ _ _ _ _ _ _ _ O hr hlk => w_X4_isRegisterOrNone O hr hlk _ _ h0 _ h)
set_option maxHeartbeats 4000000 in
theorem w_X4_put {G : va_G} {tA : Nat → ClassId} {z : Nat} {E : Ex} {p : Program} {l : Launch} {e : Env} {s : State} {m : MethodId} {args : Array Value} {below : List Frame} {meth : Method} {c : Code} {D' : Dm} (O : Ok G tA z E cX4_put RX4 5 p s m args c) (hr : meth.sig.returnType = none) (hlk : meth.locks = false) (r0 : Nat) (x1 : Int32) (x2 : Int32) (x3 : Int32) (x4 : Int32) (h0 : isC4 r0) (D : Dm) (h : f_X4_put r0 x1 x2 x3 x4 D = some D') : BV G tA z E p l e (rmC 1 0 0) s m args below meth c LAY D D' 5 0 [(0, .ref (z + r0)), (1, .int x1), (2, .int x2), (3, .int x3), (4, .int x4)] [] := by
  obtain ⟨hx, hb, -, hown, hts, -⟩ := id O
  unfold f_X4_put at h
  intro H locs ls hH hl
  refine lv_aload_n hx hb dX4_put_0 rfl (lv_at hl 0 rfl) ?_
  refine h_getr O hH h0.1 rfl fl_X4_11 dX4_put_1 ?_
  refine lv_iload_n hx hb dX4_put_4 rfl (lv_at hl 1 rfl) ?_
  refine lv_iload_n hx hb dX4_put_5 rfl (lv_at hl 2 rfl) ?_
  obtain ⟨g1, h⟩ := gd_some h
  obtain ⟨D2, e3, h⟩ := lt_some h
  refine h_iast O hH h0.2.1 g1 e3 dX4_put_6 (fun H locs hH => ?_)
  refine lv_aload_n hx hb dX4_put_7 rfl (lv_at hl 0 rfl) ?_
  refine h_getr O hH h0.1 rfl fl_X4_15 dX4_put_8 ?_
  refine lv_iload_n hx hb dX4_put_11 rfl (lv_at hl 1 rfl) ?_
  refine lv_iload_n hx hb dX4_put_12 rfl (lv_at hl 3 rfl) ?_
  obtain ⟨g4, h⟩ := gd_some h
  obtain ⟨D5, e6, h⟩ := lt_some h
  refine h_iast O hH h0.2.2.1 g4 e6 dX4_put_13 (fun H locs hH => ?_)
  refine lv_aload_n hx hb dX4_put_14 rfl (lv_at hl 0 rfl) ?_
  refine h_getr O hH h0.1 rfl fl_X4_18 dX4_put_15 ?_
  refine lv_iload_n hx hb dX4_put_18 rfl (lv_at hl 1 rfl) ?_
  refine lv_iload hx hb dX4_put_19 (lv_at hl 4 rfl) ?_
  obtain ⟨g7, h⟩ := gd_some h
  obtain ⟨D8, e9, h⟩ := lt_some h
  refine h_iast O hH h0.2.2.2 g7 e9 dX4_put_21 (fun H locs hH => ?_)
  obtain rfl := ret_v h
  exact h_vret O hr hlk hH dX4_put_22
set_option maxHeartbeats 4000000 in
theorem c_X4_put {l : Launch} {G : va_G} {tA : Nat → ClassId} {z : Nat} {E : Ex} {r0 : Nat} {x1 : Int32} {x2 : Int32} {x3 : Int32} {x4 : Int32} (h0 : isC4 r0) {D D' : Dm} (h : f_X4_put r0 x1 x2 x3 x4 D = some D') : CtV l yX4_put cX4_put 5 G tA z E 1 0 0 [.ref (z + r0), .int x1, .int x2, .int x3, .int x4] LAY D LAY D' :=
  ct_BV (by decide +kernel) (Nat.le_of_ble_eq_true rfl) (fun _ _ _ _ _ _ _ _ O hr hlk => w_X4_put O hr hlk _ _ _ _ _ h0 _ h)
set_option maxHeartbeats 4000000 in
theorem w_X4_countMoves_23 {G : va_G} {tA : Nat → ClassId} {z : Nat} {E : Ex} {p : Program} {l : Launch} {e : Env} {s : State} {m : MethodId} {args : Array Value} {below : List Frame} {meth : Method} {c : Code} {r : Int32} {D' : Dm} (O : Ok G tA z E cX4_countMoves RX4 3 p s m args c) (hr : meth.sig.returnType = some .int) (hlk : meth.locks = false) {k4 : Nat → Int32 → Int32 → Dm → Option (Int32 × Dm)} (hk4 : ∀ (r0 : Nat) (x1 : Int32) (x2 : Int32) (h0 : isC4 r0) (D : Dm), k4 r0 x1 x2 D = some (r, D') → BI G tA z E p l e (rmC 1 0 0) s m args below meth c LAY D r D' 3 4 [(0, .ref (z + r0)), (1, .int x1), (2, .int x2)] []) (r0 : Nat) (x1 : Int32) (x2 : Int32) (h0 : isC4 r0) (D : Dm) (h : f_X4_countMoves_23 k4 r0 x1 x2 D = some (r, D')) : BI G tA z E p l e (rmC 1 0 0) s m args below meth c LAY D r D' 3 23 [(0, .ref (z + r0)), (1, .int x1), (2, .int x2)] [] := by
  obtain ⟨hx, hb, -, hown, hts, -⟩ := id O
  unfold f_X4_countMoves_23 at h
  intro H locs ls hH hl
  obtain ⟨y1, e2, h⟩ := lt_some h
  refine lv_iinc (v := y1) (lv' := [(2, .int y1), (0, .ref (z + r0)), (1, .int x1)]) hx hb dX4_countMoves_23 hl (k := 2) rfl (by rw [e2]; rfl) (by decide) rfl (fun ls hl => ?_)
  refine lv_goto (tgt := 4) hx hb dX4_countMoves_26 (by decide) ?_
  exact hk4 _ _ _ h0 _ h _ _ _ hH (lv_sub hl [1, 2, 0] rfl)
set_option maxHeartbeats 4000000 in
theorem w_X4_countMoves_4_b {G : va_G} {tA : Nat → ClassId} {z : Nat} {E : Ex} {p : Program} {l : Launch} {e : Env} {s : State} {m : MethodId} {args : Array Value} {below : List Frame} {meth : Method} {c : Code} {r : Int32} {D' : Dm} (O : Ok G tA z E cX4_countMoves RX4 3 p s m args c) (hr : meth.sig.returnType = some .int) (hlk : meth.locks = false) {k4 : Nat → Int32 → Int32 → Dm → Option (Int32 × Dm)} (hk4 : ∀ (r0 : Nat) (x1 : Int32) (x2 : Int32) (h0 : isC4 r0) (D : Dm), k4 r0 x1 x2 D = some (r, D') → BI G tA z E p l e (rmC 1 0 0) s m args below meth c LAY D r D' 3 4 [(0, .ref (z + r0)), (1, .int x1), (2, .int x2)] []) (r0 : Nat) (x1 : Int32) (x2 : Int32) (h0 : isC4 r0) (D : Dm) (h : f_X4_countMoves_4_b k4 r0 x1 x2 D = some (r, D')) : BI G tA z E p l e (rmC 1 0 0) s m args below meth c LAY D r D' 3 4 [(0, .ref (z + r0)), (1, .int x1), (2, .int x2)] [] := by
  obtain ⟨hx, hb, -, hown, hts, -⟩ := id O
  unfold f_X4_countMoves_4_b at h
  intro H locs ls hH hl
  refine lv_iload_n hx hb dX4_countMoves_4 rfl (lv_at hl 2 rfl) ?_
  refine lv_bipush (v := 30) hx hb dX4_countMoves_5 (by decide) ?_
  refine lv_icmp_ge (tgt := 29) hx hb dX4_countMoves_7 (by decide) (fun c1 => ?_) (fun c1 => ?_)
  · have h := it_pos h c1
    refine lv_iload_n hx hb dX4_countMoves_29 rfl (lv_at hl 1 rfl) ?_
    obtain ⟨rfl, rfl⟩ := ret_i h
    exact h_iret O hr hlk hH dX4_countMoves_30
  · have h := it_neg h c1
    refine lv_aload_n hx hb dX4_countMoves_10 rfl (lv_at hl 0 rfl) ?_
    refine h_getr O hH h0.1 rfl fl_X4_11 dX4_countMoves_11 ?_
    refine lv_iload_n hx hb dX4_countMoves_14 rfl (lv_at hl 2 rfl) ?_
    obtain ⟨g2, h⟩ := gd_some h
    refine h_iald O hH h0.2.1 g2 dX4_countMoves_15 ?_
    refine lv_iconst (v := (-1)) hx hb dX4_countMoves_16 (by decide) ?_
    refine lv_icmp_eq (tgt := 23) hx hb dX4_countMoves_17 (by decide) (fun c3 => ?_) (fun c3 => ?_)
    · have h := it_pos h c3
      exact w_X4_countMoves_23 O hr hlk hk4 _ _ _ h0 _ h _ _ _ hH (lv_sub hl [0, 1, 2] rfl)
    · have h := it_neg h c3
      obtain ⟨y4, e5, h⟩ := lt_some h
      refine lv_iinc (v := y4) (lv' := [(1, .int y4), (0, .ref (z + r0)), (2, .int x2)]) hx hb dX4_countMoves_20 hl (k := 1) rfl (by rw [e5]; rfl) (by decide) rfl (fun ls hl => ?_)
      exact w_X4_countMoves_23 O hr hlk hk4 _ _ _ h0 _ h _ _ _ hH (lv_sub hl [1, 0, 2] rfl)
set_option maxHeartbeats 4000000 in
theorem w_X4_countMoves_4 {G : va_G} {tA : Nat → ClassId} {z : Nat} {E : Ex} {p : Program} {l : Launch} {e : Env} {s : State} {m : MethodId} {args : Array Value} {below : List Frame} {meth : Method} {c : Code} {r : Int32} {D' : Dm} (O : Ok G tA z E cX4_countMoves RX4 3 p s m args c) (hr : meth.sig.returnType = some .int) (hlk : meth.locks = false) : ∀ (n : Nat) (r0 : Nat) (x1 : Int32) (x2 : Int32) (h0 : isC4 r0) (D : Dm) (h : f_X4_countMoves_4 n r0 x1 x2 D = some (r, D')), BI G tA z E p l e (rmC 1 0 0) s m args below meth c LAY D r D' 3 4 [(0, .ref (z + r0)), (1, .int x1), (2, .int x2)] [] := by
  intro n
  induction n with
  | zero => intro r0 x1 x2 h0 D h; exact no_some h
  | succ n ih => intro r0 x1 x2 h0 D h; exact w_X4_countMoves_4_b O hr hlk (fun r0 x1 x2 h0 D h => ih r0 x1 x2 h0 D h) r0 x1 x2 h0 D h
set_option maxHeartbeats 4000000 in
theorem w_X4_countMoves {G : va_G} {tA : Nat → ClassId} {z : Nat} {E : Ex} {p : Program} {l : Launch} {e : Env} {s : State} {m : MethodId} {args : Array Value} {below : List Frame} {meth : Method} {c : Code} {r : Int32} {D' : Dm} (O : Ok G tA z E cX4_countMoves RX4 3 p s m args c) (hr : meth.sig.returnType = some .int) (hlk : meth.locks = false) (r0 : Nat) (h0 : isC4 r0) (D : Dm) (h : f_X4_countMoves r0 D = some (r, D')) : BI G tA z E p l e (rmC 1 0 0) s m args below meth c LAY D r D' 3 0 [(0, .ref (z + r0))] [] := by
  obtain ⟨hx, hb, -, hown, hts, -⟩ := id O
  unfold f_X4_countMoves at h
  intro H locs ls hH hl
  refine lv_iconst (v := 0) hx hb dX4_countMoves_0 (by decide) ?_
  refine lv_istore_n (lv' := [(1, .int 0), (0, .ref (z + r0))]) hx hb dX4_countMoves_1 rfl hl (by decide) rfl (fun ls hl => ?_)
  refine lv_iconst (v := 0) hx hb dX4_countMoves_2 (by decide) ?_
  refine lv_istore_n (lv' := [(2, .int 0), (1, .int 0), (0, .ref (z + r0))]) hx hb dX4_countMoves_3 rfl hl (by decide) rfl (fun ls hl => ?_)
  exact w_X4_countMoves_4 O hr hlk FU _ _ _ h0 _ h _ _ _ hH (lv_sub hl [2, 1, 0] rfl)
set_option maxHeartbeats 4000000 in
theorem c_X4_countMoves {l : Launch} {G : va_G} {tA : Nat → ClassId} {z : Nat} {E : Ex} {r0 : Nat} (h0 : isC4 r0) {D D' : Dm} {r : Int32} (h : f_X4_countMoves r0 D = some (r, D')) : CtI l yX4_countMoves cX4_countMoves 3 (some .int) G tA z E 1 0 0 [.ref (z + r0)] LAY D r LAY D' :=
  ct_BI (by decide +kernel) (Nat.le_of_ble_eq_true rfl) (fun _ _ _ _ _ _ _ _ O hr hlk => w_X4_countMoves O hr hlk _ h0 _ h)
