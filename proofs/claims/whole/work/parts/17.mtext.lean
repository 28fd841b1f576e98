theorem dX5_readStates_0 : decode cX5_readStates 0 = .ok (.aload_n 0, 1) := by decide +kernel
theorem dX5_readStates_1 : decode cX5_readStates 1 = .ok (.getfield 21, 3) := by decide +kernel
theorem dX5_readStates_4 : decode cX5_readStates 4 = .ok (.ifCond .ne 10, 3) := by decide +kernel
theorem dX5_readStates_7 : decode cX5_readStates 7 = .ok (.aload_n 0, 1) := by decide +kernel
theorem dX5_readStates_8 : decode cX5_readStates 8 = .ok (.getfield 31, 3) := by decide +kernel
theorem dX5_readStates_11 : decode cX5_readStates 11 = .ok (.ifCond .eq 7, 3) := by decide +kernel
theorem dX5_readStates_14 : decode cX5_readStates 14 = .ok (.iconst 1, 1) := by decide +kernel
theorem dX5_readStates_15 : decode cX5_readStates 15 = .ok (.goto 4, 3) := by decide +kernel
theorem dX5_readStates_18 : decode cX5_readStates 18 = .ok (.iconst 0, 1) := by decide +kernel
theorem dX5_readStates_19 : decode cX5_readStates 19 = .ok (.istore_n 2, 1) := by decide +kernel
theorem dX5_readStates_20 : decode cX5_readStates 20 = .ok (.aload_n 0, 1) := by decide +kernel
theorem dX5_readStates_21 : decode cX5_readStates 21 = .ok (.iconst 1, 1) := by decide +kernel
theorem dX5_readStates_22 : decode cX5_readStates 22 = .ok (.putfield 21, 3) := by decide +kernel
theorem dX5_readStates_25 : decode cX5_readStates 25 = .ok (.aload_n 0, 1) := by decide +kernel
theorem dX5_readStates_26 : decode cX5_readStates 26 = .ok (.getfield 12, 3) := by decide +kernel
theorem dX5_readStates_29 : decode cX5_readStates 29 = .ok (.aload_n 1, 1) := by decide +kernel
theorem dX5_readStates_30 : decode cX5_readStates 30 = .ok (.iconst 1, 1) := by decide +kernel
theorem dX5_readStates_31 : decode cX5_readStates 31 = .ok (.iconst 5, 1) := by decide +kernel
theorem dX5_readStates_32 : decode cX5_readStates 32 = .ok (.invokevirtual 88, 3) := by decide +kernel
theorem dX5_readStates_35 : decode cX5_readStates 35 = .ok (.putfield 92, 3) := by decide +kernel
theorem dX5_readStates_38 : decode cX5_readStates 38 = .ok (.iload_n 2, 1) := by decide +kernel
theorem dX5_readStates_39 : decode cX5_readStates 39 = .ok (.ireturn, 1) := by decide +kernel
theorem dX5_readRegisters_0 : decode cX5_readRegisters 0 = .ok (.aload_n 0, 1) := by decide +kernel
theorem dX5_readRegisters_1 : decode cX5_readRegisters 1 = .ok (.getfield 25, 3) := by decide +kernel
theorem dX5_readRegisters_4 : decode cX5_readRegisters 4 = .ok (.ifCond .ne 10, 3) := by decide +kernel
theorem dX5_readRegisters_7 : decode cX5_readRegisters 7 = .ok (.aload_n 0, 1) := by decide +kernel
theorem dX5_readRegisters_8 : decode cX5_readRegisters 8 = .ok (.getfield 31, 3) := by decide +kernel
theorem dX5_readRegisters_11 : decode cX5_readRegisters 11 = .ok (.ifCond .eq 7, 3) := by decide +kernel
theorem dX5_readRegisters_14 : decode cX5_readRegisters 14 = .ok (.iconst 1, 1) := by decide +kernel
theorem dX5_readRegisters_15 : decode cX5_readRegisters 15 = .ok (.goto 4, 3) := by decide +kernel
theorem dX5_readRegisters_18 : decode cX5_readRegisters 18 = .ok (.iconst 0, 1) := by decide +kernel
theorem dX5_readRegisters_19 : decode cX5_readRegisters 19 = .ok (.istore_n 2, 1) := by decide +kernel
theorem dX5_readRegisters_20 : decode cX5_readRegisters 20 = .ok (.aload_n 0, 1) := by decide +kernel
theorem dX5_readRegisters_21 : decode cX5_readRegisters 21 = .ok (.iconst 1, 1) := by decide +kernel
theorem dX5_readRegisters_22 : decode cX5_readRegisters 22 = .ok (.putfield 25, 3) := by decide +kernel
theorem dX5_readRegisters_25 : decode cX5_readRegisters 25 = .ok (.aload_n 0, 1) := by decide +kernel
theorem dX5_readRegisters_26 : decode cX5_readRegisters 26 = .ok (.getfield 12, 3) := by decide +kernel
theorem dX5_readRegisters_29 : decode cX5_readRegisters 29 = .ok (.aload_n 1, 1) := by decide +kernel
theorem dX5_readRegisters_30 : decode cX5_readRegisters 30 = .ok (.iconst 0, 1) := by decide +kernel
theorem dX5_readRegisters_31 : decode cX5_readRegisters 31 = .ok (.iconst 2, 1) := by decide +kernel
theorem dX5_readRegisters_32 : decode cX5_readRegisters 32 = .ok (.invokevirtual 88, 3) := by decide +kernel
theorem dX5_readRegisters_35 : decode cX5_readRegisters 35 = .ok (.putfield 94, 3) := by decide +kernel
theorem dX5_readRegisters_38 : decode cX5_readRegisters 38 = .ok (.iload_n 2, 1) := by decide +kernel
theorem dX5_readRegisters_39 : decode cX5_readRegisters 39 = .ok (.ireturn, 1) := by decide +kernel
theorem dX5_readSymbols_0 : decode cX5_readSymbols 0 = .ok (.aload_n 0, 1) := by decide +kernel
theorem dX5_readSymbols_1 : decode cX5_readSymbols 1 = .ok (.getfield 28, 3) := by decide +kernel
theorem dX5_readSymbols_4 : decode cX5_readSymbols 4 = .ok (.ifCond .ne 10, 3) := by decide +kernel
theorem dX5_readSymbols_7 : decode cX5_readSymbols 7 = .ok (.aload_n 0, 1) := by decide +kernel
theorem dX5_readSymbols_8 : decode cX5_readSymbols 8 = .ok (.getfield 31, 3) := by decide +kernel
theorem dX5_readSymbols_11 : decode cX5_readSymbols 11 = .ok (.ifCond .eq 7, 3) := by decide +kernel
theorem dX5_readSymbols_14 : decode cX5_readSymbols 14 = .ok (.iconst 1, 1) := by decide +kernel
theorem dX5_readSymbols_15 : decode cX5_readSymbols 15 = .ok (.goto 4, 3) := by decide +kernel
theorem dX5_readSymbols_18 : decode cX5_readSymbols 18 = .ok (.iconst 0, 1) := by decide +kernel
theorem dX5_readSymbols_19 : decode cX5_readSymbols 19 = .ok (.istore_n 2, 1) := by decide +kernel
theorem dX5_readSymbols_20 : decode cX5_readSymbols 20 = .ok (.aload_n 0, 1) := by decide +kernel
theorem dX5_readSymbols_21 : decode cX5_readSymbols 21 = .ok (.iconst 1, 1) := by decide +kernel
theorem dX5_readSymbols_22 : decode cX5_readSymbols 22 = .ok (.putfield 28, 3) := by decide +kernel
theorem dX5_readSymbols_25 : decode cX5_readSymbols 25 = .ok (.aload_n 0, 1) := by decide +kernel
theorem dX5_readSymbols_26 : decode cX5_readSymbols 26 = .ok (.getfield 12, 3) := by decide +kernel
theorem dX5_readSymbols_29 : decode cX5_readSymbols 29 = .ok (.aload_n 1, 1) := by decide +kernel
theorem dX5_readSymbols_30 : decode cX5_readSymbols 30 = .ok (.iconst 1, 1) := by decide +kernel
theorem dX5_readSymbols_31 : decode cX5_readSymbols 31 = .ok (.iconst 2, 1) := by decide +kernel
theorem dX5_readSymbols_32 : decode cX5_readSymbols 32 = .ok (.invokevirtual 88, 3) := by decide +kernel
theorem dX5_readSymbols_35 : decode cX5_readSymbols 35 = .ok (.putfield 96, 3) := by decide +kernel
theorem dX5_readSymbols_38 : decode cX5_readSymbols 38 = .ok (.iload_n 2, 1) := by decide +kernel
theorem dX5_readSymbols_39 : decode cX5_readSymbols 39 = .ok (.ireturn, 1) := by decide +kernel
theorem dX5_readAccept_0 : decode cX5_readAccept 0 = .ok (.aload_n 0, 1) := by decide +kernel
theorem dX5_readAccept_1 : decode cX5_readAccept 1 = .ok (.iconst 1, 1) := by decide +kernel
theorem dX5_readAccept_2 : decode cX5_readAccept 2 = .ok (.putfield 31, 3) := by decide +kernel
theorem dX5_readAccept_5 : decode cX5_readAccept 5 = .ok (.iconst 1, 1) := by decide +kernel
theorem dX5_readAccept_6 : decode cX5_readAccept 6 = .ok (.aload_n 1, 1) := by decide +kernel
theorem dX5_readAccept_7 : decode cX5_readAccept 7 = .ok (.iconst 0, 1) := by decide +kernel
theorem dX5_readAccept_8 : decode cX5_readAccept 8 = .ok (.aload_n 0, 1) := by decide +kernel
theorem dX5_readAccept_9 : decode cX5_readAccept 9 = .ok (.getfield 12, 3) := by decide +kernel
theorem dX5_readAccept_12 : decode cX5_readAccept 12 = .ok (.getfield 92, 3) := by decide +kernel
theorem dX5_readAccept_15 : decode cX5_readAccept 15 = .ok (.iconst 1, 1) := by decide +kernel
theorem dX5_readAccept_16 : decode cX5_readAccept 16 = .ok (.isub, 1) := by decide +kernel
theorem dX5_readAccept_17 : decode cX5_readAccept 17 = .ok (.invokevirtual 88, 3) := by decide +kernel
theorem dX5_readAccept_20 : decode cX5_readAccept 20 = .ok (.ishl, 1) := by decide +kernel
theorem dX5_readAccept_21 : decode cX5_readAccept 21 = .ok (.istore_n 2, 1) := by decide +kernel
theorem dX5_readAccept_22 : decode cX5_readAccept 22 = .ok (.aload_n 0, 1) := by decide +kernel
theorem dX5_readAccept_23 : decode cX5_readAccept 23 = .ok (.getfield 12, 3) := by decide +kernel
theorem dX5_readAccept_26 : decode cX5_readAccept 26 = .ok (.getfield 98, 3) := by decide +kernel
theorem dX5_readAccept_29 : decode cX5_readAccept 29 = .ok (.iload_n 2, 1) := by decide +kernel
theorem dX5_readAccept_30 : decode cX5_readAccept 30 = .ok (.iand, 1) := by decide +kernel
theorem dX5_readAccept_31 : decode cX5_readAccept 31 = .ok (.ifCond .eq 7, 3) := by decide +kernel
theorem dX5_readAccept_34 : decode cX5_readAccept 34 = .ok (.iconst 1, 1) := by decide +kernel
theorem dX5_readAccept_35 : decode cX5_readAccept 35 = .ok (.goto 4, 3) := by decide +kernel
theorem dX5_readAccept_38 : decode cX5_readAccept 38 = .ok (.iconst 0, 1) := by decide +kernel
theorem dX5_readAccept_39 : decode cX5_readAccept 39 = .ok (.istore_n 3, 1) := by decide +kernel
theorem dX5_readAccept_40 : decode cX5_readAccept 40 = .ok (.aload_n 0, 1) := by decide +kernel
theorem dX5_readAccept_41 : decode cX5_readAccept 41 = .ok (.getfield 12, 3) := by decide +kernel
theorem dX5_readAccept_44 : decode cX5_readAccept 44 = .ok (.dup, 1) := by decide +kernel
theorem dX5_readAccept_45 : decode cX5_readAccept 45 = .ok (.getfield 98, 3) := by decide +kernel
theorem dX5_readAccept_48 : decode cX5_readAccept 48 = .ok (.iload_n 2, 1) := by decide +kernel
theorem dX5_readAccept_49 : decode cX5_readAccept 49 = .ok (.ior, 1) := by decide +kernel
theorem dX5_readAccept_50 : decode cX5_readAccept 50 = .ok (.putfield 98, 3) := by decide +kernel
theorem dX5_readAccept_53 : decode cX5_readAccept 53 = .ok (.iload_n 3, 1) := by decide +kernel
theorem dX5_readAccept_54 : decode cX5_readAccept 54 = .ok (.ireturn, 1) := by decide +kernel
theorem dX5_readMove_0 : decode cX5_readMove 0 = .ok (.aload_n 0, 1) := by decide +kernel
theorem dX5_readMove_1 : decode cX5_readMove 1 = .ok (.iconst 1, 1) := by decide +kernel
theorem dX5_readMove_2 : decode cX5_readMove 2 = .ok (.putfield 31, 3) := by decide +kernel
theorem dX5_readMove_5 : decode cX5_readMove 5 = .ok (.aload_n 1, 1) := by decide +kernel
theorem dX5_readMove_6 : decode cX5_readMove 6 = .ok (.iconst 0, 1) := by decide +kernel
theorem dX5_readMove_7 : decode cX5_readMove 7 = .ok (.aload_n 0, 1) := by decide +kernel
theorem dX5_readMove_8 : decode cX5_readMove 8 = .ok (.getfield 12, 3) := by decide +kernel
theorem dX5_readMove_11 : decode cX5_readMove 11 = .ok (.getfield 92, 3) := by decide +kernel
theorem dX5_readMove_14 : decode cX5_readMove 14 = .ok (.iconst 1, 1) := by decide +kernel
theorem dX5_readMove_15 : decode cX5_readMove 15 = .ok (.isub, 1) := by decide +kernel
theorem dX5_readMove_16 : decode cX5_readMove 16 = .ok (.invokevirtual 88, 3) := by decide +kernel
theorem dX5_readMove_19 : decode cX5_readMove 19 = .ok (.istore_n 2, 1) := by decide +kernel
theorem dX5_readMove_20 : decode cX5_readMove 20 = .ok (.aload_n 1, 1) := by decide +kernel
theorem dX5_readMove_21 : decode cX5_readMove 21 = .ok (.aload_n 0, 1) := by decide +kernel
theorem dX5_readMove_22 : decode cX5_readMove 22 = .ok (.getfield 12, 3) := by decide +kernel
theorem dX5_readMove_25 : decode cX5_readMove 25 = .ok (.getfield 96, 3) := by decide +kernel
theorem dX5_readMove_28 : decode cX5_readMove 28 = .ok (.invokevirtual 101, 3) := by decide +kernel
theorem dX5_readMove_31 : decode cX5_readMove 31 = .ok (.istore_n 3, 1) := by decide +kernel
theorem dX5_readMove_32 : decode cX5_readMove 32 = .ok (.iconst 2, 1) := by decide +kernel
theorem dX5_readMove_33 : decode cX5_readMove 33 = .ok (.istore 4, 2) := by decide +kernel
theorem dX5_readMove_35 : decode cX5_readMove 35 = .ok (.aload_n 1, 1) := by decide +kernel
theorem dX5_readMove_36 : decode cX5_readMove 36 = .ok (.ldc 105, 2) := by decide +kernel
theorem dX5_readMove_38 : decode cX5_readMove 38 = .ok (.invokevirtual 50, 3) := by decide +kernel
theorem dX5_readMove_41 : decode cX5_readMove 41 = .ok (.ifCond .eq 22, 3) := by decide +kernel
theorem dX5_readMove_44 : decode cX5_readMove 44 = .ok (.aload_n 1, 1) := by decide +kernel
theorem dX5_readMove_45 : decode cX5_readMove 45 = .ok (.iconst 0, 1) := by decide +kernel
theorem dX5_readMove_46 : decode cX5_readMove 46 = .ok (.aload_n 0, 1) := by decide +kernel
theorem dX5_readMove_47 : decode cX5_readMove 47 = .ok (.getfield 12, 3) := by decide +kernel
theorem dX5_readMove_50 : decode cX5_readMove 50 = .ok (.getfield 94, 3) := by decide +kernel
theorem dX5_readMove_53 : decode cX5_readMove 53 = .ok (.iconst 1, 1) := by decide +kernel
theorem dX5_readMove_54 : decode cX5_readMove 54 = .ok (.isub, 1) := by decide +kernel
theorem dX5_readMove_55 : decode cX5_readMove 55 = .ok (.invokevirtual 88, 3) := by decide +kernel
theorem dX5_readMove_58 : decode cX5_readMove 58 = .ok (.istore 4, 2) := by decide +kernel
theorem dX5_readMove_60 : decode cX5_readMove 60 = .ok (.goto 9, 3) := by decide +kernel
theorem dX5_readMove_63 : decode cX5_readMove 63 = .ok (.aload_n 1, 1) := by decide +kernel
theorem dX5_readMove_64 : decode cX5_readMove 64 = .ok (.ldc 107, 2) := by decide +kernel
theorem dX5_readMove_66 : decode cX5_readMove 66 = .ok (.invokevirtual 84, 3) := by decide +kernel
theorem dX5_readMove_69 : decode cX5_readMove 69 = .ok (.aload_n 1, 1) := by decide +kernel
theorem dX5_readMove_70 : decode cX5_readMove 70 = .ok (.ldc 109, 2) := by decide +kernel
theorem dX5_readMove_72 : decode cX5_readMove 72 = .ok (.invokevirtual 84, 3) := by decide +kernel
theorem dX5_readMove_75 : decode cX5_readMove 75 = .ok (.aload_n 1, 1) := by decide +kernel
theorem dX5_readMove_76 : decode cX5_readMove 76 = .ok (.iconst 0, 1) := by decide +kernel
theorem dX5_readMove_77 : decode cX5_readMove 77 = .ok (.aload_n 0, 1) := by decide +kernel
theorem dX5_readMove_78 : decode cX5_readMove 78 = .ok (.getfield 12, 3) := by decide +kernel
theorem dX5_readMove_81 : decode cX5_readMove 81 = .ok (.getfield 92, 3) := by decide +kernel
theorem dX5_readMove_84 : decode cX5_readMove 84 = .ok (.iconst 1, 1) := by decide +kernel
theorem dX5_readMove_85 : decode cX5_readMove 85 = .ok (.isub, 1) := by decide +kernel
theorem dX5_readMove_86 : decode cX5_readMove 86 = .ok (.invokevirtual 88, 3) := by decide +kernel
theorem dX5_readMove_89 : decode cX5_readMove 89 = .ok (.istore 5, 2) := by decide +kernel
theorem dX5_readMove_91 : decode cX5_readMove 91 = .ok (.aload_n 1, 1) := by decide +kernel
theorem dX5_readMove_92 : decode cX5_readMove 92 = .ok (.ldc 111, 2) := by decide +kernel
theorem dX5_readMove_94 : decode cX5_readMove 94 = .ok (.invokevirtual 50, 3) := by decide +kernel
theorem dX5_readMove_97 : decode cX5_readMove 97 = .ok (.ifCond .eq 20, 3) := by decide +kernel
theorem dX5_readMove_100 : decode cX5_readMove 100 = .ok (.aload_n 1, 1) := by decide +kernel
theorem dX5_readMove_101 : decode cX5_readMove 101 = .ok (.iconst 0, 1) := by decide +kernel
theorem dX5_readMove_102 : decode cX5_readMove 102 = .ok (.aload_n 0, 1) := by decide +kernel
theorem dX5_readMove_103 : decode cX5_readMove 103 = .ok (.getfield 12, 3) := by decide +kernel
theorem dX5_readMove_106 : decode cX5_readMove 106 = .ok (.getfield 94, 3) := by decide +kernel
theorem dX5_readMove_109 : decode cX5_readMove 109 = .ok (.iconst 1, 1) := by decide +kernel
theorem dX5_readMove_110 : decode cX5_readMove 110 = .ok (.isub, 1) := by decide +kernel
theorem dX5_readMove_111 : decode cX5_readMove 111 = .ok (.invokevirtual 88, 3) := by decide +kernel
theorem dX5_readMove_114 : decode cX5_readMove 114 = .ok (.goto 4, 3) := by decide +kernel
theorem dX5_readMove_117 : decode cX5_readMove 117 = .ok (.iconst (-1), 1) := by decide +kernel
theorem dX5_readMove_118 : decode cX5_readMove 118 = .ok (.istore 6, 2) := by decide +kernel
theorem dX5_readMove_120 : decode cX5_readMove 120 = .ok (.aload_n 1, 1) := by decide +kernel
theorem dX5_readMove_121 : decode cX5_readMove 121 = .ok (.ldc 113, 2) := by decide +kernel
theorem dX5_readMove_123 : decode cX5_readMove 123 = .ok (.invokevirtual 50, 3) := by decide +kernel
theorem dX5_readMove_126 : decode cX5_readMove 126 = .ok (.ifCond .eq 20, 3) := by decide +kernel
theorem dX5_readMove_129 : decode cX5_readMove 129 = .ok (.aload_n 1, 1) := by decide +kernel
theorem dX5_readMove_130 : decode cX5_readMove 130 = .ok (.iconst 0, 1) := by decide +kernel
theorem dX5_readMove_131 : decode cX5_readMove 131 = .ok (.aload_n 0, 1) := by decide +kernel
theorem dX5_readMove_132 : decode cX5_readMove 132 = .ok (.getfield 12, 3) := by decide +kernel
theorem dX5_readMove_135 : decode cX5_readMove 135 = .ok (.getfield 94, 3) := by decide +kernel
theorem dX5_readMove_138 : decode cX5_readMove 138 = .ok (.iconst 1, 1) := by decide +kernel
theorem dX5_readMove_139 : decode cX5_readMove 139 = .ok (.isub, 1) := by decide +kernel
theorem dX5_readMove_140 : decode cX5_readMove 140 = .ok (.invokevirtual 88, 3) := by decide +kernel
theorem dX5_readMove_143 : decode cX5_readMove 143 = .ok (.goto 4, 3) := by decide +kernel
theorem dX5_readMove_146 : decode cX5_readMove 146 = .ok (.iconst (-1), 1) := by decide +kernel
theorem dX5_readMove_147 : decode cX5_readMove 147 = .ok (.istore 7, 2) := by decide +kernel
theorem dX5_readMove_149 : decode cX5_readMove 149 = .ok (.aload_n 1, 1) := by decide +kernel
theorem dX5_readMove_150 : decode cX5_readMove 150 = .ok (.getfield 115, 3) := by decide +kernel
theorem dX5_readMove_153 : decode cX5_readMove 153 = .ok (.ifCond .eq 5, 3) := by decide +kernel
theorem dX5_readMove_156 : decode cX5_readMove 156 = .ok (.iconst 0, 1) := by decide +kernel
theorem dX5_readMove_157 : decode cX5_readMove 157 = .ok (.ireturn, 1) := by decide +kernel
theorem dX5_readMove_158 : decode cX5_readMove 158 = .ok (.iload_n 2, 1) := by decide +kernel
theorem dX5_readMove_159 : decode cX5_readMove 159 = .ok (.iload_n 3, 1) := by decide +kernel
theorem dX5_readMove_160 : decode cX5_readMove 160 = .ok (.iload 4, 2) := by decide +kernel
theorem dX5_readMove_162 : decode cX5_readMove 162 = .ok (.invokestatic 118, 3) := by decide +kernel
theorem dX5_readMove_165 : decode cX5_readMove 165 = .ok (.istore 8, 2) := by decide +kernel
theorem dX5_readMove_167 : decode cX5_readMove 167 = .ok (.aload_n 0, 1) := by decide +kernel
theorem dX5_readMove_168 : decode cX5_readMove 168 = .ok (.getfield 12, 3) := by decide +kernel
theorem dX5_readMove_171 : decode cX5_readMove 171 = .ok (.getfield 122, 3) := by decide +kernel
theorem dX5_readMove_174 : decode cX5_readMove 174 = .ok (.iload 8, 2) := by decide +kernel
theorem dX5_readMove_176 : decode cX5_readMove 176 = .ok (.iaload, 1) := by decide +kernel
theorem dX5_readMove_177 : decode cX5_readMove 177 = .ok (.iconst (-1), 1) := by decide +kernel
theorem dX5_readMove_178 : decode cX5_readMove 178 = .ok (.if_icmp .eq 7, 3) := by decide +kernel
theorem dX5_readMove_181 : decode cX5_readMove 181 = .ok (.iconst 1, 1) := by decide +kernel
theorem dX5_readMove_182 : decode cX5_readMove 182 = .ok (.goto 4, 3) := by decide +kernel
theorem dX5_readMove_185 : decode cX5_readMove 185 = .ok (.iconst 0, 1) := by decide +kernel
theorem dX5_readMove_186 : decode cX5_readMove 186 = .ok (.istore 9, 2) := by decide +kernel
theorem dX5_readMove_188 : decode cX5_readMove 188 = .ok (.aload_n 0, 1) := by decide +kernel
theorem dX5_readMove_189 : decode cX5_readMove 189 = .ok (.getfield 12, 3) := by decide +kernel
theorem dX5_readMove_192 : decode cX5_readMove 192 = .ok (.iload 8, 2) := by decide +kernel
theorem dX5_readMove_194 : decode cX5_readMove 194 = .ok (.iload 5, 2) := by decide +kernel
theorem dX5_readMove_196 : decode cX5_readMove 196 = .ok (.iload 6, 2) := by decide +kernel
theorem dX5_readMove_198 : decode cX5_readMove 198 = .ok (.iload 7, 2) := by decide +kernel
theorem dX5_readMove_200 : decode cX5_readMove 200 = .ok (.invokevirtual 125, 3) := by decide +kernel
theorem dX5_readMove_203 : decode cX5_readMove 203 = .ok (.iload 9, 2) := by decide +kernel
theorem dX5_readMove_205 : decode cX5_readMove 205 = .ok (.ireturn, 1) := by decide +kernel
theorem dX5_readLine_0 : decode cX5_readLine 0 = .ok (.aload_n 1, 1) := by decide +kernel
theorem dX5_readLine_1 : decode cX5_readLine 1 = .ok (.getfield 44, 3) := by decide +kernel
theorem dX5_readLine_4 : decode cX5_readLine 4 = .ok (.istore_n 2, 1) := by decide +kernel
theorem dX5_readLine_5 : decode cX5_readLine 5 = .ok (.iconst 0, 1) := by decide +kernel
theorem dX5_readLine_6 : decode cX5_readLine 6 = .ok (.istore_n 3, 1) := by decide +kernel
theorem dX5_readLine_7 : decode cX5_readLine 7 = .ok (.aload_n 1, 1) := by decide +kernel
theorem dX5_readLine_8 : decode cX5_readLine 8 = .ok (.ldc 48, 2) := by decide +kernel
theorem dX5_readLine_10 : decode cX5_readLine 10 = .ok (.invokevirtual 50, 3) := by decide +kernel
theorem dX5_readLine_13 : decode cX5_readLine 13 = .ok (.ifCond .eq 12, 3) := by decide +kernel
theorem dX5_readLine_16 : decode cX5_readLine 16 = .ok (.aload_n 0, 1) := by decide +kernel
theorem dX5_readLine_17 : decode cX5_readLine 17 = .ok (.aload_n 1, 1) := by decide +kernel
theorem dX5_readLine_18 : decode cX5_readLine 18 = .ok (.invokevirtual 54, 3) := by decide +kernel
theorem dX5_readLine_21 : decode cX5_readLine 21 = .ok (.istore_n 3, 1) := by decide +kernel
theorem dX5_readLine_22 : decode cX5_readLine 22 = .ok (.goto 81, 3) := by decide +kernel
theorem dX5_readLine_25 : decode cX5_readLine 25 = .ok (.aload_n 1, 1) := by decide +kernel
theorem dX5_readLine_26 : decode cX5_readLine 26 = .ok (.ldc 58, 2) := by decide +kernel
theorem dX5_readLine_28 : decode cX5_readLine 28 = .ok (.invokevirtual 50, 3) := by decide +kernel
theorem dX5_readLine_31 : decode cX5_readLine 31 = .ok (.ifCond .eq 12, 3) := by decide +kernel
theorem dX5_readLine_34 : decode cX5_readLine 34 = .ok (.aload_n 0, 1) := by decide +kernel
theorem dX5_readLine_35 : decode cX5_readLine 35 = .ok (.aload_n 1, 1) := by decide +kernel
theorem dX5_readLine_36 : decode cX5_readLine 36 = .ok (.invokevirtual 60, 3) := by decide +kernel
theorem dX5_readLine_39 : decode cX5_readLine 39 = .ok (.istore_n 3, 1) := by decide +kernel
theorem dX5_readLine_40 : decode cX5_readLine 40 = .ok (.goto 63, 3) := by decide +kernel
theorem dX5_readLine_43 : decode cX5_readLine 43 = .ok (.aload_n 1, 1) := by decide +kernel
theorem dX5_readLine_44 : decode cX5_readLine 44 = .ok (.ldc 63, 2) := by decide +kernel
theorem dX5_readLine_46 : decode cX5_readLine 46 = .ok (.invokevirtual 50, 3) := by decide +kernel
theorem dX5_readLine_49 : decode cX5_readLine 49 = .ok (.ifCond .eq 12, 3) := by decide +kernel
theorem dX5_readLine_52 : decode cX5_readLine 52 = .ok (.aload_n 0, 1) := by decide +kernel
theorem dX5_readLine_53 : decode cX5_readLine 53 = .ok (.aload_n 1, 1) := by decide +kernel
theorem dX5_readLine_54 : decode cX5_readLine 54 = .ok (.invokevirtual 65, 3) := by decide +kernel
theorem dX5_readLine_57 : decode cX5_readLine 57 = .ok (.istore_n 3, 1) := by decide +kernel
theorem dX5_readLine_58 : decode cX5_readLine 58 = .ok (.goto 45, 3) := by decide +kernel
theorem dX5_readLine_61 : decode cX5_readLine 61 = .ok (.aload_n 1, 1) := by decide +kernel
theorem dX5_readLine_62 : decode cX5_readLine 62 = .ok (.ldc 68, 2) := by decide +kernel
theorem dX5_readLine_64 : decode cX5_readLine 64 = .ok (.invokevirtual 50, 3) := by decide +kernel
theorem dX5_readLine_67 : decode cX5_readLine 67 = .ok (.ifCond .eq 12, 3) := by decide +kernel
theorem dX5_readLine_70 : decode cX5_readLine 70 = .ok (.aload_n 0, 1) := by decide +kernel
theorem dX5_readLine_71 : decode cX5_readLine 71 = .ok (.aload_n 1, 1) := by decide +kernel
theorem dX5_readLine_72 : decode cX5_readLine 72 = .ok (.invokevirtual 70, 3) := by decide +kernel
theorem dX5_readLine_75 : decode cX5_readLine 75 = .ok (.istore_n 3, 1) := by decide +kernel
theorem dX5_readLine_76 : decode cX5_readLine 76 = .ok (.goto 27, 3) := by decide +kernel
theorem dX5_readLine_79 : decode cX5_readLine 79 = .ok (.aload_n 1, 1) := by decide +kernel
theorem dX5_readLine_80 : decode cX5_readLine 80 = .ok (.ldc 73, 2) := by decide +kernel
theorem dX5_readLine_82 : decode cX5_readLine 82 = .ok (.invokevirtual 50, 3) := by decide +kernel
theorem dX5_readLine_85 : decode cX5_readLine 85 = .ok (.ifCond .eq 12, 3) := by decide +kernel
theorem dX5_readLine_88 : decode cX5_readLine 88 = .ok (.aload_n 0, 1) := by decide +kernel
theorem dX5_readLine_89 : decode cX5_readLine 89 = .ok (.aload_n 1, 1) := by decide +kernel
theorem dX5_readLine_90 : decode cX5_readLine 90 = .ok (.invokevirtual 75, 3) := by decide +kernel
theorem dX5_readLine_93 : decode cX5_readLine 93 = .ok (.istore_n 3, 1) := by decide +kernel
theorem dX5_readLine_94 : decode cX5_readLine 94 = .ok (.goto 9, 3) := by decide +kernel
theorem dX5_readLine_97 : decode cX5_readLine 97 = .ok (.aload_n 1, 1) := by decide +kernel
theorem dX5_readLine_98 : decode cX5_readLine 98 = .ok (.iconst 1, 1) := by decide +kernel
theorem dX5_readLine_99 : decode cX5_readLine 99 = .ok (.iload_n 2, 1) := by decide +kernel
theorem dX5_readLine_100 : decode cX5_readLine 100 = .ok (.invokevirtual 78, 3) := by decide +kernel
theorem dX5_readLine_103 : decode cX5_readLine 103 = .ok (.iload_n 3, 1) := by decide +kernel
theorem dX5_readLine_104 : decode cX5_readLine 104 = .ok (.ifCond .eq 9, 3) := by decide +kernel
theorem dX5_readLine_107 : decode cX5_readLine 107 = .ok (.aload_n 1, 1) := by decide +kernel
theorem dX5_readLine_108 : decode cX5_readLine 108 = .ok (.iconst 3, 1) := by decide +kernel
theorem dX5_readLine_109 : decode cX5_readLine 109 = .ok (.iload_n 2, 1) := by decide +kernel
theorem dX5_readLine_110 : decode cX5_readLine 110 = .ok (.invokevirtual 78, 3) := by decide +kernel
theorem dX5_readLine_113 : decode cX5_readLine 113 = .ok (.aload_n 1, 1) := by decide +kernel
theorem dX5_readLine_114 : decode cX5_readLine 114 = .ok (.ldc 82, 2) := by decide +kernel
theorem dX5_readLine_116 : decode cX5_readLine 116 = .ok (.invokevirtual 84, 3) := by decide +kernel
theorem dX5_readLine_119 : decode cX5_readLine 119 = .ok (.return_, 1) := by decide +kernel
theorem dX5_read_0 : decode cX5_read 0 = .ok (.aload_n 0, 1) := by decide +kernel
theorem dX5_read_1 : decode cX5_read 1 = .ok (.getfield 12, 3) := by decide +kernel
theorem dX5_read_4 : decode cX5_read 4 = .ok (.invokevirtual 18, 3) := by decide +kernel
theorem dX5_read_7 : decode cX5_read 7 = .ok (.aload_n 0, 1) := by decide +kernel
theorem dX5_read_8 : decode cX5_read 8 = .ok (.iconst 0, 1) := by decide +kernel
theorem dX5_read_9 : decode cX5_read 9 = .ok (.putfield 21, 3) := by decide +kernel
theorem dX5_read_12 : decode cX5_read 12 = .ok (.aload_n 0, 1) := by decide +kernel
theorem dX5_read_13 : decode cX5_read 13 = .ok (.iconst 0, 1) := by decide +kernel
theorem dX5_read_14 : decode cX5_read 14 = .ok (.putfield 25, 3) := by decide +kernel
theorem dX5_read_17 : decode cX5_read 17 = .ok (.aload_n 0, 1) := by decide +kernel
theorem dX5_read_18 : decode cX5_read 18 = .ok (.iconst 0, 1) := by decide +kernel
theorem dX5_read_19 : decode cX5_read 19 = .ok (.putfield 28, 3) := by decide +kernel
theorem dX5_read_22 : decode cX5_read 22 = .ok (.aload_n 0, 1) := by decide +kernel
theorem dX5_read_23 : decode cX5_read 23 = .ok (.iconst 0, 1) := by decide +kernel
theorem dX5_read_24 : decode cX5_read 24 = .ok (.putfield 31, 3) := by decide +kernel
theorem dX5_read_27 : decode cX5_read 27 = .ok (.iconst 0, 1) := by decide +kernel
theorem dX5_read_28 : decode cX5_read 28 = .ok (.istore_n 2, 1) := by decide +kernel
theorem dX5_read_29 : decode cX5_read 29 = .ok (.iload_n 2, 1) := by decide +kernel
theorem dX5_read_30 : decode cX5_read 30 = .ok (.sipush 500, 3) := by decide +kernel
theorem dX5_read_33 : decode cX5_read 33 = .ok (.if_icmp .ge 21, 3) := by decide +kernel
theorem dX5_read_36 : decode cX5_read 36 = .ok (.aload_n 1, 1) := by decide +kernel
theorem dX5_read_37 : decode cX5_read 37 = .ok (.invokevirtual 34, 3) := by decide +kernel
theorem dX5_read_40 : decode cX5_read 40 = .ok (.ifCond .eq 14, 3) := by decide +kernel
theorem dX5_read_43 : decode cX5_read 43 = .ok (.aload_n 0, 1) := by decide +kernel
theorem dX5_read_44 : decode cX5_read 44 = .ok (.aload_n 1, 1) := by decide +kernel
theorem dX5_read_45 : decode cX5_read 45 = .ok (.invokevirtual 40, 3) := by decide +kernel
theorem dX5_read_48 : decode cX5_read 48 = .ok (.iinc 2 1, 3) := by decide +kernel
theorem dX5_read_51 : decode cX5_read 51 = .ok (.goto (-22), 3) := by decide +kernel
theorem dX5_read_54 : decode cX5_read 54 = .ok (.return_, 1) := by decide +kernel
def f_X5_readStates_19 (xs0 : Int32) (D : Dm) : Option (Int32 × Dm) := lt (ud D 3 1 1) fun D1 => bI (f_X7_readNumber 1 5 D1) fun y5 D3 => lt (ud D3 4 0 y5) fun D6 => gd (zbB xs0) (some (xs0, D6))
def f_X5_readStates_14  (D : Dm) : Option (Int32 × Dm) := f_X5_readStates_19 1 D
def f_X5_readStates  (D : Dm) : Option (Int32 × Dm) := if (D 3 1) = 0 then (if (D 3 4) = 0 then (f_X5_readStates_19 0 D) else (f_X5_readStates_14 D)) else (f_X5_readStates_14 D)
def f_X5_readRegisters_19 (xs0 : Int32) (D : Dm) : Option (Int32 × Dm) := lt (ud D 3 2 1) fun D1 => bI (f_X7_readNumber 0 2 D1) fun y5 D3 => lt (ud D3 4 1 y5) fun D6 => gd (zbB xs0) (some (xs0, D6))
def f_X5_readRegisters_14  (D : Dm) : Option (Int32 × Dm) := f_X5_readRegisters_19 1 D
def f_X5_readRegisters  (D : Dm) : Option (Int32 × Dm) := if (D 3 2) = 0 then (if (D 3 4) = 0 then (f_X5_readRegisters_19 0 D) else (f_X5_readRegisters_14 D)) else (f_X5_readRegisters_14 D)
def f_X5_readSymbols_19 (xs0 : Int32) (D : Dm) : Option (Int32 × Dm) := lt (ud D 3 3 1) fun D1 => bI (f_X7_readNumber 1 2 D1) fun y5 D3 => lt (ud D3 4 2 y5) fun D6 => gd (zbB xs0) (some (xs0, D6))
def f_X5_readSymbols_14  (D : Dm) : Option (Int32 × Dm) := f_X5_readSymbols_19 1 D
def f_X5_readSymbols  (D : Dm) : Option (Int32 × Dm) := if (D 3 3) = 0 then (if (D 3 4) = 0 then (f_X5_readSymbols_19 0 D) else (f_X5_readSymbols_14 D)) else (f_X5_readSymbols_14 D)
def f_X5_readAccept_39 (x2 : Int32) (xs0 : Int32) (D : Dm) : Option (Int32 × Dm) := lt (ud D 4 3 ((D 4 3) ||| x2)) fun D1 => gd (zbB xs0) (some (xs0, D1))
def f_X5_readAccept  (D : Dm) : Option (Int32 × Dm) := lt (ud D 3 4 1) fun D1 => bI (f_X7_readNumber 0 ((D1 4 0) - 1) D1) fun y5 D3 => lt (1 <<< (y5 &&& 31)) fun y6 => if ((D3 4 3) &&& y6) = 0 then (f_X5_readAccept_39 y6 0 D3) else (f_X5_readAccept_39 y6 1 D3)
def f_X5_readMove_186 (x5 : Int32) (x6 : Int32) (x7 : Int32) (x8 : Int32) (xs0 : Int32) (D : Dm) : Option (Int32 × Dm) := bV (f_X4_put 4 x8 x5 x6 x7 D) fun D1 => gd (zbB xs0) (some (xs0, D1))
def f_X5_readMove_147 (x2 : Int32) (x3 : Int32) (x4 : Int32) (x5 : Int32) (x6 : Int32) (xs0 : Int32) (D : Dm) : Option (Int32 × Dm) := if (D 1 6) = 0 then (bI (f_X4_slot x2 x3 x4 D) fun y4 D2 => gd (inB y4 30) (if (D2 5 (Int32.toNatClampNeg y4)) = (-1) then (f_X5_readMove_186 x5 x6 xs0 y4 0 D2) else (f_X5_readMove_186 x5 x6 xs0 y4 1 D2))) else (some (0, D))
def f_X5_readMove_118 (x2 : Int32) (x3 : Int32) (x4 : Int32) (x5 : Int32) (xs0 : Int32) (D : Dm) : Option (Int32 × Dm) := bI (f_X7_skip 11 D) fun y3 D1 => if y3 = 0 then (f_X5_readMove_147 x2 x3 x4 x5 xs0 (-1) D1) else (bI (f_X7_readNumber 0 ((D1 4 1) - 1) D1) fun y7 D5 => f_X5_readMove_147 x2 x3 x4 x5 xs0 y7 D5)
def f_X5_readMove_69 (x2 : Int32) (x3 : Int32) (x4 : Int32) (D : Dm) : Option (Int32 × Dm) := bV (f_X7_expect 9 D) fun D1 => bI (f_X7_readNumber 0 ((D1 4 0) - 1) D1) fun y5 D3 => bI (f_X7_skip 10 D3) fun y8 D6 => if y8 = 0 then (f_X5_readMove_118 x2 x3 x4 y5 (-1) D6) else (bI (f_X7_readNumber 0 ((D6 4 1) - 1) D6) fun y12 D10 => f_X5_readMove_118 x2 x3 x4 y5 y12 D10)
def f_X5_readMove  (D : Dm) : Option (Int32 × Dm) := lt (ud D 3 4 1) fun D1 => bI (f_X7_readNumber 0 ((D1 4 0) - 1) D1) fun y5 D3 => bI (f_X7_readSymbol (D3 4 2) D3) fun y8 D6 => bI (f_X7_skip 7 D6) fun y11 D9 => if y11 = 0 then (bV (f_X7_expect 8 D9) fun D13 => f_X5_readMove_69 y5 y8 2 D13) else (bI (f_X7_readNumber 0 ((D9 4 1) - 1) D9) fun y17 D15 => f_X5_readMove_69 y5 y8 y17 D15)
def f_X5_readLine_113  (D : Dm) : Option Dm := bV (f_X7_expect 12 D) fun D1 => some D1
def f_X5_readLine_103 (x2 : Int32) (x3 : Int32) (D : Dm) : Option Dm := if x3 = 0 then (f_X5_readLine_113 D) else (bV (f_X7_refuse 3 x2 D) fun D2 => f_X5_readLine_113 D2)
def f_X5_readLine  (D : Dm) : Option Dm := lt (D 1 4) fun y1 => bI (f_X7_skip 0 D) fun y5 D3 => if y5 = 0 then (bI (f_X7_skip 1 D3) fun y9 D7 => if y9 = 0 then (bI (f_X7_skip 2 D7) fun y13 D11 => if y13 = 0 then (bI (f_X7_skip 3 D11) fun y17 D15 => if y17 = 0 then (bI (f_X7_skip 4 D15) fun y21 D19 => if y21 = 0 then (bV (f_X7_refuse 1 y1 D19) fun D23 => f_X5_readLine_103 y1 0 D23) else (bI (f_X5_readMove D19) fun y27 D25 => f_X5_readLine_103 y1 y27 D25)) else (bI (f_X5_readAccept D15) fun y30 D28 => f_X5_readLine_103 y1 y30 D28)) else (bI (f_X5_readSymbols D11) fun y33 D31 => f_X5_readLine_103 y1 y33 D31)) else (bI (f_X5_readRegisters D7) fun y36 D34 => f_X5_readLine_103 y1 y36 D34)) else (bI (f_X5_readStates D3) fun y39 D37 => f_X5_readLine_103 y1 y39 D37)
def f_X5_read_29_b (k29 : Int32 → Dm → Option Dm) (x2 : Int32) (D : Dm) : Option Dm := if 500 ≤ x2 then (some D) else (bI (f_X7_hasMore D) fun y4 D2 => if y4 = 0 then (some D2) else (bV (f_X5_readLine D2) fun D6 => lt (x2 + 1) fun y8 => k29 y8 D6))
def f_X5_read_29 : Nat → Int32 → Dm → Option Dm
  | 0, _, _ => none
  | n + 1, x2, D => f_X5_read_29_b (f_X5_read_29 n) x2 D
def f_X5_read  (D : Dm) : Option Dm := bV (f_X4_clear 4 D) fun D1 => lt (ud D1 3 1 0) fun D3 => lt (ud D3 3 2 0) fun D5 => lt (ud D5 3 3 0) fun D7 => lt (ud D7 3 4 0) fun D9 => f_X5_read_29 FU 0 D9
set_option maxHeartbeats 4000000 in
theorem w_X5_readStates_19 {G : va_G} {tA : Nat → ClassId} {z : Nat} {E : Ex} {p : Program} {l : Launch} {e : Env} {s : State} {m : MethodId} {args : Array Value} {below : List Frame} {meth : Method} {c : Code} {r : Int32} {D' : Dm} (O : Ok G tA z E cX5_readStates RX5 3 p s m args c) (hr : meth.sig.returnType = some .boolean) (hlk : meth.locks = false) (xs0 : Int32) (D : Dm) (h : f_X5_readStates_19 xs0 D = some (r, D')) : BI G tA z E p l e (rmC 3 0 0) s m args below meth c LAY D r D' 3 19 [(0, .ref (z + 3)), (1, .ref (z + 1))] [.int xs0] := by
  obtain ⟨hx, hb, -, hown, hts, -⟩ := id O
  unfold f_X5_readStates_19 at h
  intro H locs ls hH hl
  refine lv_istore_n (lv' := [(2, .int xs0), (0, .ref (z + 3)), (1, .ref (z + 1))]) hx hb dX5_readStates_19 rfl hl (by decide) rfl (fun ls hl => ?_)
  refine lv_aload_n hx hb dX5_readStates_20 rfl (lv_at hl 1 rfl) ?_
  refine lv_iconst (v := 1) hx hb dX5_readStates_21 (by decide) ?_
  obtain ⟨D1, e2, h⟩ := lt_some h
  refine h_putz O hH ly_3 rfl fl_X5_21 zb_1 e2 dX5_readStates_22 (fun H locs hH => ?_)
  refine lv_aload_n hx hb dX5_readStates_25 rfl (lv_at hl 1 rfl) ?_
  refine h_getr O hH ly_3 rfl fl_X5_12 dX5_readStates_26 ?_
  refine lv_aload_n hx hb dX5_readStates_29 rfl (lv_at hl 2 rfl) ?_
  refine lv_iconst (v := 1) hx hb dX5_readStates_30 (by decide) ?_
  refine lv_iconst (v := 5) hx hb dX5_readStates_31 (by decide) ?_
  obtain ⟨y5, D3, hc4, h⟩ := bI_some h
  refine h_callVi (As := [.int 1, .int 5]) (rest := [.ref (z + 4)]) O hH (c_X7_readNumber hc4) ml_X5_88 ly_1 rfl rfl hl.1 rfl ⟨Nat.le_of_ble_eq_true rfl, Nat.le_of_ble_eq_true rfl⟩ (Nat.le_of_ble_eq_true rfl) dX5_readStates_32 (fun H locs hH => ?_)
  obtain ⟨D6, e7, h⟩ := lt_some h
  refine h_puti O hH ly_4 rfl fl_X5_92 e7 dX5_readStates_35 (fun H locs hH => ?_)
  refine lv_iload_n hx hb dX5_readStates_38 rfl (lv_at hl 0 rfl) ?_
  obtain ⟨g8, h⟩ := gd_some h
  obtain ⟨rfl, rfl⟩ := ret_i h
  exact h_zret O hr hlk (zbB_ok g8) hH dX5_readStates_39
set_option maxHeartbeats 4000000 in
theorem w_X5_readStates_14 {G : va_G} {tA : Nat → ClassId} {z : Nat} {E : Ex} {p : Program} {l : Launch} {e : Env} {s : State} {m : MethodId} {args : Array Value} {below : List Frame} {meth : Method} {c : Code} {r : Int32} {D' : Dm} (O : Ok G tA z E cX5_readStates RX5 3 p s m args c) (hr : meth.sig.returnType = some .boolean) (hlk : meth.locks = false)  (D : Dm) (h : f_X5_readStates_14  D = some (r, D')) : BI G tA z E p l e (rmC 3 0 0) s m args below meth c LAY D r D' 3 14 [(0, .ref (z + 3)), (1, .ref (z + 1))] [] := by
  obtain ⟨hx, hb, -, hown, hts, -⟩ := id O
  unfold f_X5_readStates_14 at h
  intro H locs ls hH hl
  refine lv_iconst (v := 1) hx hb dX5_readStates_14 (by decide) ?_
  refine lv_goto (tgt := 19) hx hb dX5_readStates_15 (by decide) ?_
  exact w_X5_readStates_19 O hr hlk _ _ h _ _ _ hH (lv_sub hl [0, 1] rfl)
set_option maxHeartbeats 4000000 in
theorem w_X5_readStates {G : va_G} {tA : Nat → ClassId} {z : Nat} {E : Ex} {p : Program} {l : Launch} {e : Env} {s : State} {m : MethodId} {args : Array Value} {below : List Frame} {meth : Method} {c : Code} {r : Int32} {D' : Dm} (O : Ok G tA z E cX5_readStates RX5 3 p s m args c) (hr : meth.sig.returnType = some .boolean) (hlk : meth.locks = false)  (D : Dm) (h : f_X5_readStates  D = some (r, D')) : BI G tA z E p l e (rmC 3 0 0) s m args below meth c LAY D r D' 3 0 [(0, .ref (z + 3)), (1, .ref (z + 1))] [] := by
  obtain ⟨hx, hb, -, hown, hts, -⟩ := id O
  unfold f_X5_readStates at h
  intro H locs ls hH hl
  refine lv_aload_n hx hb dX5_readStates_0 rfl (lv_at hl 0 rfl) ?_
  refine h_geti O hH ly_3 rfl fl_X5_21 dX5_readStates_1 ?_
  refine lv_if_ne (tgt := 14) hx hb dX5_readStates_4 (by decide) (fun c1 => ?_) (fun c1 => ?_)
  · have h := it_neg h c1
    exact w_X5_readStates_14 O hr hlk _ h _ _ _ hH (lv_sub hl [0, 1] rfl)
  · have h := it_pos h c1
    refine lv_aload_n hx hb dX5_readStates_7 rfl (lv_at hl 0 rfl) ?_
    refine h_geti O hH ly_3 rfl fl_X5_31 dX5_readStates_8 ?_
    refine lv_if_eq (tgt := 18) hx hb dX5_readStates_11 (by decide) (fun c2 => ?_) (fun c2 => ?_)
    · have h := it_pos h c2
      refine lv_iconst (v := 0) hx hb dX5_readStates_18 (by decide) ?_
      exact w_X5_readStates_19 O hr hlk _ _ h _ _ _ hH (lv_sub hl [0, 1] rfl)
    · have h := it_neg h c2
      exact w_X5_readStates_14 O hr hlk _ h _ _ _ hH (lv_sub hl [0, 1] rfl)
set_option maxHeartbeats 4000000 in
theorem c_X5_readStates {l : Launch} {G : va_G} {tA : Nat → ClassId} {z : Nat} {E : Ex}  {D D' : Dm} {r : Int32} (h : f_X5_readStates  D = some (r, D')) : CtI l yX5_readStates cX5_readStates 3 (some .boolean) G tA z E 3 0 0 [.ref (z + 3), .ref (z + 1)] LAY D r LAY D' :=
  ct_BI (by decide +kernel) (Nat.le_of_ble_eq_true rfl) (fun _ _ _ _ _ _ _ _ O hr hlk => w_X5_readStates O hr hlk  _ h)
set_option maxHeartbeats 4000000 in
theorem w_X5_readRegisters_19 {G : va_G} {tA : Nat → ClassId} {z : Nat} {E : Ex} {p : Program} {l : Launch} {e : Env} {s : State} {m : MethodId} {args : Array Value} {below : List Frame} {meth : Method} {c : Code} {r : Int32} {D' : Dm} (O : Ok G tA z E cX5_readRegisters RX5 3 p s m args c) (hr : meth.sig.returnType = some .boolean) (hlk : meth.locks = false) (xs0 : Int32) (D : Dm) (h : f_X5_readRegisters_19 xs0 D = some (r, D')) : BI G tA z E p l e (rmC 3 0 0) s m args below meth c LAY D r D' 3 19 [(0, .ref (z + 3)), (1, .ref (z + 1))] [.int xs0] := by
  obtain ⟨hx, hb, -, hown, hts, -⟩ := id O
  unfold f_X5_readRegisters_19 at h
  intro H locs ls hH hl
  refine lv_istore_n (lv' := [(2, .int xs0), (0, .ref (z + 3)), (1, .ref (z + 1))]) hx hb dX5_readRegisters_19 rfl hl (by decide) rfl (fun ls hl => ?_)
  refine lv_aload_n hx hb dX5_readRegisters_20 rfl (lv_at hl 1 rfl) ?_
  refine lv_iconst (v := 1) hx hb dX5_readRegisters_21 (by decide) ?_
  obtain ⟨D1, e2, h⟩ := lt_some h
  refine h_putz O hH ly_3 rfl fl_X5_25 zb_1 e2 dX5_readRegisters_22 (fun H locs hH => ?_)
  refine lv_aload_n hx hb dX5_readRegisters_25 rfl (lv_at hl 1 rfl) ?_
  refine h_getr O hH ly_3 rfl fl_X5_12 dX5_readRegisters_26 ?_
  refine lv_aload_n hx hb dX5_readRegisters_29 rfl (lv_at hl 2 rfl) ?_
  refine lv_iconst (v := 0) hx hb dX5_readRegisters_30 (by decide) ?_
  refine lv_iconst (v := 2) hx hb dX5_readRegisters_31 (by decide) ?_
  obtain ⟨y5, D3, hc4, h⟩ := bI_some h
  refine h_callVi (As := [.int 0, .int 2]) (rest := [.ref (z + 4)]) O hH (c_X7_readNumber hc4) ml_X5_88 ly_1 rfl rfl hl.1 rfl ⟨Nat.le_of_ble_eq_true rfl, Nat.le_of_ble_eq_true rfl⟩ (Nat.le_of_ble_eq_true rfl) dX5_readRegisters_32 (fun H locs hH => ?_)
  obtain ⟨D6, e7, h⟩ := lt_some h
  refine h_puti O hH ly_4 rfl fl_X5_94 e7 dX5_readRegisters_35 (fun H locs hH => ?_)
  refine lv_iload_n hx hb dX5_readRegisters_38 rfl (lv_at hl 0 rfl) ?_
  obtain ⟨g8, h⟩ := gd_some h
  obtain ⟨rfl, rfl⟩ := ret_i h
  exact h_zret O hr hlk (zbB_ok g8) hH dX5_readRegisters_39
set_option maxHeartbeats 4000000 in
theorem w_X5_readRegisters_14 {G : va_G} {tA : Nat → ClassId} {z : Nat} {E : Ex} {p : Program} {l : Launch} {e : Env} {s : State} {m : MethodId} {args : Array Value} {below : List Frame} {meth : Method} {c : Code} {r : Int32} {D' : Dm} (O : Ok G tA z E cX5_readRegisters RX5 3 p s m args c) (hr : meth.sig.returnType = some .boolean) (hlk : meth.locks = false)  (D : Dm) (h : f_X5_readRegisters_14  D = some (r, D')) : BI G tA z E p l e (rmC 3 0 0) s m args below meth c LAY D r D' 3 14 [(0, .ref (z + 3)), (1, .ref (z + 1))] [] := by
  obtain ⟨hx, hb, -, hown, hts, -⟩ := id O
  unfold f_X5_readRegisters_14 at h
  intro H locs ls hH hl
  refine lv_iconst (v := 1) hx hb dX5_readRegisters_14 (by decide) ?_
  refine lv_goto (tgt := 19) hx hb dX5_readRegisters_15 (by decide) ?_
  exact w_X5_readRegisters_19 O hr hlk _ _ h _ _ _ hH (lv_sub hl [0, 1] rfl)
set_option maxHeartbeats 4000000 in
theorem w_X5_readRegisters {G : va_G} {tA : Nat → ClassId} {z : Nat} {E : Ex} {p : Program} {l : Launch} {e : Env} {s : State} {m : MethodId} {args : Array Value} {below : List Frame} {meth : Method} {c : Code} {r : Int32} {D' : Dm} (O : Ok G tA z E cX5_readRegisters RX5 3 p s m args c) (hr : meth.sig.returnType = some .boolean) (hlk : meth.locks = false)  (D : Dm) (h : f_X5_readRegisters  D = some (r, D')) : BI G tA z E p l e (rmC 3 0 0) s m args below meth c LAY D r D' 3 0 [(0, .ref (z + 3)), (1, .ref (z + 1))] [] := by
  obtain ⟨hx, hb, -, hown, hts, -⟩ := id O
  unfold f_X5_readRegisters at h
  intro H locs ls hH hl
  refine lv_aload_n hx hb dX5_readRegisters_0 rfl (lv_at hl 0 rfl) ?_
  refine h_geti O hH ly_3 rfl fl_X5_25 dX5_readRegisters_1 ?_
  refine lv_if_ne (tgt := 14) hx hb dX5_readRegisters_4 (by decide) (fun c1 => ?_) (fun c1 => ?_)
  · have h := it_neg h c1
    exact w_X5_readRegisters_14 O hr hlk _ h _ _ _ hH (lv_sub hl [0, 1] rfl)
  · have h := it_pos h c1
    refine lv_aload_n hx hb dX5_readRegisters_7 rfl (lv_at hl 0 rfl) ?_
    refine h_geti O hH ly_3 rfl fl_X5_31 dX5_readRegisters_8 ?_
    refine lv_if_eq (tgt := 18) hx hb dX5_readRegisters_11 (by decide) (fun c2 => ?_) (fun c2 => ?_)
    · have h := it_pos h c2
      refine lv_iconst (v := 0) hx hb dX5_readRegisters_18 (by decide) ?_
      exact w_X5_readRegisters_19 O hr hlk _ _ h _ _ _ hH (lv_sub hl [0, 1] rfl)
    · have h := it_neg h c2
      exact w_X5_readRegisters_14 O hr hlk _ h _ _ _ hH (lv_sub hl [0, 1] rfl)
set_option maxHeartbeats 4000000 in
theorem c_X5_readRegisters {l : Launch} {G : va_G} {tA : Nat → ClassId} {z : Nat} {E : Ex}  {D D' : Dm} {r : Int32} (h : f_X5_readRegisters  D = some (r, D')) : CtI l yX5_readRegisters cX5_readRegisters 3 (some .boolean) G tA z E 3 0 0 [.ref (z + 3), .ref (z + 1)] LAY D r LAY D' :=
  ct_BI (by decide +kernel) (Nat.le_of_ble_eq_true rfl) (fun _ _ _ _ _ _ _ _ O hr hlk => w_X5_readRegisters O hr hlk  _ h)
set_option maxHeartbeats 4000000 in
theorem w_X5_readSymbols_19 {G : va_G} {tA : Nat → ClassId} {z : Nat} {E : Ex} {p : Program} {l : Launch} {e : Env} {s : State} {m : MethodId} {args : Array Value} {below : List Frame} {meth : Method} {c : Code} {r : Int32} {D' : Dm} (O : Ok G tA z E cX5_readSymbols RX5 3 p s m args c) (hr : meth.sig.returnType = some .boolean) (hlk : meth.locks = false) (xs0 : Int32) (D : Dm) (h : f_X5_readSymbols_19 xs0 D = some (r, D')) : BI G tA z E p l e (rmC 3 0 0) s m args below meth c LAY D r D' 3 19 [(0, .ref (z + 3)), (1, .ref (z + 1))] [.int xs0] := by
  obtain ⟨hx, hb, -, hown, hts, -⟩ := id O
  unfold f_X5_readSymbols_19 at h
  intro H locs ls hH hl
  refine lv_istore_n (lv' := [(2, .int xs0), (0, .ref (z + 3)), (1, .ref (z + 1))]) hx hb dX5_readSymbols_19 rfl hl (by decide) rfl (fun ls hl => ?_)
  refine lv_aload_n hx hb dX5_readSymbols_20 rfl (lv_at hl 1 rfl) ?_
  refine lv_iconst (v := 1) hx hb dX5_readSymbols_21 (by decide) ?_
  obtain ⟨D1, e2, h⟩ := lt_some h
  refine h_putz O hH ly_3 rfl fl_X5_28 zb_1 e2 dX5_readSymbols_22 (fun H locs hH => ?_)
  refine lv_aload_n hx hb dX5_readSymbols_25 rfl (lv_at hl 1 rfl) ?_
  refine h_getr O hH ly_3 rfl fl_X5_12 dX5_readSymbols_26 ?_
  refine lv_aload_n hx hb dX5_readSymbols_29 rfl (lv_at hl 2 rfl) ?_
  refine lv_iconst (v := 1) hx hb dX5_readSymbols_30 (by decide) ?_
  refine lv_iconst (v := 2) hx hb dX5_readSymbols_31 (by decide) ?_
  obtain ⟨y5, D3, hc4, h⟩ := bI_some h
  refine h_callVi (As := [.int 1, .int 2]) (rest := [.ref (z + 4)]) O hH (c_X7_readNumber hc4) ml_X5_88 ly_1 rfl rfl hl.1 rfl ⟨Nat.le_of_ble_eq_true rfl, Nat.le_of_ble_eq_true rfl⟩ (Nat.le_of_ble_eq_true rfl) dX5_readSymbols_32 (fun H locs hH => ?_)
  obtain ⟨D6, e7, h⟩ := lt_some h
  refine h_puti O hH ly_4 rfl fl_X5_96 e7 dX5_readSymbols_35 (fun H locs hH => ?_)
  refine lv_iload_n hx hb dX5_readSymbols_38 rfl (lv_at hl 0 rfl) ?_
  obtain ⟨g8, h⟩ := gd_some h
  obtain ⟨rfl, rfl⟩ := ret_i h
  exact h_zret O hr hlk (zbB_ok g8) hH dX5_readSymbols_39
set_option maxHeartbeats 4000000 in
theorem w_X5_readSymbols_14 {G : va_G} {tA : Nat → ClassId} {z : Nat} {E : Ex} {p : Program} {l : Launch} {e : Env} {s : State} {m : MethodId} {args : Array Value} {below : List Frame} {meth : Method} {c : Code} {r : Int32} {D' : Dm} (O : Ok G tA z E cX5_readSymbols RX5 3 p s m args c) (hr : meth.sig.returnType = some .boolean) (hlk : meth.locks = false)  (D : Dm) (h : f_X5_readSymbols_14  D = some (r, D')) : BI G tA z E p l e (rmC 3 0 0) s m args below meth c LAY D r D' 3 14 [(0, .ref (z + 3)), (1, .ref (z + 1))] [] := by
  obtain ⟨hx, hb, -, hown, hts, -⟩ := id O
  unfold f_X5_readSymbols_14 at h
  intro H locs ls hH hl
  refine lv_iconst (v := 1) hx hb dX5_readSymbols_14 (by decide) ?_
  refine lv_goto (tgt := 19) hx hb dX5_readSymbols_15 (by decide) ?_
  exact w_X5_readSymbols_19 O hr hlk _ _ h _ _ _ hH (lv_sub hl [0, 1] rfl)
set_option maxHeartbeats 4000000 in
theorem w_X5_readSymbols {G : va_G} {tA : Nat → ClassId} {z : Nat} {E : Ex} {p : Program} {l : Launch} {e : Env} {s : State} {m : MethodId} {args : Array Value} {below : List Frame} {meth : Method} {c : Code} {r : Int32} {D' : Dm} (O : Ok G tA z E cX5_readSymbols RX5 3 p s m args c) (hr : meth.sig.returnType = some .boolean) (hlk : meth.locks = false)  (D : Dm) (h : f_X5_readSymbols  D = some (r, D')) : BI G tA z E p l e (rmC 3 0 0) s m args below meth c LAY D r D' 3 0 [(0, .ref (z + 3)), (1, .ref (z + 1))] [] := by
  obtain ⟨hx, hb, -, hown, hts, -⟩ := id O
  unfold f_X5_readSymbols at h
  intro H locs ls hH hl
  refine lv_aload_n hx hb dX5_readSymbols_0 rfl (lv_at hl 0 rfl) ?_
  refine h_geti O hH ly_3 rfl fl_X5_28 dX5_readSymbols_1 ?_
  refine lv_if_ne (tgt := 14) hx hb dX5_readSymbols_4 (by decide) (fun c1 => ?_) (fun c1 => ?_)
  · have h := it_neg h c1
    exact w_X5_readSymbols_14 O hr hlk _ h _ _ _ hH (lv_sub hl [0, 1] rfl)
  · have h := it_pos h c1
    refine lv_aload_n hx hb dX5_readSymbols_7 rfl (lv_at hl 0 rfl) ?_
    refine h_geti O hH ly_3 rfl fl_X5_31 dX5_readSymbols_8 ?_
    refine lv_if_eq (tgt := 18) hx hb dX5_readSymbols_11 (by decide) (fun c2 => ?_) (fun c2 => ?_)
    · have h := it_pos h c2
      refine lv_iconst (v := 0) hx hb dX5_readSymbols_18 (by decide) ?_
      exact w_X5_readSymbols_19 O hr hlk _ _ h _ _ _ hH (lv_sub hl [0, 1] rfl)
    · have h := it_neg h c2
      exact w_X5_readSymbols_14 O hr hlk _ h _ _ _ hH (lv_sub hl [0, 1] rfl)
set_option maxHeartbeats 4000000 in
theorem c_X5_readSymbols {l : Launch} {G : va_G} {tA : Nat → ClassId} {z : Nat} {E : Ex}  {D D' : Dm} {r : Int32} (h : f_X5_readSymbols  D = some (r, D')) : CtI l yX5_readSymbols cX5_readSymbols 3 (some .boolean) G tA z E 3 0 0 [.ref (z + 3), .ref (z + 1)] LAY D r LAY D' :=
  ct_BI (by decide +kernel) (Nat.le_of_ble_eq_true rfl) (fun _ _ _ _ _ _ _ _ O hr hlk => w_X5_readSymbols O hr hlk  _ h)
set_option maxHeartbeats 4000000 in
theorem w_X5_readAccept_39 {G : va_G} {tA : Nat → ClassId} {z : Nat} {E : Ex} {p : Program} {l : Launch} {e : Env} {s : State} {m : MethodId} {args : Array Value} {below : List Frame} {meth : Method} {c : Code} {r : Int32} {D' : Dm} (O : Ok G tA z E cX5_readAccept RX5 4 p s m args c) (hr : meth.sig.returnType = some .boolean) (hlk : meth.locks = false) (x2 : Int32) (xs0 : Int32) (D : Dm) (h : f_X5_readAccept_39 x2 xs0 D = some (r, D')) : BI G tA z E p l e (rmC 3 0 0) s m args below meth c LAY D r D' 4 39 [(0, .ref (z + 3)), (2, .int x2)] [.int xs0] := by
  obtain ⟨hx, hb, -, hown, hts, -⟩ := id O
  unfold f_X5_readAccept_39 at h
  intro H locs ls hH hl
  refine lv_istore_n (lv' := [(3, .int xs0), (0, .ref (z + 3)), (2, .int x2)]) hx hb dX5_readAccept_39 rfl hl (by decide) rfl (fun ls hl => ?_)
  refine lv_aload_n hx hb dX5_readAccept_40 rfl (lv_at hl 1 rfl) ?_
  refine h_getr O hH ly_3 rfl fl_X5_12 dX5_readAccept_41 ?_
  refine lv_dup hx hb dX5_readAccept_44 rfl ?_
  refine h_geti O hH ly_4 rfl fl_X5_98 dX5_readAccept_45 ?_
  refine lv_iload_n hx hb dX5_readAccept_48 rfl (lv_at hl 2 rfl) ?_
  refine lv_ior hx hb dX5_readAccept_49 ?_
  obtain ⟨D1, e2, h⟩ := lt_some h
  refine h_puti O hH ly_4 rfl fl_X5_98 e2 dX5_readAccept_50 (fun H locs hH => ?_)
  refine lv_iload_n hx hb dX5_readAccept_53 rfl (lv_at hl 0 rfl) ?_
  obtain ⟨g3, h⟩ := gd_some h
  obtain ⟨rfl, rfl⟩ := ret_i h
  exact h_zret O hr hlk (zbB_ok g3) hH dX5_readAccept_54
set_option maxHeartbeats 4000000 in
theorem w_X5_readAccept {G : va_G} {tA : Nat → ClassId} {z : Nat} {E : Ex} {p : Program} {l : Launch} {e : Env} {s : State} {m : MethodId} {args : Array Value} {below : List Frame} {meth : Method} {c : Code} {r : Int32} {D' : Dm} (O : Ok G tA z E cX5_readAccept RX5 4 p s m args c) (hr : meth.sig.returnType = some .boolean) (hlk : meth.locks = false)  (D : Dm) (h : f_X5_readAccept  D = some (r, D')) : BI G tA z E p l e (rmC 3 0 0) s m args below meth c LAY D r D' 4 0 [(0, .ref (z + 3)), (1, .ref (z + 1))] [] := by
  obtain ⟨hx, hb, -, hown, hts, -⟩ := id O
  unfold f_X5_readAccept at h
  intro H locs ls hH hl
  refine lv_aload_n hx hb dX5_readAccept_0 rfl (lv_at hl 0 rfl) ?_
  refine lv_iconst (v := 1) hx hb dX5_readAccept_1 (by decide) ?_
  obtain ⟨D1, e2, h⟩ := lt_some h
  refine h_putz O hH ly_3 rfl fl_X5_31 zb_1 e2 dX5_readAccept_2 (fun H locs hH => ?_)
  refine lv_iconst (v := 1) hx hb dX5_readAccept_5 (by decide) ?_
  refine lv_aload_n hx hb dX5_readAccept_6 rfl (lv_at hl 1 rfl) ?_
  refine lv_iconst (v := 0) hx hb dX5_readAccept_7 (by decide) ?_
  refine lv_aload_n hx hb dX5_readAccept_8 rfl (lv_at hl 0 rfl) ?_
  refine h_getr O hH ly_3 rfl fl_X5_12 dX5_readAccept_9 ?_
  refine h_geti O hH ly_4 rfl fl_X5_92 dX5_readAccept_12 ?_
  refine lv_iconst (v := 1) hx hb dX5_readAccept_15 (by decide) ?_
  refine lv_isub hx hb dX5_readAccept_16 ?_
  obtain ⟨y5, D3, hc4, h⟩ := bI_some h
  refine h_callVi (As := [.int 0, .int ((D1 4 0) - 1)]) (rest := [.int 1]) O hH (c_X7_readNumber hc4) ml_X5_88 ly_1 rfl rfl hl.1 rfl ⟨Nat.le_of_ble_eq_true rfl, Nat.le_of_ble_eq_true rfl⟩ (Nat.le_of_ble_eq_true rfl) dX5_readAccept_17 (fun H locs hH => ?_)
  refine lv_ishl hx hb dX5_readAccept_20 ?_
  refine lv_topi (fun y6 e7 => ?_)
  have h := lt_at e7 h
  refine lv_istore_n (lv' := [(2, .int y6), (0, .ref (z + 3)), (1, .ref (z + 1))]) hx hb dX5_readAccept_21 rfl hl (by decide) rfl (fun ls hl => ?_)
  refine lv_aload_n hx hb dX5_readAccept_22 rfl (lv_at hl 1 rfl) ?_
  refine h_getr O hH ly_3 rfl fl_X5_12 dX5_readAccept_23 ?_
  refine h_geti O hH ly_4 rfl fl_X5_98 dX5_readAccept_26 ?_
  refine lv_iload_n hx hb dX5_readAccept_29 rfl (lv_at hl 0 rfl) ?_
  refine lv_iand hx hb dX5_readAccept_30 ?_
  refine lv_if_eq (tgt := 38) hx hb dX5_readAccept_31 (by decide) (fun c8 => ?_) (fun c8 => ?_)
  · have h := it_pos h c8
    refine lv_iconst (v := 0) hx hb dX5_readAccept_38 (by decide) ?_
    exact w_X5_readAccept_39 O hr hlk _ _ _ h _ _ _ hH (lv_sub hl [1, 0] rfl)
  · have h := it_neg h c8
    refine lv_iconst (v := 1) hx hb dX5_readAccept_34 (by decide) ?_
    refine lv_goto (tgt := 39) hx hb dX5_readAccept_35 (by decide) ?_
    exact w_X5_readAccept_39 O hr hlk _ _ _ h _ _ _ hH (lv_sub hl [1, 0] rfl)
set_option maxHeartbeats 4000000 in
theorem c_X5_readAccept {l : Launch} {G : va_G} {tA : Nat → ClassId} {z : Nat} {E : Ex}  {D D' : Dm} {r : Int32} (h : f_X5_readAccept  D = some (r, D')) : CtI l yX5_readAccept cX5_readAccept 4 (some .boolean) G tA z E 3 0 0 [.ref (z + 3), .ref (z + 1)] LAY D r LAY D' :=
  ct_BI (by decide +kernel) (Nat.le_of_ble_eq_true rfl) (fun _ _ _ _ _ _ _ _ O hr hlk => w_X5_readAccept O hr hlk  _ h)
set_option maxHeartbeats 4000000 in
theorem w_X5_readMove_186 {G : va_G} {tA : Nat → ClassId} {z : Nat} {E : Ex} {p : Program} {l : Launch} {e : Env} {s : State} {m : MethodId} {args : Array Value} {below : List Frame} {meth : Method} {c : Code} {r : Int32} {D' : Dm} (O : Ok G tA z E cX5_readMove RX5 10 p s m args c) (hr : meth.sig.returnType = some .boolean) (hlk : meth.locks = false) (x5 : Int32) (x6 : Int32) (x7 : Int32) (x8 : Int32) (xs0 : Int32) (D : Dm) (h : f_X5_readMove_186 x5 x6 x7 x8 xs0 D = some (r, D')) : BI G tA z E p l e (rmC 7 0 0) s m args below meth c LAY D r D' 10 186 [(0, .ref (z + 3)), (5, .int x5), (6, .int x6), (7, .int x7), (8, .int x8)] [.int xs0] := by
  obtain ⟨hx, hb, -, hown, hts, -⟩ := id O
  unfold f_X5_readMove_186 at h
  intro H locs ls hH hl
  refine lv_istore (lv' := [(9, .int xs0), (0, .ref (z + 3)), (5, .int x5), (6, .int x6), (7, .int x7), (8, .int x8)]) hx hb dX5_readMove_186 hl (by decide) rfl (fun ls hl => ?_)
  refine lv_aload_n hx hb dX5_readMove_188 rfl (lv_at hl 1 rfl) ?_
  refine h_getr O hH ly_3 rfl fl_X5_12 dX5_readMove_189 ?_
  refine lv_iload hx hb dX5_readMove_192 (lv_at hl 5 rfl) ?_
  refine lv_iload hx hb dX5_readMove_194 (lv_at hl 2 rfl) ?_
  refine lv_iload hx hb dX5_readMove_196 (lv_at hl 3 rfl) ?_
  refine lv_iload hx hb dX5_readMove_198 (lv_at hl 4 rfl) ?_
  obtain ⟨D1, hc2, h⟩ := bV_some h
  refine h_callVv (As := [.int x8, .int x5, .int x6, .int x7]) (rest := []) O hH (c_X4_put ic_4 hc2) ml_X5_125 ly_4 rfl rfl hl.1 rfl ⟨Nat.le_of_ble_eq_true rfl, Nat.le_of_ble_eq_true rfl⟩ (Nat.le_of_ble_eq_true rfl) dX5_readMove_200 (fun H locs hH => ?_)
  refine lv_iload hx hb dX5_readMove_203 (lv_at hl 0 rfl) ?_
  obtain ⟨g3, h⟩ := gd_some h
  obtain ⟨rfl, rfl⟩ := ret_i h
  exact h_zret O hr hlk (zbB_ok g3) hH dX5_readMove_205
set_option maxHeartbeats 4000000 in
theorem w_X5_readMove_147 {G : va_G} {tA : Nat → ClassId} {z : Nat} {E : Ex} {p : Program} {l : Launch} {e : Env} {s : State} {m : MethodId} {args : Array Value} {below : List Frame} {meth : Method} {c : Code} {r : Int32} {D' : Dm} (O : Ok G tA z E cX5_readMove RX5 10 p s m args c) (hr : meth.sig.returnType = some .boolean) (hlk : meth.locks = false) (x2 : Int32) (x3 : Int32) (x4 : Int32) (x5 : Int32) (x6 : Int32) (xs0 : Int32) (D : Dm) (h : f_X5_readMove_147 x2 x3 x4 x5 x6 xs0 D = some (r, D')) : BI G tA z E p l e (rmC 7 0 0) s m args below meth c LAY D r D' 10 147 [(0, .ref (z + 3)), (1, .ref (z + 1)), (2, .int x2), (3, .int x3), (4, .int x4), (5, .int x5), (6, .int x6)] [.int xs0] := by
  obtain ⟨hx, hb, -, hown, hts, -⟩ := id O
  unfold f_X5_readMove_147 at h
  intro H locs ls hH hl
  refine lv_istore (lv' := [(7, .int xs0), (0, .ref (z + 3)), (1, .ref (z + 1)), (2, .int x2), (3, .int x3), (4, .int x4), (5, .int x5), (6, .int x6)]) hx hb dX5_readMove_147 hl (by decide) rfl (fun ls hl => ?_)
  refine lv_aload_n hx hb dX5_readMove_149 rfl (lv_at hl 2 rfl) ?_
  refine h_geti O hH ly_1 rfl fl_X5_115 dX5_readMove_150 ?_
  refine lv_if_eq (tgt := 158) hx hb dX5_readMove_153 (by decide) (fun c1 => ?_) (fun c1 => ?_)
  · have h := it_pos h c1
    refine lv_iload_n hx hb dX5_readMove_158 rfl (lv_at hl 3 rfl) ?_
    refine lv_iload_n hx hb dX5_readMove_159 rfl (lv_at hl 4 rfl) ?_
    refine lv_iload hx hb dX5_readMove_160 (lv_at hl 5 rfl) ?_
    obtain ⟨y4, D2, hc3, h⟩ := bI_some h
    refine h_callSi (As := [.int x2, .int x3, .int x4]) (rest := []) O hH (c_X4_slot hc3) ml_X5_118 rfl hl.1 rfl ⟨Nat.le_of_ble_eq_true rfl, Nat.le_of_ble_eq_true rfl⟩ (Nat.le_of_ble_eq_true rfl) dX5_readMove_162 (fun H locs hH => ?_)
    refine lv_istore (lv' := [(8, .int y4), (7, .int xs0), (0, .ref (z + 3)), (1, .ref (z + 1)), (2, .int x2), (3, .int x3), (4, .int x4), (5, .int x5), (6, .int x6)]) hx hb dX5_readMove_165 hl (by decide) rfl (fun ls hl => ?_)
    refine lv_aload_n hx hb dX5_readMove_167 rfl (lv_at hl 2 rfl) ?_
    refine h_getr O hH ly_3 rfl fl_X5_12 dX5_readMove_168 ?_
    refine h_getr O hH ly_4 rfl fl_X5_122 dX5_readMove_171 ?_
    refine lv_iload hx hb dX5_readMove_174 (lv_at hl 0 rfl) ?_
    obtain ⟨g5, h⟩ := gd_some h
    refine h_iald O hH ly_5 g5 dX5_readMove_176 ?_
    refine lv_iconst (v := (-1)) hx hb dX5_readMove_177 (by decide) ?_
    refine lv_icmp_eq (tgt := 185) hx hb dX5_readMove_178 (by decide) (fun c6 => ?_) (fun c6 => ?_)
    · have h := it_pos h c6
      refine lv_iconst (v := 0) hx hb dX5_readMove_185 (by decide) ?_
      exact w_X5_readMove_186 O hr hlk _ _ _ _ _ _ h _ _ _ hH (lv_sub hl [2, 7, 8, 1, 0] rfl)
    · have h := it_neg h c6
      refine lv_iconst (v := 1) hx hb dX5_readMove_181 (by decide) ?_
      refine lv_goto (tgt := 186) hx hb dX5_readMove_182 (by decide) ?_
      exact w_X5_readMove_186 O hr hlk _ _ _ _ _ _ h _ _ _ hH (lv_sub hl [2, 7, 8, 1, 0] rfl)
  · have h := it_neg h c1
    refine lv_iconst (v := 0) hx hb dX5_readMove_156 (by decide) ?_
    obtain ⟨rfl, rfl⟩ := ret_i h
    exact h_zret O hr hlk zb_0 hH dX5_readMove_157
set_option maxHeartbeats 4000000 in
theorem w_X5_readMove_118 {G : va_G} {tA : Nat → ClassId} {z : Nat} {E : Ex} {p : Program} {l : Launch} {e : Env} {s : State} {m : MethodId} {args : Array Value} {below : List Frame} {meth : Method} {c : Code} {r : Int32} {D' : Dm} (O : Ok G tA z E cX5_readMove RX5 10 p s m args c) (hr : meth.sig.returnType = some .boolean) (hlk : meth.locks = false) (x2 : Int32) (x3 : Int32) (x4 : Int32) (x5 : Int32) (xs0 : Int32) (D : Dm) (h : f_X5_readMove_118 x2 x3 x4 x5 xs0 D = some (r, D')) : BI G tA z E p l e (rmC 7 0 0) s m args below meth c LAY D r D' 10 118 [(0, .ref (z + 3)), (1, .ref (z + 1)), (2, .int x2), (3, .int x3), (4, .int x4), (5, .int x5)] [.int xs0] := by
  obtain ⟨hx, hb, -, hown, hts, -⟩ := id O
  unfold f_X5_readMove_118 at h
  intro H locs ls hH hl
  refine lv_istore (lv' := [(6, .int xs0), (0, .ref (z + 3)), (1, .ref (z + 1)), (2, .int x2), (3, .int x3), (4, .int x4), (5, .int x5)]) hx hb dX5_readMove_118 hl (by decide) rfl (fun ls hl => ?_)
  refine lv_aload_n hx hb dX5_readMove_120 rfl (lv_at hl 2 rfl) ?_
  refine h_ldcs (k := 11) O rfl dX5_readMove_121 ?_
  obtain ⟨y3, D1, hc2, h⟩ := bI_some h
  refine h_callVi (As := [.ref (E.1 11)]) (rest := []) O hH (c_X7_skip (by decide) hc2) ml_X5_50 ly_1 rfl rfl hl.1 rfl ⟨Nat.le_of_ble_eq_true rfl, Nat.le_of_ble_eq_true rfl⟩ (Nat.le_of_ble_eq_true rfl) dX5_readMove_123 (fun H locs hH => ?_)
  refine lv_if_eq (tgt := 146) hx hb dX5_readMove_126 (by decide) (fun c4 => ?_) (fun c4 => ?_)
  · have h := it_pos h c4
    refine lv_iconst (v := (-1)) hx hb dX5_readMove_146 (by decide) ?_
    exact w_X5_readMove_147 O hr hlk _ _ _ _ _ _ _ h _ _ _ hH (lv_sub hl [1, 2, 3, 4, 5, 6, 0] rfl)
  · have h := it_neg h c4
    refine lv_aload_n hx hb dX5_readMove_129 rfl (lv_at hl 2 rfl) ?_
    refine lv_iconst (v := 0) hx hb dX5_readMove_130 (by decide) ?_
    refine lv_aload_n hx hb dX5_readMove_131 rfl (lv_at hl 1 rfl) ?_
    refine h_getr O hH ly_3 rfl fl_X5_12 dX5_readMove_132 ?_
    refine h_geti O hH ly_4 rfl fl_X5_94 dX5_readMove_135 ?_
    refine lv_iconst (v := 1) hx hb dX5_readMove_138 (by decide) ?_
    refine lv_isub hx hb dX5_readMove_139 ?_
    obtain ⟨y7, D5, hc6, h⟩ := bI_some h
    refine h_callVi (As := [.int 0, .int ((D1 4 1) - 1)]) (rest := []) O hH (c_X7_readNumber hc6) ml_X5_88 ly_1 rfl rfl hl.1 rfl ⟨Nat.le_of_ble_eq_true rfl, Nat.le_of_ble_eq_true rfl⟩ (Nat.le_of_ble_eq_true rfl) dX5_readMove_140 (fun H locs hH => ?_)
    refine lv_goto (tgt := 147) hx hb dX5_readMove_143 (by decide) ?_
    exact w_X5_readMove_147 O hr hlk _ _ _ _ _ _ _ h _ _ _ hH (lv_sub hl [1, 2, 3, 4, 5, 6, 0] rfl)
set_option maxHeartbeats 4000000 in
theorem w_X5_readMove_69 {G : va_G} {tA : Nat → ClassId} {z : Nat} {E : Ex} {p : Program} {l : Launch} {e : Env} {s : State} {m : MethodId} {args : Array Value} {below : List Frame} {meth : Method} {c : Code} {r : Int32} {D' : Dm} (O : Ok G tA z E cX5_readMove RX5 10 p s m args c) (hr : meth.sig.returnType = some .boolean) (hlk : meth.locks = false) (x2 : Int32) (x3 : Int32) (x4 : Int32) (D : Dm) (h : f_X5_readMove_69 x2 x3 x4 D = some (r, D')) : BI G tA z E p l e (rmC 7 0 0) s m args below meth c LAY D r D' 10 69 [(0, .ref (z + 3)), (1, .ref (z + 1)), (2, .int x2), (3, .int x3), (4, .int x4)] [] := by
  obtain ⟨hx, hb, -, hown, hts, -⟩ := id O
  unfold f_X5_readMove_69 at h
  intro H locs ls hH hl
  refine lv_aload_n hx hb dX5_readMove_69 rfl (lv_at hl 1 rfl) ?_
  refine h_ldcs (k := 9) O rfl dX5_readMove_70 ?_
  obtain ⟨D1, hc2, h⟩ := bV_some h
  refine h_callVv (As := [.ref (E.1 9)]) (rest := []) O hH (c_X7_expect (by decide) hc2) ml_X5_84 ly_1 rfl rfl hl.1 rfl ⟨Nat.le_of_ble_eq_true rfl, Nat.le_of_ble_eq_true rfl⟩ (Nat.le_of_ble_eq_true rfl) dX5_readMove_72 (fun H locs hH => ?_)
  refine lv_aload_n hx hb dX5_readMove_75 rfl (lv_at hl 1 rfl) ?_
  refine lv_iconst (v := 0) hx hb dX5_readMove_76 (by decide) ?_
  refine lv_aload_n hx hb dX5_readMove_77 rfl (lv_at hl 0 rfl) ?_
  refine h_getr O hH ly_3 rfl fl_X5_12 dX5_readMove_78 ?_
  refine h_geti O hH ly_4 rfl fl_X5_92 dX5_readMove_81 ?_
  refine lv_iconst (v := 1) hx hb dX5_readMove_84 (by decide) ?_
  refine lv_isub hx hb dX5_readMove_85 ?_
  obtain ⟨y5, D3, hc4, h⟩ := bI_some h
  refine h_callVi (As := [.int 0, .int ((D1 4 0) - 1)]) (rest := []) O hH (c_X7_readNumber hc4) ml_X5_88 ly_1 rfl rfl hl.1 rfl ⟨Nat.le_of_ble_eq_true rfl, Nat.le_of_ble_eq_true rfl⟩ (Nat.le_of_ble_eq_true rfl) dX5_readMove_86 (fun H locs hH => ?_)
  refine lv_istore (lv' := [(5, .int y5), (0, .ref (z + 3)), (1, .ref (z + 1)), (2, .int x2), (3, .int x3), (4, .int x4)]) hx hb dX5_readMove_89 hl (by decide) rfl (fun ls hl => ?_)
  refine lv_aload_n hx hb dX5_readMove_91 rfl (lv_at hl 2 rfl) ?_
  refine h_ldcs (k := 10) O rfl dX5_readMove_92 ?_
  obtain ⟨y8, D6, hc7, h⟩ := bI_some h
  refine h_callVi (As := [.ref (E.1 10)]) (rest := []) O hH (c_X7_skip (by decide) hc7) ml_X5_50 ly_1 rfl rfl hl.1 rfl ⟨Nat.le_of_ble_eq_true rfl, Nat.le_of_ble_eq_true rfl⟩ (Nat.le_of_ble_eq_true rfl) dX5_readMove_94 (fun H locs hH => ?_)
  refine lv_if_eq (tgt := 117) hx hb dX5_readMove_97 (by decide) (fun c9 => ?_) (fun c9 => ?_)
  · have h := it_pos h c9
    refine lv_iconst (v := (-1)) hx hb dX5_readMove_117 (by decide) ?_
    exact w_X5_readMove_118 O hr hlk _ _ _ _ _ _ h _ _ _ hH (lv_sub hl [1, 2, 3, 4, 5, 0] rfl)
  · have h := it_neg h c9
    refine lv_aload_n hx hb dX5_readMove_100 rfl (lv_at hl 2 rfl) ?_
    refine lv_iconst (v := 0) hx hb dX5_readMove_101 (by decide) ?_
    refine lv_aload_n hx hb dX5_readMove_102 rfl (lv_at hl 1 rfl) ?_
    refine h_getr O hH ly_3 rfl fl_X5_12 dX5_readMove_103 ?_
    refine h_geti O hH ly_4 rfl fl_X5_94 dX5_readMove_106 ?_
    refine lv_iconst (v := 1) hx hb dX5_readMove_109 (by decide) ?_
    refine lv_isub hx hb dX5_readMove_110 ?_
    obtain ⟨y12, D10, hc11, h⟩ := bI_some h
    refine h_callVi (As := [.int 0, .int ((D6 4 1) - 1)]) (rest := []) O hH (c_X7_readNumber hc11) ml_X5_88 ly_1 rfl rfl hl.1 rfl ⟨Nat.le_of_ble_eq_true rfl, Nat.le_of_ble_eq_true rfl⟩ (Nat.le_of_ble_eq_true rfl) dX5_readMove_111 (fun H locs hH => ?_)
    refine lv_goto (tgt := 118) hx hb dX5_readMove_114 (by decide) ?_
    exact w_X5_readMove_118 O hr hlk _ _ _ _ _ _ h _ _ _ hH (lv_sub hl [1, 2, 3, 4, 5, 0] rfl)
set_option maxHeartbeats 4000000 in
theorem w_X5_readMove {G : va_G} {tA : Nat → ClassId} {z : Nat} {E : Ex} {p : Program} {l : Launch} {e : Env} {s : State} {m : MethodId} {args : Array Value} {below : List Frame} {meth : Method} {c : Code} {r : Int32} {D' : Dm} (O : Ok G tA z E cX5_readMove RX5 10 p s m args c) (hr : meth.sig.returnType = some .boolean) (hlk : meth.locks = false)  (D : Dm) (h : f_X5_readMove  D = some (r, D')) : BI G tA z E p l e (rmC 7 0 0) s m args below meth c LAY D r D' 10 0 [(0, .ref (z + 3)), (1, .ref (z + 1))] [] := by
  obtain ⟨hx, hb, -, hown, hts, -⟩ := id O
  unfold f_X5_readMove at h
  intro H locs ls hH hl
  refine lv_aload_n hx hb dX5_readMove_0 rfl (lv_at hl 0 rfl) ?_
  refine lv_iconst (v := 1) hx hb dX5_readMove_1 (by decide) ?_
  obtain ⟨D1, e2, h⟩ := lt_some h
  refine h_putz O hH ly_3 rfl fl_X5_31 zb_1 e2 dX5_readMove_2 (fun H locs hH => ?_)
  refine lv_aload_n hx hb dX5_readMove_5 rfl (lv_at hl 1 rfl) ?_
  refine lv_iconst (v := 0) hx hb dX5_readMove_6 (by decide) ?_
  refine lv_aload_n hx hb dX5_readMove_7 rfl (lv_at hl 0 rfl) ?_
  refine h_getr O hH ly_3 rfl fl_X5_12 dX5_readMove_8 ?_
  refine h_geti O hH ly_4 rfl fl_X5_92 dX5_readMove_11 ?_
  refine lv_iconst (v := 1) hx hb dX5_readMove_14 (by decide) ?_
  refine lv_isub hx hb dX5_readMove_15 ?_
  obtain ⟨y5, D3, hc4, h⟩ := bI_some h
  refine h_callVi (As := [.int 0, .int ((D1 4 0) - 1)]) (rest := []) O hH (c_X7_readNumber hc4) ml_X5_88 ly_1 rfl rfl hl.1 rfl ⟨Nat.le_of_ble_eq_true rfl, Nat.le_of_ble_eq_true rfl⟩ (Nat.le_of_ble_eq_true rfl) dX5_readMove_16 (fun H locs hH => ?_)
  refine lv_istore_n (lv' := [(2, .int y5), (0, .ref (z + 3)), (1, .ref (z + 1))]) hx hb dX5_readMove_19 rfl hl (by decide) rfl (fun ls hl => ?_)
  refine lv_aload_n hx hb dX5_readMove_20 rfl (lv_at hl 2 rfl) ?_
  refine lv_aload_n hx hb dX5_readMove_21 rfl (lv_at hl 1 rfl) ?_
  refine h_getr O hH ly_3 rfl fl_X5_12 dX5_readMove_22 ?_
  refine h_geti O hH ly_4 rfl fl_X5_96 dX5_readMove_25 ?_
  obtain ⟨y8, D6, hc7, h⟩ := bI_some h
  refine h_callVi (As := [.int (D3 4 2)]) (rest := []) O hH (c_X7_readSymbol hc7) ml_X5_101 ly_1 rfl rfl hl.1 rfl ⟨Nat.le_of_ble_eq_true rfl, Nat.le_of_ble_eq_true rfl⟩ (Nat.le_of_ble_eq_true rfl) dX5_readMove_28 (fun H locs hH => ?_)
  refine lv_istore_n (lv' := [(3, .int y8), (2, .int y5), (0, .ref (z + 3)), (1, .ref (z + 1))]) hx hb dX5_readMove_31 rfl hl (by decide) rfl (fun ls hl => ?_)
  refine lv_iconst (v := 2) hx hb dX5_readMove_32 (by decide) ?_
  refine lv_istore (lv' := [(4, .int 2), (3, .int y8), (2, .int y5), (0, .ref (z + 3)), (1, .ref (z + 1))]) hx hb dX5_readMove_33 hl (by decide) rfl (fun ls hl => ?_)
  refine lv_aload_n hx hb dX5_readMove_35 rfl (lv_at hl 4 rfl) ?_
  refine h_ldcs (k := 7) O rfl dX5_readMove_36 ?_
  obtain ⟨y11, D9, hc10, h⟩ := bI_some h
  refine h_callVi (As := [.ref (E.1 7)]) (rest := []) O hH (c_X7_skip (by decide) hc10) ml_X5_50 ly_1 rfl rfl hl.1 rfl ⟨Nat.le_of_ble_eq_true rfl, Nat.le_of_ble_eq_true rfl⟩ (Nat.le_of_ble_eq_true rfl) dX5_readMove_38 (fun H locs hH => ?_)
  refine lv_if_eq (tgt := 63) hx hb dX5_readMove_41 (by decide) (fun c12 => ?_) (fun c12 => ?_)
  · have h := it_pos h c12
    refine lv_aload_n hx hb dX5_readMove_63 rfl (lv_at hl 4 rfl) ?_
    refine h_ldcs (k := 8) O rfl dX5_readMove_64 ?_
    obtain ⟨D13, hc14, h⟩ := bV_some h
    refine h_callVv (As := [.ref (E.1 8)]) (rest := []) O hH (c_X7_expect (by decide) hc14) ml_X5_84 ly_1 rfl rfl hl.1 rfl ⟨Nat.le_of_ble_eq_true rfl, Nat.le_of_ble_eq_true rfl⟩ (Nat.le_of_ble_eq_true rfl) dX5_readMove_66 (fun H locs hH => ?_)
    exact w_X5_readMove_69 O hr hlk _ _ _ _ h _ _ _ hH (lv_sub hl [3, 4, 2, 1, 0] rfl)
  · have h := it_neg h c12
    refine lv_aload_n hx hb dX5_readMove_44 rfl (lv_at hl 4 rfl) ?_
    refine lv_iconst (v := 0) hx hb dX5_readMove_45 (by decide) ?_
    refine lv_aload_n hx hb dX5_readMove_46 rfl (lv_at hl 3 rfl) ?_
    refine h_getr O hH ly_3 rfl fl_X5_12 dX5_readMove_47 ?_
    refine h_geti O hH ly_4 rfl fl_X5_94 dX5_readMove_50 ?_
    refine lv_iconst (v := 1) hx hb dX5_readMove_53 (by decide) ?_
    refine lv_isub hx hb dX5_readMove_54 ?_
    obtain ⟨y17, D15, hc16, h⟩ := bI_some h
    refine h_callVi (As := [.int 0, .int ((D9 4 1) - 1)]) (rest := []) O hH (c_X7_readNumber hc16) ml_X5_88 ly_1 rfl rfl hl.1 rfl ⟨Nat.le_of_ble_eq_true rfl, Nat.le_of_ble_eq_true rfl⟩ (Nat.le_of_ble_eq_true rfl) dX5_readMove_55 (fun H locs hH => ?_)
    refine lv_istore (lv' := [(4, .int y17), (3, .int y8), (2, .int y5), (0, .ref (z + 3)), (1, .ref (z + 1))]) hx hb dX5_readMove_58 hl (by decide) rfl (fun ls hl => ?_)
    refine lv_goto (tgt := 69) hx hb dX5_readMove_60 (by decide) ?_
    exact w_X5_readMove_69 O hr hlk _ _ _ _ h _ _ _ hH (lv_sub hl [3, 4, 2, 1, 0] rfl)
set_option maxHeartbeats 4000000 in
theorem c_X5_readMove {l : Launch} {G : va_G} {tA : Nat → ClassId} {z : Nat} {E : Ex}  {D D' : Dm} {r : Int32} (h : f_X5_readMove  D = some (r, D')) : CtI l yX5_readMove cX5_readMove 10 (some .boolean) G tA z E 7 0 0 [.ref (z + 3), .ref (z + 1)] LAY D r LAY D' :=
  ct_BI (by decide +kernel) (Nat.le_of_ble_eq_true rfl) (fun _ _ _ _ _ _ _ _ O hr hlk => w_X5_readMove O hr hlk  _ h)
set_option maxHeartbeats 4000000 in
theorem w_X5_readLine_113 {G : va_G} {tA : Nat → ClassId} {z : Nat} {E : Ex} {p : Program} {l : Launch} {e : Env} {s : State} {m : MethodId} {args : Array Value} {below : List Frame} {meth : Method} {c : Code} {D' : Dm} (O : Ok G tA z E cX5_readLine RX5 4 p s m args c) (hr : meth.sig.returnType = none) (hlk : meth.locks = false)  (D : Dm) (h : f_X5_readLine_113  D = some D') : BV G tA z E p l e (rmC 8 0 0) s m args below meth c LAY D D' 4 113 [(1, .ref (z + 1))] [] := by
  obtain ⟨hx, hb, -, hown, hts, -⟩ := id O
  unfold f_X5_readLine_113 at h
  intro H locs ls hH hl
  refine lv_aload_n hx hb dX5_readLine_113 rfl (lv_at hl 0 rfl) ?_
  refine h_ldcs (k := 12) O rfl dX5_readLine_114 ?_
  obtain ⟨D1, hc2, h⟩ := bV_some h
  refine h_callVv (As := [.ref (E.1 12)]) (rest := []) O hH (c_X7_expect (by decide) hc2) ml_X5_84 ly_1 rfl rfl hl.1 rfl ⟨Nat.le_of_ble_eq_true rfl, Nat.le_of_ble_eq_true rfl⟩ (Nat.le_of_ble_eq_true rfl) dX5_readLine_116 (fun H locs hH => ?_)
  obtain rfl := ret_v h
  exact h_vret O hr hlk hH dX5_readLine_119
set_option maxHeartbeats 4000000 in
theorem w_X5_readLine_103 {G : va_G} {tA : Nat → ClassId} {z : Nat} {E : Ex} {p : Program} {l : Launch} {e : Env} {s : State} {m : MethodId} {args : Array Value} {below : List Frame} {meth : Method} {c : Code} {D' : Dm} (O : Ok G tA z E cX5_readLine RX5 4 p s m args c) (hr : meth.sig.returnType = none) (hlk : meth.locks = false) (x2 : Int32) (x3 : Int32) (D : Dm) (h : f_X5_readLine_103 x2 x3 D = some D') : BV G tA z E p l e (rmC 8 0 0) s m args below meth c LAY D D' 4 103 [(1, .ref (z + 1)), (2, .int x2), (3, .int x3)] [] := by
  obtain ⟨hx, hb, -, hown, hts, -⟩ := id O
  unfold f_X5_readLine_103 at h
  intro H locs ls hH hl
  refine lv_iload_n hx hb dX5_readLine_103 rfl (lv_at hl 2 rfl) ?_
  refine lv_if_eq (tgt := 113) hx hb dX5_readLine_104 (by decide) (fun c1 => ?_) (fun c1 => ?_)
  · have h := it_pos h c1
    exact w_X5_readLine_113 O hr hlk _ h _ _ _ hH (lv_sub hl [0] rfl)
  · have h := it_neg h c1
    refine lv_aload_n hx hb dX5_readLine_107 rfl (lv_at hl 0 rfl) ?_
    refine lv_iconst (v := 3) hx hb dX5_readLine_108 (by decide) ?_
    refine lv_iload_n hx hb dX5_readLine_109 rfl (lv_at hl 1 rfl) ?_
    obtain ⟨D2, hc3, h⟩ := bV_some h
    refine h_callVv (As := [.int 3, .int x2]) (rest := []) O hH (c_X7_refuse hc3) ml_X5_78 ly_1 rfl rfl hl.1 rfl ⟨Nat.le_of_ble_eq_true rfl, Nat.le_of_ble_eq_true rfl⟩ (Nat.le_of_ble_eq_true rfl) dX5_readLine_110 (fun H locs hH => ?_)
    exact w_X5_readLine_113 O hr hlk _ h _ _ _ hH (lv_sub hl [0] rfl)
set_option maxHeartbeats 4000000 in
theorem w_X5_readLine {G : va_G} {tA : Nat → ClassId} {z : Nat} {E : Ex} {p : Program} {l : Launch} {e : Env} {s : State} {m : MethodId} {args : Array Value} {below : List Frame} {meth : Method} {c : Code} {D' : Dm} (O : Ok G tA z E cX5_readLine RX5 4 p s m args c) (hr : meth.sig.returnType = none) (hlk : meth.locks = false)  (D : Dm) (h : f_X5_readLine  D = some D') : BV G tA z E p l e (rmC 8 0 0) s m args below meth c LAY D D' 4 0 [(0, .ref (z + 3)), (1, .ref (z + 1))] [] := by
  obtain ⟨hx, hb, -, hown, hts, -⟩ := id O
  unfold f_X5_readLine at h
  intro H locs ls hH hl
  refine lv_aload_n hx hb dX5_readLine_0 rfl (lv_at hl 1 rfl) ?_
  refine h_geti O hH ly_1 rfl fl_X5_44 dX5_readLine_1 ?_
  refine lv_topi (fun y1 e2 => ?_)
  have h := lt_at e2 h
  refine lv_istore_n (lv' := [(2, .int y1), (0, .ref (z + 3)), (1, .ref (z + 1))]) hx hb dX5_readLine_4 rfl hl (by decide) rfl (fun ls hl => ?_)
  refine lv_iconst (v := 0) hx hb dX5_readLine_5 (by decide) ?_
  refine lv_istore_n (lv' := [(3, .int 0), (2, .int y1), (0, .ref (z + 3)), (1, .ref (z + 1))]) hx hb dX5_readLine_6 rfl hl (by decide) rfl (fun ls hl => ?_)
  refine lv_aload_n hx hb dX5_readLine_7 rfl (lv_at hl 3 rfl) ?_
  refine h_ldcs (k := 0) O rfl dX5_readLine_8 ?_
  obtain ⟨y5, D3, hc4, h⟩ := bI_some h
  refine h_callVi (As := [.ref (E.1 0)]) (rest := []) O hH (c_X7_skip (by decide) hc4) ml_X5_50 ly_1 rfl rfl hl.1 rfl ⟨Nat.le_of_ble_eq_true rfl, Nat.le_of_ble_eq_true rfl⟩ (Nat.le_of_ble_eq_true rfl) dX5_readLine_10 (fun H locs hH => ?_)
  refine lv_if_eq (tgt := 25) hx hb dX5_readLine_13 (by decide) (fun c6 => ?_) (fun c6 => ?_)
  · have h := it_pos h c6
    refine lv_aload_n hx hb dX5_readLine_25 rfl (lv_at hl 3 rfl) ?_
    refine h_ldcs (k := 1) O rfl dX5_readLine_26 ?_
    obtain ⟨y9, D7, hc8, h⟩ := bI_some h
    refine h_callVi (As := [.ref (E.1 1)]) (rest := []) O hH (c_X7_skip (by decide) hc8) ml_X5_50 ly_1 rfl rfl hl.1 rfl ⟨Nat.le_of_ble_eq_true rfl, Nat.le_of_ble_eq_true rfl⟩ (Nat.le_of_ble_eq_true rfl) dX5_readLine_28 (fun H locs hH => ?_)
    refine lv_if_eq (tgt := 43) hx hb dX5_readLine_31 (by decide) (fun c10 => ?_) (fun c10 => ?_)
    · have h := it_pos h c10
      refine lv_aload_n hx hb dX5_readLine_43 rfl (lv_at hl 3 rfl) ?_
      refine h_ldcs (k := 2) O rfl dX5_readLine_44 ?_
      obtain ⟨y13, D11, hc12, h⟩ := bI_some h
      refine h_callVi (As := [.ref (E.1 2)]) (rest := []) O hH (c_X7_skip (by decide) hc12) ml_X5_50 ly_1 rfl rfl hl.1 rfl ⟨Nat.le_of_ble_eq_true rfl, Nat.le_of_ble_eq_true rfl⟩ (Nat.le_of_ble_eq_true rfl) dX5_readLine_46 (fun H locs hH => ?_)
      refine lv_if_eq (tgt := 61) hx hb dX5_readLine_49 (by decide) (fun c14 => ?_) (fun c14 => ?_)
      · have h := it_pos h c14
        refine lv_aload_n hx hb dX5_readLine_61 rfl (lv_at hl 3 rfl) ?_
        refine h_ldcs (k := 3) O rfl dX5_readLine_62 ?_
        obtain ⟨y17, D15, hc16, h⟩ := bI_some h
        refine h_callVi (As := [.ref (E.1 3)]) (rest := []) O hH (c_X7_skip (by decide) hc16) ml_X5_50 ly_1 rfl rfl hl.1 rfl ⟨Nat.le_of_ble_eq_true rfl, Nat.le_of_ble_eq_true rfl⟩ (Nat.le_of_ble_eq_true rfl) dX5_readLine_64 (fun H locs hH => ?_)
        refine lv_if_eq (tgt := 79) hx hb dX5_readLine_67 (by decide) (fun c18 => ?_) (fun c18 => ?_)
        · have h := it_pos h c18
          refine lv_aload_n hx hb dX5_readLine_79 rfl (lv_at hl 3 rfl) ?_
          refine h_ldcs (k := 4) O rfl dX5_readLine_80 ?_
          obtain ⟨y21, D19, hc20, h⟩ := bI_some h
          refine h_callVi (As := [.ref (E.1 4)]) (rest := []) O hH (c_X7_skip (by decide) hc20) ml_X5_50 ly_1 rfl rfl hl.1 rfl ⟨Nat.le_of_ble_eq_true rfl, Nat.le_of_ble_eq_true rfl⟩ (Nat.le_of_ble_eq_true rfl) dX5_readLine_82 (fun H locs hH => ?_)
          refine lv_if_eq (tgt := 97) hx hb dX5_readLine_85 (by decide) (fun c22 => ?_) (fun c22 => ?_)
          · have h := it_pos h c22
            refine lv_aload_n hx hb dX5_readLine_97 rfl (lv_at hl 3 rfl) ?_
            refine lv_iconst (v := 1) hx hb dX5_readLine_98 (by decide) ?_
            refine lv_iload_n hx hb dX5_readLine_99 rfl (lv_at hl 1 rfl) ?_
            obtain ⟨D23, hc24, h⟩ := bV_some h
            refine h_callVv (As := [.int 1, .int y1]) (rest := []) O hH (c_X7_refuse hc24) ml_X5_78 ly_1 rfl rfl hl.1 rfl ⟨Nat.le_of_ble_eq_true rfl, Nat.le_of_ble_eq_true rfl⟩ (Nat.le_of_ble_eq_true rfl) dX5_readLine_100 (fun H locs hH => ?_)
            exact w_X5_readLine_103 O hr hlk _ _ _ h _ _ _ hH (lv_sub hl [3, 1, 0] rfl)
          · have h := it_neg h c22
            refine lv_aload_n hx hb dX5_readLine_88 rfl (lv_at hl 2 rfl) ?_
            refine lv_aload_n hx hb dX5_readLine_89 rfl (lv_at hl 3 rfl) ?_
            obtain ⟨y27, D25, hc26, h⟩ := bI_some h
            refine h_callVi (As := [.ref (z + 1)]) (rest := []) O hH (c_X5_readMove hc26) ml_X5_75 ly_3 rfl rfl hl.1 rfl ⟨Nat.le_of_ble_eq_true rfl, Nat.le_of_ble_eq_true rfl⟩ (Nat.le_of_ble_eq_true rfl) dX5_readLine_90 (fun H locs hH => ?_)
            refine lv_istore_n (lv' := [(3, .int y27), (2, .int y1), (0, .ref (z + 3)), (1, .ref (z + 1))]) hx hb dX5_readLine_93 rfl hl (by decide) rfl (fun ls hl => ?_)
            refine lv_goto (tgt := 103) hx hb dX5_readLine_94 (by decide) ?_
            exact w_X5_readLine_103 O hr hlk _ _ _ h _ _ _ hH (lv_sub hl [3, 1, 0] rfl)
        · have h := it_neg h c18
          refine lv_aload_n hx hb dX5_readLine_70 rfl (lv_at hl 2 rfl) ?_
          refine lv_aload_n hx hb dX5_readLine_71 rfl (lv_at hl 3 rfl) ?_
          obtain ⟨y30, D28, hc29, h⟩ := bI_some h
          refine h_callVi (As := [.ref (z + 1)]) (rest := []) O hH (c_X5_readAccept hc29) ml_X5_70 ly_3 rfl rfl hl.1 rfl ⟨Nat.le_of_ble_eq_true rfl, Nat.le_of_ble_eq_true rfl⟩ (Nat.le_of_ble_eq_true rfl) dX5_readLine_72 (fun H locs hH => ?_)
          refine lv_istore_n (lv' := [(3, .int y30), (2, .int y1), (0, .ref (z + 3)), (1, .ref (z + 1))]) hx hb dX5_readLine_75 rfl hl (by decide) rfl (fun ls hl => ?_)
          refine lv_goto (tgt := 103) hx hb dX5_readLine_76 (by decide) ?_
          exact w_X5_readLine_103 O hr hlk _ _ _ h _ _ _ hH (lv_sub hl [3, 1, 0] rfl)
      · have h := it_neg h c14
        refine lv_aload_n hx hb dX5_readLine_52 rfl (lv_at hl 2 rfl) ?_
        refine lv_aload_n hx hb dX5_readLine_53 rfl (lv_at hl 3 rfl) ?_
        obtain ⟨y33, D31, hc32, h⟩ := bI_some h
        refine h_callVi (As := [.ref (z + 1)]) (rest := []) O hH (c_X5_readSymbols hc32) ml_X5_65 ly_3 rfl rfl hl.1 rfl ⟨Nat.le_of_ble_eq_true rfl, Nat.le_of_ble_eq_true rfl⟩ (Nat.le_of_ble_eq_true rfl) dX5_readLine_54 (fun H locs hH => ?_)
        refine lv_istore_n (lv' := [(3, .int y33), (2, .int y1), (0, .ref (z + 3)), (1, .ref (z + 1))]) hx hb dX5_readLine_57 rfl hl (by decide) rfl (fun ls hl => ?_)
        refine lv_goto (tgt := 103) hx hb dX5_readLine_58 (by decide) ?_
        exact w_X5_readLine_103 O hr hlk _ _ _ h _ _ _ hH (lv_sub hl [3, 1, 0] rfl)
    · have h := it_neg h c10
      refine lv_aload_n hx hb dX5_readLine_34 rfl (lv_at hl 2 rfl) ?_
      refine lv_aload_n hx hb dX5_readLine_35 rfl (lv_at hl 3 rfl) ?_
      obtain ⟨y36, D34, hc35, h⟩ := bI_some h
      refine h_callVi (As := [.ref (z + 1)]) (rest := []) O hH (c_X5_readRegisters hc35) ml_X5_60 ly_3 rfl rfl hl.1 rfl ⟨Nat.le_of_ble_eq_true rfl, Nat.le_of_ble_eq_true rfl⟩ (Nat.le_of_ble_eq_true rfl) dX5_readLine_36 (fun H locs hH => ?_)
      refine lv_istore_n (lv' := [(3, .int y36), (2, .int y1), (0, .ref (z + 3)), (1, .ref (z + 1))]) hx hb dX5_readLine_39 rfl hl (by decide) rfl (fun ls hl => ?_)
      refine lv_goto (tgt := 103) hx hb dX5_readLine_40 (by decide) ?_
      exact w_X5_readLine_103 O hr hlk _ _ _ h _ _ _ hH (lv_sub hl [3, 1, 0] rfl)
  · have h := it_neg h c6
    refine lv_aload_n hx hb dX5_readLine_16 rfl (lv_at hl 2 rfl) ?_
    refine lv_aload_n hx hb dX5_readLine_17 rfl (lv_at hl 3 rfl) ?_
    obtain ⟨y39, D37, hc38, h⟩ := bI_some h
    refine h_callVi (As := [.ref (z + 1)]) (rest := []) O hH (c_X5_readStates hc38) ml_X5_54 ly_3 rfl rfl hl.1 rfl ⟨Nat.le_of_ble_eq_true rfl, Nat.le_of_ble_eq_true rfl⟩ (Nat.le_of_ble_eq_true rfl) dX5_readLine_18 (fun H locs hH => ?_)
    refine lv_istore_n (lv' := [(3, .int y39), (2, .int y1), (0, .ref (z + 3)), (1, .ref (z + 1))]) hx hb dX5_readLine_21 rfl hl (by decide) rfl (fun ls hl => ?_)
    refine lv_goto (tgt := 103) hx hb dX5_readLine_22 (by decide) ?_
    exact w_X5_readLine_103 O hr hlk _ _ _ h _ _ _ hH (lv_sub hl [3, 1, 0] rfl)
set_option maxHeartbeats 4000000 in
theorem c_X5_readLine {l : Launch} {G : va_G} {tA : Nat → ClassId} {z : Nat} {E : Ex}  {D D' : Dm} (h : f_X5_readLine  D = some D') : CtV l yX5_readLine cX5_readLine 4 G tA z E 8 0 0 [.ref (z + 3), .ref (z + 1)] LAY D LAY D' :=
  ct_BV (by decide +kernel) (Nat.le_of_ble_eq_true rfl) (fun _ _ _ _ _ _ _ _ O hr hlk => w_X5_readLine O hr hlk  _ h)
set_option maxHeartbeats 4000000 in
theorem w_X5_read_29_b {G : va_G} {tA : Nat → ClassId} {z : Nat} {E : Ex} {p : Program} {l : Launch} {e : Env} {s : State} {m : MethodId} {args : Array Value} {below : List Frame} {meth : Method} {c : Code} {D' : Dm} (O : Ok G tA z E cX5_read RX5 3 p s m args c) (hr : meth.sig.returnType = none) (hlk : meth.locks = false) {k29 : Int32 → Dm → Option Dm} (hk29 : ∀ (x2 : Int32) (D : Dm), k29 x2 D = some D' → BV G tA z E p l e (rmC 9 0 0) s m args below meth c LAY D D' 3 29 [(0, .ref (z + 3)), (1, .ref (z + 1)), (2, .int x2)] []) (x2 : Int32) (D : Dm) (h : f_X5_read_29_b k29 x2 D = some D') : BV G tA z E p l e (rmC 9 0 0) s m args below meth c LAY D D' 3 29 [(0, .ref (z + 3)), (1, .ref (z + 1)), (2, .int x2)] [] := by
  obtain ⟨hx, hb, -, hown, hts, -⟩ := id O
  unfold f_X5_read_29_b at h
  intro H locs ls hH hl
  refine lv_iload_n hx hb dX5_read_29 rfl (lv_at hl 2 rfl) ?_
  refine lv_sipush (v := 500) hx hb dX5_read_30 (by decide) ?_
  refine lv_icmp_ge (tgt := 54) hx hb dX5_read_33 (by decide) (fun c1 => ?_) (fun c1 => ?_)
  · have h := it_pos h c1
    obtain rfl := ret_v h
    exact h_vret O hr hlk hH dX5_read_54
  · have h := it_neg h c1
    refine lv_aload_n hx hb dX5_read_36 rfl (lv_at hl 1 rfl) ?_
    obtain ⟨y4, D2, hc3, h⟩ := bI_some h
    refine h_callVi (As := []) (rest := []) O hH (c_X7_hasMore hc3) ml_X5_34 ly_1 rfl rfl hl.1 rfl ⟨Nat.le_of_ble_eq_true rfl, Nat.le_of_ble_eq_true rfl⟩ (Nat.le_of_ble_eq_true rfl) dX5_read_37 (fun H locs hH => ?_)
    refine lv_if_eq (tgt := 54) hx hb dX5_read_40 (by decide) (fun c5 => ?_) (fun c5 => ?_)
    · have h := it_pos h c5
      obtain rfl := ret_v h
      exact h_vret O hr hlk hH dX5_read_54
    · have h := it_neg h c5
      refine lv_aload_n hx hb dX5_read_43 rfl (lv_at hl 0 rfl) ?_
      refine lv_aload_n hx hb dX5_read_44 rfl (lv_at hl 1 rfl) ?_
      obtain ⟨D6, hc7, h⟩ := bV_some h
      refine h_callVv (As := [.ref (z + 1)]) (rest := []) O hH (c_X5_readLine hc7) ml_X5_40 ly_3 rfl rfl hl.1 rfl ⟨Nat.le_of_ble_eq_true rfl, Nat.le_of_ble_eq_true rfl⟩ (Nat.le_of_ble_eq_true rfl) dX5_read_45 (fun H locs hH => ?_)
      obtain ⟨y8, e9, h⟩ := lt_some h
      refine lv_iinc (v := y8) (lv' := [(2, .int y8), (0, .ref (z + 3)), (1, .ref (z + 1))]) hx hb dX5_read_48 hl (k := 2) rfl (by rw [e9]; rfl) (by decide) rfl (fun ls hl => ?_)
      refine lv_goto (tgt := 29) hx hb dX5_read_51 (by decide) ?_
      exact hk29 _ _ h _ _ _ hH (lv_sub hl [1, 2, 0] rfl)
set_option maxHeartbeats 4000000 in
theorem w_X5_read_29 {G : va_G} {tA : Nat → ClassId} {z : Nat} {E : Ex} {p : Program} {l : Launch} {e : Env} {s : State} {m : MethodId} {args : Array Value} {below : List Frame} {meth : Method} {c : Code} {D' : Dm} (O : Ok G tA z E cX5_read RX5 3 p s m args c) (hr : meth.sig.returnType = none) (hlk : meth.locks = false) : ∀ (n : Nat) (x2 : Int32) (D : Dm) (h : f_X5_read_29 n x2 D = some D'), BV G tA z E p l e (rmC 9 0 0) s m args below meth c LAY D D' 3 29 [(0, .ref (z + 3)), (1, .ref (z + 1)), (2, .int x2)] [] := by
  intro n
  induction n with
  | zero => intro x2 D h; exact no_some h
  | succ n ih => intro x2 D h; exact w_X5_read_29_b O hr hlk (fun x2 D h => ih x2 D h) x2 D h
set_option maxHeartbeats 4000000 in
theorem w_X5_read {G : va_G} {tA : Nat → ClassId} {z : Nat} {E : Ex} {p : Program} {l : Launch} {e : Env} {s : State} {m : MethodId} {args : Array Value} {below : List Frame} {meth : Method} {c : Code} {D' : Dm} (O : Ok G tA z E cX5_read RX5 3 p s m args c) (hr : meth.sig.returnType = none) (hlk : meth.locks = false)  (D : Dm) (h : f_X5_read  D = some D') : BV G tA z E p l e (rmC 9 0 0) s m args below meth c LAY D D' 3 0 [(0, .ref (z + 3)), (1, .ref (z + 1))] [] := by
  obtain ⟨hx, hb, -, hown, hts, -⟩ := id O
  unfold f_X5_read at h
  intro H locs ls hH hl
  refine lv_aload_n hx hb dX5_read_0 rfl (lv_at hl 0 rfl) ?_
  refine h_getr O hH ly_3 rfl fl_X5_12 dX5_read_1 ?_
  obtain ⟨D1, hc2, h⟩ := bV_some h
  refine h_callVv (As := []) (rest := []) O hH (c_X4_clear ic_4 hc2) ml_X5_18 ly_4 rfl rfl hl.1 rfl ⟨Nat.le_of_ble_eq_true rfl, Nat.le_of_ble_eq_true rfl⟩ (Nat.le_of_ble_eq_true rfl) dX5_read_4 (fun H locs hH => ?_)
  refine lv_aload_n hx hb dX5_read_7 rfl (lv_at hl 0 rfl) ?_
  refine lv_iconst (v := 0) hx hb dX5_read_8 (by decide) ?_
  obtain ⟨D3, e4, h⟩ := lt_some h
  refine h_putz O hH ly_3 rfl fl_X5_21 zb_0 e4 dX5_read_9 (fun H locs hH => ?_)
  refine lv_aload_n hx hb dX5_read_12 rfl (lv_at hl 0 rfl) ?_
  refine lv_iconst (v := 0) hx hb dX5_read_13 (by decide) ?_
  obtain ⟨D5, e6, h⟩ := lt_some h
  refine h_putz O hH ly_3 rfl fl_X5_25 zb_0 e6 dX5_read_14 (fun H locs hH => ?_)
  refine lv_aload_n hx hb dX5_read_17 rfl (lv_at hl 0 rfl) ?_
  refine lv_iconst (v := 0) hx hb dX5_read_18 (by decide) ?_
  obtain ⟨D7, e8, h⟩ := lt_some h
  refine h_putz O hH ly_3 rfl fl_X5_28 zb_0 e8 dX5_read_19 (fun H locs hH => ?_)
  refine lv_aload_n hx hb dX5_read_22 rfl (lv_at hl 0 rfl) ?_
  refine lv_iconst (v := 0) hx hb dX5_read_23 (by decide) ?_
  obtain ⟨D9, e10, h⟩ := lt_some h
  refine h_putz O hH ly_3 rfl fl_X5_31 zb_0 e10 dX5_read_24 (fun H locs hH => ?_)
  refine lv_iconst (v := 0) hx hb dX5_read_27 (by decide) ?_
  refine lv_istore_n (lv' := [(2, .int 0), (0, .ref (z + 3)), (1, .ref (z + 1))]) hx hb dX5_read_28 rfl hl (by decide) rfl (fun ls hl => ?_)
  exact w_X5_read_29 O hr hlk FU _ _ h _ _ _ hH (lv_sub hl [1, 2, 0] rfl)
set_option maxHeartbeats 4000000 in
theorem c_X5_read {l : Launch} {G : va_G} {tA : Nat → ClassId} {z : Nat} {E : Ex}  {D D' : Dm} (h : f_X5_read  D = some D') : CtV l yX5_read cX5_read 3 G tA z E 9 0 0 [.ref (z + 3), .ref (z + 1)] LAY D LAY D' :=
  ct_BV (by decide +kernel) (Nat.le_of_ble_eq_true rfl) (fun _ _ _ _ _ _ _ _ O hr hlk => w_X5_read O hr hlk  _ h)
