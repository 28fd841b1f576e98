theorem dX12_isIn_0 : decode cX12_isIn 0 = .ok (.lload_n 0, 1) := by decide +kernel
theorem dX12_isIn_1 : decode cX12_isIn 1 = .ok (.lload_n 2, 1) := by decide +kernel
theorem dX12_isIn_2 : decode cX12_isIn 2 = .ok (.lcmp, 1) := by decide +kernel
theorem dX12_isIn_3 : decode cX12_isIn 3 = .ok (.ifCond .lt 14, 3) := by decide +kernel
theorem dX12_isIn_6 : decode cX12_isIn 6 = .ok (.lload_n 0, 1) := by decide +kernel
theorem dX12_isIn_7 : decode cX12_isIn 7 = .ok (.lload 4, 2) := by decide +kernel
theorem dX12_isIn_9 : decode cX12_isIn 9 = .ok (.lcmp, 1) := by decide +kernel
theorem dX12_isIn_10 : decode cX12_isIn 10 = .ok (.ifCond .gt 7, 3) := by decide +kernel
theorem dX12_isIn_13 : decode cX12_isIn 13 = .ok (.iconst 1, 1) := by decide +kernel
theorem dX12_isIn_14 : decode cX12_isIn 14 = .ok (.goto 4, 3) := by decide +kernel
theorem dX12_isIn_17 : decode cX12_isIn 17 = .ok (.iconst 0, 1) := by decide +kernel
theorem dX12_isIn_18 : decode cX12_isIn 18 = .ok (.ireturn, 1) := by decide +kernel
theorem dX12_empties_0 : decode cX12_empties 0 = .ok (.aload_n 0, 1) := by decide +kernel
theorem dX12_empties_1 : decode cX12_empties 1 = .ok (.iconst 0, 1) := by decide +kernel
theorem dX12_empties_2 : decode cX12_empties 2 = .ok (.iconst 1, 1) := by decide +kernel
theorem dX12_empties_3 : decode cX12_empties 3 = .ok (.iastore, 1) := by decide +kernel
theorem dX12_empties_4 : decode cX12_empties 4 = .ok (.aload_n 0, 1) := by decide +kernel
theorem dX12_empties_5 : decode cX12_empties 5 = .ok (.iconst 1, 1) := by decide +kernel
theorem dX12_empties_6 : decode cX12_empties 6 = .ok (.iconst 0, 1) := by decide +kernel
theorem dX12_empties_7 : decode cX12_empties 7 = .ok (.iastore, 1) := by decide +kernel
theorem dX12_empties_8 : decode cX12_empties 8 = .ok (.aload_n 0, 1) := by decide +kernel
theorem dX12_empties_9 : decode cX12_empties 9 = .ok (.iconst 2, 1) := by decide +kernel
theorem dX12_empties_10 : decode cX12_empties 10 = .ok (.iconst 1, 1) := by decide +kernel
theorem dX12_empties_11 : decode cX12_empties 11 = .ok (.iastore, 1) := by decide +kernel
theorem dX12_empties_12 : decode cX12_empties 12 = .ok (.aload_n 0, 1) := by decide +kernel
theorem dX12_empties_13 : decode cX12_empties 13 = .ok (.iconst 3, 1) := by decide +kernel
theorem dX12_empties_14 : decode cX12_empties 14 = .ok (.iconst 0, 1) := by decide +kernel
theorem dX12_empties_15 : decode cX12_empties 15 = .ok (.iastore, 1) := by decide +kernel
theorem dX12_empties_16 : decode cX12_empties 16 = .ok (.iconst 4, 1) := by decide +kernel
theorem dX12_empties_17 : decode cX12_empties 17 = .ok (.istore_n 1, 1) := by decide +kernel
theorem dX12_empties_18 : decode cX12_empties 18 = .ok (.iload_n 1, 1) := by decide +kernel
theorem dX12_empties_19 : decode cX12_empties 19 = .ok (.bipush 94, 2) := by decide +kernel
theorem dX12_empties_21 : decode cX12_empties 21 = .ok (.if_icmp .ge 13, 3) := by decide +kernel
theorem dX12_empties_24 : decode cX12_empties 24 = .ok (.aload_n 0, 1) := by decide +kernel
theorem dX12_empties_25 : decode cX12_empties 25 = .ok (.iload_n 1, 1) := by decide +kernel
theorem dX12_empties_26 : decode cX12_empties 26 = .ok (.iconst (-1), 1) := by decide +kernel
theorem dX12_empties_27 : decode cX12_empties 27 = .ok (.iastore, 1) := by decide +kernel
theorem dX12_empties_28 : decode cX12_empties 28 = .ok (.iinc 1 1, 3) := by decide +kernel
theorem dX12_empties_31 : decode cX12_empties 31 = .ok (.goto (-13), 3) := by decide +kernel
theorem dX12_empties_34 : decode cX12_empties 34 = .ok (.return_, 1) := by decide +kernel
theorem dX12_its_0 : decode cX12_its 0 = .ok (.aload_n 0, 1) := by decide +kernel
theorem dX12_its_1 : decode cX12_its 1 = .ok (.getfield 13, 3) := by decide +kernel
theorem dX12_its_4 : decode cX12_its 4 = .ok (.bipush 94, 2) := by decide +kernel
theorem dX12_its_6 : decode cX12_its 6 = .ok (.iload_n 1, 1) := by decide +kernel
theorem dX12_its_7 : decode cX12_its 7 = .ok (.imul, 1) := by decide +kernel
theorem dX12_its_8 : decode cX12_its 8 = .ok (.iload_n 2, 1) := by decide +kernel
theorem dX12_its_9 : decode cX12_its 9 = .ok (.iadd, 1) := by decide +kernel
theorem dX12_its_10 : decode cX12_its 10 = .ok (.iaload, 1) := by decide +kernel
theorem dX12_its_11 : decode cX12_its 11 = .ok (.ireturn, 1) := by decide +kernel
theorem dX12_moveAt_0 : decode cX12_moveAt 0 = .ok (.iconst 4, 1) := by decide +kernel
theorem dX12_moveAt_1 : decode cX12_moveAt 1 = .ok (.iconst 3, 1) := by decide +kernel
theorem dX12_moveAt_2 : decode cX12_moveAt 2 = .ok (.bipush 6, 2) := by decide +kernel
theorem dX12_moveAt_4 : decode cX12_moveAt 4 = .ok (.iload_n 0, 1) := by decide +kernel
theorem dX12_moveAt_5 : decode cX12_moveAt 5 = .ok (.imul, 1) := by decide +kernel
theorem dX12_moveAt_6 : decode cX12_moveAt 6 = .ok (.iconst 3, 1) := by decide +kernel
theorem dX12_moveAt_7 : decode cX12_moveAt 7 = .ok (.iload_n 1, 1) := by decide +kernel
theorem dX12_moveAt_8 : decode cX12_moveAt 8 = .ok (.imul, 1) := by decide +kernel
theorem dX12_moveAt_9 : decode cX12_moveAt 9 = .ok (.iadd, 1) := by decide +kernel
theorem dX12_moveAt_10 : decode cX12_moveAt 10 = .ok (.iload_n 2, 1) := by decide +kernel
theorem dX12_moveAt_11 : decode cX12_moveAt 11 = .ok (.iadd, 1) := by decide +kernel
theorem dX12_moveAt_12 : decode cX12_moveAt 12 = .ok (.imul, 1) := by decide +kernel
theorem dX12_moveAt_13 : decode cX12_moveAt 13 = .ok (.iadd, 1) := by decide +kernel
theorem dX12_moveAt_14 : decode cX12_moveAt 14 = .ok (.ireturn, 1) := by decide +kernel
theorem dX12_isMachine_0 : decode cX12_isMachine 0 = .ok (.iload_n 0, 1) := by decide +kernel
theorem dX12_isMachine_1 : decode cX12_isMachine 1 = .ok (.ifCond .eq 8, 3) := by decide +kernel
theorem dX12_isMachine_4 : decode cX12_isMachine 4 = .ok (.iload_n 0, 1) := by decide +kernel
theorem dX12_isMachine_5 : decode cX12_isMachine 5 = .ok (.iconst 1, 1) := by decide +kernel
theorem dX12_isMachine_6 : decode cX12_isMachine 6 = .ok (.if_icmp .ne 7, 3) := by decide +kernel
theorem dX12_isMachine_9 : decode cX12_isMachine 9 = .ok (.iconst 1, 1) := by decide +kernel
theorem dX12_isMachine_10 : decode cX12_isMachine 10 = .ok (.goto 4, 3) := by decide +kernel
theorem dX12_isMachine_13 : decode cX12_isMachine 13 = .ok (.iconst 0, 1) := by decide +kernel
theorem dX12_isMachine_14 : decode cX12_isMachine 14 = .ok (.ireturn, 1) := by decide +kernel
theorem dX12_starts_0 : decode cX12_starts 0 = .ok (.aload_n 0, 1) := by decide +kernel
theorem dX12_starts_1 : decode cX12_starts 1 = .ok (.iconst 0, 1) := by decide +kernel
theorem dX12_starts_2 : decode cX12_starts 2 = .ok (.putfield 135, 3) := by decide +kernel
theorem dX12_starts_5 : decode cX12_starts 5 = .ok (.aload_n 0, 1) := by decide +kernel
theorem dX12_starts_6 : decode cX12_starts 6 = .ok (.iconst (-1), 1) := by decide +kernel
theorem dX12_starts_7 : decode cX12_starts 7 = .ok (.putfield 138, 3) := by decide +kernel
theorem dX12_starts_10 : decode cX12_starts 10 = .ok (.aload_n 0, 1) := by decide +kernel
theorem dX12_starts_11 : decode cX12_starts 11 = .ok (.iconst (-1), 1) := by decide +kernel
theorem dX12_starts_12 : decode cX12_starts 12 = .ok (.putfield 141, 3) := by decide +kernel
theorem dX12_starts_15 : decode cX12_starts 15 = .ok (.return_, 1) := by decide +kernel
theorem dX12_stays_0 : decode cX12_stays 0 = .ok (.aload_n 0, 1) := by decide +kernel
theorem dX12_stays_1 : decode cX12_stays 1 = .ok (.iload_n 1, 1) := by decide +kernel
theorem dX12_stays_2 : decode cX12_stays 2 = .ok (.putfield 135, 3) := by decide +kernel
theorem dX12_stays_5 : decode cX12_stays 5 = .ok (.aload_n 0, 1) := by decide +kernel
theorem dX12_stays_6 : decode cX12_stays 6 = .ok (.iload_n 2, 1) := by decide +kernel
theorem dX12_stays_7 : decode cX12_stays 7 = .ok (.putfield 138, 3) := by decide +kernel
theorem dX12_stays_10 : decode cX12_stays 10 = .ok (.aload_n 0, 1) := by decide +kernel
theorem dX12_stays_11 : decode cX12_stays 11 = .ok (.iload_n 3, 1) := by decide +kernel
theorem dX12_stays_12 : decode cX12_stays 12 = .ok (.putfield 141, 3) := by decide +kernel
theorem dX12_stays_15 : decode cX12_stays 15 = .ok (.return_, 1) := by decide +kernel
theorem dX12_loses_0 : decode cX12_loses 0 = .ok (.aload_n 0, 1) := by decide +kernel
theorem dX12_loses_1 : decode cX12_loses 1 = .ok (.iconst (-1), 1) := by decide +kernel
theorem dX12_loses_2 : decode cX12_loses 2 = .ok (.iconst (-1), 1) := by decide +kernel
theorem dX12_loses_3 : decode cX12_loses 3 = .ok (.iconst (-1), 1) := by decide +kernel
theorem dX12_loses_4 : decode cX12_loses 4 = .ok (.invokevirtual 144, 3) := by decide +kernel
theorem dX12_loses_7 : decode cX12_loses 7 = .ok (.return_, 1) := by decide +kernel
theorem dX12_goesBy_0 : decode cX12_goesBy 0 = .ok (.aload_n 0, 1) := by decide +kernel
theorem dX12_goesBy_1 : decode cX12_goesBy 1 = .ok (.getfield 135, 3) := by decide +kernel
theorem dX12_goesBy_4 : decode cX12_goesBy 4 = .ok (.iconst (-1), 1) := by decide +kernel
theorem dX12_goesBy_5 : decode cX12_goesBy 5 = .ok (.if_icmp .ne 4, 3) := by decide +kernel
theorem dX12_goesBy_8 : decode cX12_goesBy 8 = .ok (.return_, 1) := by decide +kernel
theorem dX12_goesBy_9 : decode cX12_goesBy 9 = .ok (.bipush 94, 2) := by decide +kernel
theorem dX12_goesBy_11 : decode cX12_goesBy 11 = .ok (.iload_n 1, 1) := by decide +kernel
theorem dX12_goesBy_12 : decode cX12_goesBy 12 = .ok (.imul, 1) := by decide +kernel
theorem dX12_goesBy_13 : decode cX12_goesBy 13 = .ok (.istore 4, 2) := by decide +kernel
theorem dX12_goesBy_15 : decode cX12_goesBy 15 = .ok (.iconst (-1), 1) := by decide +kernel
theorem dX12_goesBy_16 : decode cX12_goesBy 16 = .ok (.istore 5, 2) := by decide +kernel
theorem dX12_goesBy_18 : decode cX12_goesBy 18 = .ok (.aload_n 0, 1) := by decide +kernel
theorem dX12_goesBy_19 : decode cX12_goesBy 19 = .ok (.getfield 138, 3) := by decide +kernel
theorem dX12_goesBy_22 : decode cX12_goesBy 22 = .ok (.iload_n 3, 1) := by decide +kernel
theorem dX12_goesBy_23 : decode cX12_goesBy 23 = .ok (.if_icmp .ne 30, 3) := by decide +kernel
theorem dX12_goesBy_26 : decode cX12_goesBy 26 = .ok (.aload_n 0, 1) := by decide +kernel
theorem dX12_goesBy_27 : decode cX12_goesBy 27 = .ok (.getfield 13, 3) := by decide +kernel
theorem dX12_goesBy_30 : decode cX12_goesBy 30 = .ok (.iload 4, 2) := by decide +kernel
theorem dX12_goesBy_32 : decode cX12_goesBy 32 = .ok (.aload_n 0, 1) := by decide +kernel
theorem dX12_goesBy_33 : decode cX12_goesBy 33 = .ok (.getfield 135, 3) := by decide +kernel
theorem dX12_goesBy_36 : decode cX12_goesBy 36 = .ok (.iload_n 2, 1) := by decide +kernel
theorem dX12_goesBy_37 : decode cX12_goesBy 37 = .ok (.iconst 0, 1) := by decide +kernel
theorem dX12_goesBy_38 : decode cX12_goesBy 38 = .ok (.invokestatic 148, 3) := by decide +kernel
theorem dX12_goesBy_41 : decode cX12_goesBy 41 = .ok (.iadd, 1) := by decide +kernel
theorem dX12_goesBy_42 : decode cX12_goesBy 42 = .ok (.iaload, 1) := by decide +kernel
theorem dX12_goesBy_43 : decode cX12_goesBy 43 = .ok (.iconst (-1), 1) := by decide +kernel
theorem dX12_goesBy_44 : decode cX12_goesBy 44 = .ok (.if_icmp .eq 9, 3) := by decide +kernel
theorem dX12_goesBy_47 : decode cX12_goesBy 47 = .ok (.iconst 0, 1) := by decide +kernel
theorem dX12_goesBy_48 : decode cX12_goesBy 48 = .ok (.istore 5, 2) := by decide +kernel
theorem dX12_goesBy_50 : decode cX12_goesBy 50 = .ok (.goto 62, 3) := by decide +kernel
theorem dX12_goesBy_53 : decode cX12_goesBy 53 = .ok (.aload_n 0, 1) := by decide +kernel
theorem dX12_goesBy_54 : decode cX12_goesBy 54 = .ok (.getfield 141, 3) := by decide +kernel
theorem dX12_goesBy_57 : decode cX12_goesBy 57 = .ok (.iload_n 3, 1) := by decide +kernel
theorem dX12_goesBy_58 : decode cX12_goesBy 58 = .ok (.if_icmp .ne 30, 3) := by decide +kernel
theorem dX12_goesBy_61 : decode cX12_goesBy 61 = .ok (.aload_n 0, 1) := by decide +kernel
theorem dX12_goesBy_62 : decode cX12_goesBy 62 = .ok (.getfield 13, 3) := by decide +kernel
theorem dX12_goesBy_65 : decode cX12_goesBy 65 = .ok (.iload 4, 2) := by decide +kernel
theorem dX12_goesBy_67 : decode cX12_goesBy 67 = .ok (.aload_n 0, 1) := by decide +kernel
theorem dX12_goesBy_68 : decode cX12_goesBy 68 = .ok (.getfield 135, 3) := by decide +kernel
theorem dX12_goesBy_71 : decode cX12_goesBy 71 = .ok (.iload_n 2, 1) := by decide +kernel
theorem dX12_goesBy_72 : decode cX12_goesBy 72 = .ok (.iconst 1, 1) := by decide +kernel
theorem dX12_goesBy_73 : decode cX12_goesBy 73 = .ok (.invokestatic 148, 3) := by decide +kernel
theorem dX12_goesBy_76 : decode cX12_goesBy 76 = .ok (.iadd, 1) := by decide +kernel
theorem dX12_goesBy_77 : decode cX12_goesBy 77 = .ok (.iaload, 1) := by decide +kernel
theorem dX12_goesBy_78 : decode cX12_goesBy 78 = .ok (.iconst (-1), 1) := by decide +kernel
theorem dX12_goesBy_79 : decode cX12_goesBy 79 = .ok (.if_icmp .eq 9, 3) := by decide +kernel
theorem dX12_goesBy_82 : decode cX12_goesBy 82 = .ok (.iconst 1, 1) := by decide +kernel
theorem dX12_goesBy_83 : decode cX12_goesBy 83 = .ok (.istore 5, 2) := by decide +kernel
theorem dX12_goesBy_85 : decode cX12_goesBy 85 = .ok (.goto 27, 3) := by decide +kernel
theorem dX12_goesBy_88 : decode cX12_goesBy 88 = .ok (.aload_n 0, 1) := by decide +kernel
theorem dX12_goesBy_89 : decode cX12_goesBy 89 = .ok (.getfield 13, 3) := by decide +kernel
theorem dX12_goesBy_92 : decode cX12_goesBy 92 = .ok (.iload 4, 2) := by decide +kernel
theorem dX12_goesBy_94 : decode cX12_goesBy 94 = .ok (.aload_n 0, 1) := by decide +kernel
theorem dX12_goesBy_95 : decode cX12_goesBy 95 = .ok (.getfield 135, 3) := by decide +kernel
theorem dX12_goesBy_98 : decode cX12_goesBy 98 = .ok (.iload_n 2, 1) := by decide +kernel
theorem dX12_goesBy_99 : decode cX12_goesBy 99 = .ok (.iconst 2, 1) := by decide +kernel
theorem dX12_goesBy_100 : decode cX12_goesBy 100 = .ok (.invokestatic 148, 3) := by decide +kernel
theorem dX12_goesBy_103 : decode cX12_goesBy 103 = .ok (.iadd, 1) := by decide +kernel
theorem dX12_goesBy_104 : decode cX12_goesBy 104 = .ok (.iaload, 1) := by decide +kernel
theorem dX12_goesBy_105 : decode cX12_goesBy 105 = .ok (.iconst (-1), 1) := by decide +kernel
theorem dX12_goesBy_106 : decode cX12_goesBy 106 = .ok (.if_icmp .eq 6, 3) := by decide +kernel
theorem dX12_goesBy_109 : decode cX12_goesBy 109 = .ok (.iconst 2, 1) := by decide +kernel
theorem dX12_goesBy_110 : decode cX12_goesBy 110 = .ok (.istore 5, 2) := by decide +kernel
theorem dX12_goesBy_112 : decode cX12_goesBy 112 = .ok (.iload 5, 2) := by decide +kernel
theorem dX12_goesBy_114 : decode cX12_goesBy 114 = .ok (.iconst (-1), 1) := by decide +kernel
theorem dX12_goesBy_115 : decode cX12_goesBy 115 = .ok (.if_icmp .ne 8, 3) := by decide +kernel
theorem dX12_goesBy_118 : decode cX12_goesBy 118 = .ok (.aload_n 0, 1) := by decide +kernel
theorem dX12_goesBy_119 : decode cX12_goesBy 119 = .ok (.invokevirtual 152, 3) := by decide +kernel
theorem dX12_goesBy_122 : decode cX12_goesBy 122 = .ok (.return_, 1) := by decide +kernel
theorem dX12_goesBy_123 : decode cX12_goesBy 123 = .ok (.iload 4, 2) := by decide +kernel
theorem dX12_goesBy_125 : decode cX12_goesBy 125 = .ok (.aload_n 0, 1) := by decide +kernel
theorem dX12_goesBy_126 : decode cX12_goesBy 126 = .ok (.getfield 135, 3) := by decide +kernel
theorem dX12_goesBy_129 : decode cX12_goesBy 129 = .ok (.iload_n 2, 1) := by decide +kernel
theorem dX12_goesBy_130 : decode cX12_goesBy 130 = .ok (.iload 5, 2) := by decide +kernel
theorem dX12_goesBy_132 : decode cX12_goesBy 132 = .ok (.invokestatic 148, 3) := by decide +kernel
theorem dX12_goesBy_135 : decode cX12_goesBy 135 = .ok (.iadd, 1) := by decide +kernel
theorem dX12_goesBy_136 : decode cX12_goesBy 136 = .ok (.istore 6, 2) := by decide +kernel
theorem dX12_goesBy_138 : decode cX12_goesBy 138 = .ok (.aload_n 0, 1) := by decide +kernel
theorem dX12_goesBy_139 : decode cX12_goesBy 139 = .ok (.getfield 13, 3) := by decide +kernel
theorem dX12_goesBy_142 : decode cX12_goesBy 142 = .ok (.iload 6, 2) := by decide +kernel
theorem dX12_goesBy_144 : decode cX12_goesBy 144 = .ok (.iconst 1, 1) := by decide +kernel
theorem dX12_goesBy_145 : decode cX12_goesBy 145 = .ok (.iadd, 1) := by decide +kernel
theorem dX12_goesBy_146 : decode cX12_goesBy 146 = .ok (.iaload, 1) := by decide +kernel
theorem dX12_goesBy_147 : decode cX12_goesBy 147 = .ok (.istore 7, 2) := by decide +kernel
theorem dX12_goesBy_149 : decode cX12_goesBy 149 = .ok (.aload_n 0, 1) := by decide +kernel
theorem dX12_goesBy_150 : decode cX12_goesBy 150 = .ok (.getfield 13, 3) := by decide +kernel
theorem dX12_goesBy_153 : decode cX12_goesBy 153 = .ok (.iload 6, 2) := by decide +kernel
theorem dX12_goesBy_155 : decode cX12_goesBy 155 = .ok (.iconst 2, 1) := by decide +kernel
theorem dX12_goesBy_156 : decode cX12_goesBy 156 = .ok (.iadd, 1) := by decide +kernel
theorem dX12_goesBy_157 : decode cX12_goesBy 157 = .ok (.iaload, 1) := by decide +kernel
theorem dX12_goesBy_158 : decode cX12_goesBy 158 = .ok (.istore 8, 2) := by decide +kernel
theorem dX12_goesBy_160 : decode cX12_goesBy 160 = .ok (.iload 7, 2) := by decide +kernel
theorem dX12_goesBy_162 : decode cX12_goesBy 162 = .ok (.ifCond .ne 8, 3) := by decide +kernel
theorem dX12_goesBy_165 : decode cX12_goesBy 165 = .ok (.aload_n 0, 1) := by decide +kernel
theorem dX12_goesBy_166 : decode cX12_goesBy 166 = .ok (.iload_n 3, 1) := by decide +kernel
theorem dX12_goesBy_167 : decode cX12_goesBy 167 = .ok (.putfield 138, 3) := by decide +kernel
theorem dX12_goesBy_170 : decode cX12_goesBy 170 = .ok (.iload 7, 2) := by decide +kernel
theorem dX12_goesBy_172 : decode cX12_goesBy 172 = .ok (.iconst 1, 1) := by decide +kernel
theorem dX12_goesBy_173 : decode cX12_goesBy 173 = .ok (.if_icmp .ne 8, 3) := by decide +kernel
theorem dX12_goesBy_176 : decode cX12_goesBy 176 = .ok (.aload_n 0, 1) := by decide +kernel
theorem dX12_goesBy_177 : decode cX12_goesBy 177 = .ok (.iload_n 3, 1) := by decide +kernel
theorem dX12_goesBy_178 : decode cX12_goesBy 178 = .ok (.putfield 141, 3) := by decide +kernel
theorem dX12_goesBy_181 : decode cX12_goesBy 181 = .ok (.iload 8, 2) := by decide +kernel
theorem dX12_goesBy_183 : decode cX12_goesBy 183 = .ok (.ifCond .ne 8, 3) := by decide +kernel
theorem dX12_goesBy_186 : decode cX12_goesBy 186 = .ok (.aload_n 0, 1) := by decide +kernel
theorem dX12_goesBy_187 : decode cX12_goesBy 187 = .ok (.iconst (-1), 1) := by decide +kernel
theorem dX12_goesBy_188 : decode cX12_goesBy 188 = .ok (.putfield 138, 3) := by decide +kernel
theorem dX12_goesBy_191 : decode cX12_goesBy 191 = .ok (.iload 8, 2) := by decide +kernel
theorem dX12_goesBy_193 : decode cX12_goesBy 193 = .ok (.iconst 1, 1) := by decide +kernel
theorem dX12_goesBy_194 : decode cX12_goesBy 194 = .ok (.if_icmp .ne 8, 3) := by decide +kernel
theorem dX12_goesBy_197 : decode cX12_goesBy 197 = .ok (.aload_n 0, 1) := by decide +kernel
theorem dX12_goesBy_198 : decode cX12_goesBy 198 = .ok (.iconst (-1), 1) := by decide +kernel
theorem dX12_goesBy_199 : decode cX12_goesBy 199 = .ok (.putfield 141, 3) := by decide +kernel
theorem dX12_goesBy_202 : decode cX12_goesBy 202 = .ok (.aload_n 0, 1) := by decide +kernel
theorem dX12_goesBy_203 : decode cX12_goesBy 203 = .ok (.aload_n 0, 1) := by decide +kernel
theorem dX12_goesBy_204 : decode cX12_goesBy 204 = .ok (.getfield 13, 3) := by decide +kernel
theorem dX12_goesBy_207 : decode cX12_goesBy 207 = .ok (.iload 6, 2) := by decide +kernel
theorem dX12_goesBy_209 : decode cX12_goesBy 209 = .ok (.iaload, 1) := by decide +kernel
theorem dX12_goesBy_210 : decode cX12_goesBy 210 = .ok (.putfield 135, 3) := by decide +kernel
theorem dX12_goesBy_213 : decode cX12_goesBy 213 = .ok (.return_, 1) := by decide +kernel
theorem dX12_accepts_0 : decode cX12_accepts 0 = .ok (.aload_n 0, 1) := by decide +kernel
theorem dX12_accepts_1 : decode cX12_accepts 1 = .ok (.getfield 135, 3) := by decide +kernel
theorem dX12_accepts_4 : decode cX12_accepts 4 = .ok (.iconst (-1), 1) := by decide +kernel
theorem dX12_accepts_5 : decode cX12_accepts 5 = .ok (.if_icmp .eq 24, 3) := by decide +kernel
theorem dX12_accepts_8 : decode cX12_accepts 8 = .ok (.aload_n 0, 1) := by decide +kernel
theorem dX12_accepts_9 : decode cX12_accepts 9 = .ok (.iload_n 1, 1) := by decide +kernel
theorem dX12_accepts_10 : decode cX12_accepts 10 = .ok (.iconst 3, 1) := by decide +kernel
theorem dX12_accepts_11 : decode cX12_accepts 11 = .ok (.invokevirtual 155, 3) := by decide +kernel
theorem dX12_accepts_14 : decode cX12_accepts 14 = .ok (.aload_n 0, 1) := by decide +kernel
theorem dX12_accepts_15 : decode cX12_accepts 15 = .ok (.getfield 135, 3) := by decide +kernel
theorem dX12_accepts_18 : decode cX12_accepts 18 = .ok (.ishr, 1) := by decide +kernel
theorem dX12_accepts_19 : decode cX12_accepts 19 = .ok (.iconst 1, 1) := by decide +kernel
theorem dX12_accepts_20 : decode cX12_accepts 20 = .ok (.iand, 1) := by decide +kernel
theorem dX12_accepts_21 : decode cX12_accepts 21 = .ok (.iconst 1, 1) := by decide +kernel
theorem dX12_accepts_22 : decode cX12_accepts 22 = .ok (.if_icmp .ne 7, 3) := by decide +kernel
theorem dX12_accepts_25 : decode cX12_accepts 25 = .ok (.iconst 1, 1) := by decide +kernel
theorem dX12_accepts_26 : decode cX12_accepts 26 = .ok (.goto 4, 3) := by decide +kernel
theorem dX12_accepts_29 : decode cX12_accepts 29 = .ok (.iconst 0, 1) := by decide +kernel
theorem dX12_accepts_30 : decode cX12_accepts 30 = .ok (.ireturn, 1) := by decide +kernel
theorem dX12_feed_0 : decode cX12_feed 0 = .ok (.aload_n 0, 1) := by decide +kernel
theorem dX12_feed_1 : decode cX12_feed 1 = .ok (.iconst 0, 1) := by decide +kernel
theorem dX12_feed_2 : decode cX12_feed 2 = .ok (.putfield 1, 3) := by decide +kernel
theorem dX12_feed_5 : decode cX12_feed 5 = .ok (.aload_n 0, 1) := by decide +kernel
theorem dX12_feed_6 : decode cX12_feed 6 = .ok (.getfield 159, 3) := by decide +kernel
theorem dX12_feed_9 : decode cX12_feed 9 = .ok (.bipush 20, 2) := by decide +kernel
theorem dX12_feed_11 : decode cX12_feed 11 = .ok (.iadd, 1) := by decide +kernel
theorem dX12_feed_12 : decode cX12_feed 12 = .ok (.sipush 500, 3) := by decide +kernel
theorem dX12_feed_15 : decode cX12_feed 15 = .ok (.if_icmp .le 6, 3) := by decide +kernel
theorem dX12_feed_18 : decode cX12_feed 18 = .ok (.bipush (-4), 2) := by decide +kernel
theorem dX12_feed_20 : decode cX12_feed 20 = .ok (.ireturn, 1) := by decide +kernel
theorem dX12_feed_21 : decode cX12_feed 21 = .ok (.iconst 0, 1) := by decide +kernel
theorem dX12_feed_22 : decode cX12_feed 22 = .ok (.istore 6, 2) := by decide +kernel
theorem dX12_feed_24 : decode cX12_feed 24 = .ok (.iload 6, 2) := by decide +kernel
theorem dX12_feed_26 : decode cX12_feed 26 = .ok (.bipush 20, 2) := by decide +kernel
theorem dX12_feed_28 : decode cX12_feed 28 = .ok (.if_icmp .ge 90, 3) := by decide +kernel
theorem dX12_feed_31 : decode cX12_feed 31 = .ok (.iload 6, 2) := by decide +kernel
theorem dX12_feed_33 : decode cX12_feed 33 = .ok (.iconst 4, 1) := by decide +kernel
theorem dX12_feed_34 : decode cX12_feed 34 = .ok (.if_icmp .ge 7, 3) := by decide +kernel
theorem dX12_feed_37 : decode cX12_feed 37 = .ok (.iload_n 1, 1) := by decide +kernel
theorem dX12_feed_38 : decode cX12_feed 38 = .ok (.goto 39, 3) := by decide +kernel
theorem dX12_feed_41 : decode cX12_feed 41 = .ok (.iload 6, 2) := by decide +kernel
theorem dX12_feed_43 : decode cX12_feed 43 = .ok (.bipush 8, 2) := by decide +kernel
theorem dX12_feed_45 : decode cX12_feed 45 = .ok (.if_icmp .ge 7, 3) := by decide +kernel
theorem dX12_feed_48 : decode cX12_feed 48 = .ok (.iload_n 2, 1) := by decide +kernel
theorem dX12_feed_49 : decode cX12_feed 49 = .ok (.goto 28, 3) := by decide +kernel
theorem dX12_feed_52 : decode cX12_feed 52 = .ok (.iload 6, 2) := by decide +kernel
theorem dX12_feed_54 : decode cX12_feed 54 = .ok (.bipush 12, 2) := by decide +kernel
theorem dX12_feed_56 : decode cX12_feed 56 = .ok (.if_icmp .ge 7, 3) := by decide +kernel
theorem dX12_feed_59 : decode cX12_feed 59 = .ok (.iload_n 3, 1) := by decide +kernel
theorem dX12_feed_60 : decode cX12_feed 60 = .ok (.goto 17, 3) := by decide +kernel
theorem dX12_feed_63 : decode cX12_feed 63 = .ok (.iload 6, 2) := by decide +kernel
theorem dX12_feed_65 : decode cX12_feed 65 = .ok (.bipush 16, 2) := by decide +kernel
theorem dX12_feed_67 : decode cX12_feed 67 = .ok (.if_icmp .ge 8, 3) := by decide +kernel
theorem dX12_feed_70 : decode cX12_feed 70 = .ok (.iload 4, 2) := by decide +kernel
theorem dX12_feed_72 : decode cX12_feed 72 = .ok (.goto 5, 3) := by decide +kernel
theorem dX12_feed_75 : decode cX12_feed 75 = .ok (.iload 5, 2) := by decide +kernel
theorem dX12_feed_77 : decode cX12_feed 77 = .ok (.istore 7, 2) := by decide +kernel
theorem dX12_feed_79 : decode cX12_feed 79 = .ok (.aload_n 0, 1) := by decide +kernel
theorem dX12_feed_80 : decode cX12_feed 80 = .ok (.getfield 20, 3) := by decide +kernel
theorem dX12_feed_83 : decode cX12_feed 83 = .ok (.aload_n 0, 1) := by decide +kernel
theorem dX12_feed_84 : decode cX12_feed 84 = .ok (.getfield 159, 3) := by decide +kernel
theorem dX12_feed_87 : decode cX12_feed 87 = .ok (.iload 7, 2) := by decide +kernel
theorem dX12_feed_89 : decode cX12_feed 89 = .ok (.bipush 24, 2) := by decide +kernel
theorem dX12_feed_91 : decode cX12_feed 91 = .ok (.bipush 8, 2) := by decide +kernel
theorem dX12_feed_93 : decode cX12_feed 93 = .ok (.iload 6, 2) := by decide +kernel
theorem dX12_feed_95 : decode cX12_feed 95 = .ok (.iconst 4, 1) := by decide +kernel
theorem dX12_feed_96 : decode cX12_feed 96 = .ok (.irem, 1) := by decide +kernel
theorem dX12_feed_97 : decode cX12_feed 97 = .ok (.imul, 1) := by decide +kernel
theorem dX12_feed_98 : decode cX12_feed 98 = .ok (.isub, 1) := by decide +kernel
theorem dX12_feed_99 : decode cX12_feed 99 = .ok (.ishr, 1) := by decide +kernel
theorem dX12_feed_100 : decode cX12_feed 100 = .ok (.i2b, 1) := by decide +kernel
theorem dX12_feed_101 : decode cX12_feed 101 = .ok (.bastore, 1) := by decide +kernel
theorem dX12_feed_102 : decode cX12_feed 102 = .ok (.aload_n 0, 1) := by decide +kernel
theorem dX12_feed_103 : decode cX12_feed 103 = .ok (.dup, 1) := by decide +kernel
theorem dX12_feed_104 : decode cX12_feed 104 = .ok (.getfield 159, 3) := by decide +kernel
theorem dX12_feed_107 : decode cX12_feed 107 = .ok (.iconst 1, 1) := by decide +kernel
theorem dX12_feed_108 : decode cX12_feed 108 = .ok (.iadd, 1) := by decide +kernel
theorem dX12_feed_109 : decode cX12_feed 109 = .ok (.putfield 159, 3) := by decide +kernel
theorem dX12_feed_112 : decode cX12_feed 112 = .ok (.iinc 6 1, 3) := by decide +kernel
theorem dX12_feed_115 : decode cX12_feed 115 = .ok (.goto (-91), 3) := by decide +kernel
theorem dX12_feed_118 : decode cX12_feed 118 = .ok (.aload_n 0, 1) := by decide +kernel
theorem dX12_feed_119 : decode cX12_feed 119 = .ok (.getfield 159, 3) := by decide +kernel
theorem dX12_feed_122 : decode cX12_feed 122 = .ok (.ireturn, 1) := by decide +kernel
theorem dX12_peek_0 : decode cX12_peek 0 = .ok (.aload_n 0, 1) := by decide +kernel
theorem dX12_peek_1 : decode cX12_peek 1 = .ok (.getfield 162, 3) := by decide +kernel
theorem dX12_peek_4 : decode cX12_peek 4 = .ok (.aload_n 0, 1) := by decide +kernel
theorem dX12_peek_5 : decode cX12_peek 5 = .ok (.getfield 165, 3) := by decide +kernel
theorem dX12_peek_8 : decode cX12_peek 8 = .ok (.if_icmp .ge 19, 3) := by decide +kernel
theorem dX12_peek_11 : decode cX12_peek 11 = .ok (.aload_n 0, 1) := by decide +kernel
theorem dX12_peek_12 : decode cX12_peek 12 = .ok (.getfield 20, 3) := by decide +kernel
theorem dX12_peek_15 : decode cX12_peek 15 = .ok (.aload_n 0, 1) := by decide +kernel
theorem dX12_peek_16 : decode cX12_peek 16 = .ok (.getfield 162, 3) := by decide +kernel
theorem dX12_peek_19 : decode cX12_peek 19 = .ok (.baload, 1) := by decide +kernel
theorem dX12_peek_20 : decode cX12_peek 20 = .ok (.sipush 255, 3) := by decide +kernel
theorem dX12_peek_23 : decode cX12_peek 23 = .ok (.iand, 1) := by decide +kernel
theorem dX12_peek_24 : decode cX12_peek 24 = .ok (.goto 4, 3) := by decide +kernel
theorem dX12_peek_27 : decode cX12_peek 27 = .ok (.iconst (-1), 1) := by decide +kernel
theorem dX12_peek_28 : decode cX12_peek 28 = .ok (.ireturn, 1) := by decide +kernel
theorem dX12_fails_0 : decode cX12_fails 0 = .ok (.aload_n 0, 1) := by decide +kernel
theorem dX12_fails_1 : decode cX12_fails 1 = .ok (.getfield 168, 3) := by decide +kernel
theorem dX12_fails_4 : decode cX12_fails 4 = .ok (.ifCond .eq 4, 3) := by decide +kernel
theorem dX12_fails_7 : decode cX12_fails 7 = .ok (.return_, 1) := by decide +kernel
theorem dX12_fails_8 : decode cX12_fails 8 = .ok (.aload_n 0, 1) := by decide +kernel
theorem dX12_fails_9 : decode cX12_fails 9 = .ok (.iload_n 1, 1) := by decide +kernel
theorem dX12_fails_10 : decode cX12_fails 10 = .ok (.putfield 168, 3) := by decide +kernel
theorem dX12_fails_13 : decode cX12_fails 13 = .ok (.aload_n 0, 1) := by decide +kernel
theorem dX12_fails_14 : decode cX12_fails 14 = .ok (.iload_n 2, 1) := by decide +kernel
theorem dX12_fails_15 : decode cX12_fails 15 = .ok (.putfield 24, 3) := by decide +kernel
theorem dX12_fails_18 : decode cX12_fails 18 = .ok (.return_, 1) := by decide +kernel
theorem dX12_blanks_0 : decode cX12_blanks 0 = .ok (.aload_n 0, 1) := by decide +kernel
theorem dX12_blanks_1 : decode cX12_blanks 1 = .ok (.invokevirtual 171, 3) := by decide +kernel
theorem dX12_blanks_4 : decode cX12_blanks 4 = .ok (.bipush 32, 2) := by decide +kernel
theorem dX12_blanks_6 : decode cX12_blanks 6 = .ok (.if_icmp .ne 16, 3) := by decide +kernel
theorem dX12_blanks_9 : decode cX12_blanks 9 = .ok (.aload_n 0, 1) := by decide +kernel
theorem dX12_blanks_10 : decode cX12_blanks 10 = .ok (.dup, 1) := by decide +kernel
theorem dX12_blanks_11 : decode cX12_blanks 11 = .ok (.getfield 162, 3) := by decide +kernel
theorem dX12_blanks_14 : decode cX12_blanks 14 = .ok (.iconst 1, 1) := by decide +kernel
theorem dX12_blanks_15 : decode cX12_blanks 15 = .ok (.iadd, 1) := by decide +kernel
theorem dX12_blanks_16 : decode cX12_blanks 16 = .ok (.putfield 162, 3) := by decide +kernel
theorem dX12_blanks_19 : decode cX12_blanks 19 = .ok (.goto (-19), 3) := by decide +kernel
theorem dX12_blanks_22 : decode cX12_blanks 22 = .ok (.return_, 1) := by decide +kernel
theorem dX12_isOver_0 : decode cX12_isOver 0 = .ok (.aload_n 0, 1) := by decide +kernel
theorem dX12_isOver_1 : decode cX12_isOver 1 = .ok (.invokevirtual 175, 3) := by decide +kernel
theorem dX12_isOver_4 : decode cX12_isOver 4 = .ok (.aload_n 0, 1) := by decide +kernel
theorem dX12_isOver_5 : decode cX12_isOver 5 = .ok (.getfield 168, 3) := by decide +kernel
theorem dX12_isOver_8 : decode cX12_isOver 8 = .ok (.ifCond .ne 11, 3) := by decide +kernel
theorem dX12_isOver_11 : decode cX12_isOver 11 = .ok (.aload_n 0, 1) := by decide +kernel
theorem dX12_isOver_12 : decode cX12_isOver 12 = .ok (.invokevirtual 171, 3) := by decide +kernel
theorem dX12_isOver_15 : decode cX12_isOver 15 = .ok (.iconst (-1), 1) := by decide +kernel
theorem dX12_isOver_16 : decode cX12_isOver 16 = .ok (.if_icmp .ne 7, 3) := by decide +kernel
theorem dX12_isOver_19 : decode cX12_isOver 19 = .ok (.iconst 1, 1) := by decide +kernel
theorem dX12_isOver_20 : decode cX12_isOver 20 = .ok (.goto 4, 3) := by decide +kernel
theorem dX12_isOver_23 : decode cX12_isOver 23 = .ok (.iconst 0, 1) := by decide +kernel
theorem dX12_isOver_24 : decode cX12_isOver 24 = .ok (.ireturn, 1) := by decide +kernel
theorem dX12_wordNext_0 : decode cX12_wordNext 0 = .ok (.aload_n 0, 1) := by decide +kernel
theorem dX12_wordNext_1 : decode cX12_wordNext 1 = .ok (.invokevirtual 175, 3) := by decide +kernel
theorem dX12_wordNext_4 : decode cX12_wordNext 4 = .ok (.aload_n 0, 1) := by decide +kernel
theorem dX12_wordNext_5 : decode cX12_wordNext 5 = .ok (.getfield 162, 3) := by decide +kernel
theorem dX12_wordNext_8 : decode cX12_wordNext 8 = .ok (.istore_n 1, 1) := by decide +kernel
theorem dX12_wordNext_9 : decode cX12_wordNext 9 = .ok (.iload_n 1, 1) := by decide +kernel
theorem dX12_wordNext_10 : decode cX12_wordNext 10 = .ok (.aload_n 0, 1) := by decide +kernel
theorem dX12_wordNext_11 : decode cX12_wordNext 11 = .ok (.getfield 165, 3) := by decide +kernel
theorem dX12_wordNext_14 : decode cX12_wordNext 14 = .ok (.if_icmp .ge 28, 3) := by decide +kernel
theorem dX12_wordNext_17 : decode cX12_wordNext 17 = .ok (.aload_n 0, 1) := by decide +kernel
theorem dX12_wordNext_18 : decode cX12_wordNext 18 = .ok (.getfield 20, 3) := by decide +kernel
theorem dX12_wordNext_21 : decode cX12_wordNext 21 = .ok (.iload_n 1, 1) := by decide +kernel
theorem dX12_wordNext_22 : decode cX12_wordNext 22 = .ok (.baload, 1) := by decide +kernel
theorem dX12_wordNext_23 : decode cX12_wordNext 23 = .ok (.i2l, 1) := by decide +kernel
theorem dX12_wordNext_24 : decode cX12_wordNext 24 = .ok (.ldc2_w 178, 3) := by decide +kernel
theorem dX12_wordNext_27 : decode cX12_wordNext 27 = .ok (.ldc2_w 180, 3) := by decide +kernel
theorem dX12_wordNext_30 : decode cX12_wordNext 30 = .ok (.invokestatic 182, 3) := by decide +kernel
theorem dX12_wordNext_33 : decode cX12_wordNext 33 = .ok (.ifCond .eq 9, 3) := by decide +kernel
theorem dX12_wordNext_36 : decode cX12_wordNext 36 = .ok (.iinc 1 1, 3) := by decide +kernel
theorem dX12_wordNext_39 : decode cX12_wordNext 39 = .ok (.goto (-30), 3) := by decide +kernel
theorem dX12_wordNext_42 : decode cX12_wordNext 42 = .ok (.iconst 0, 1) := by decide +kernel
theorem dX12_wordNext_43 : decode cX12_wordNext 43 = .ok (.istore_n 2, 1) := by decide +kernel
theorem dX12_wordNext_44 : decode cX12_wordNext 44 = .ok (.iconst 0, 1) := by decide +kernel
theorem dX12_wordNext_45 : decode cX12_wordNext 45 = .ok (.istore_n 3, 1) := by decide +kernel
theorem dX12_wordNext_46 : decode cX12_wordNext 46 = .ok (.iload_n 3, 1) := by decide +kernel
theorem dX12_wordNext_47 : decode cX12_wordNext 47 = .ok (.ldc 186, 2) := by decide +kernel
theorem dX12_wordNext_49 : decode cX12_wordNext 49 = .ok (.invokevirtual 188, 3) := by decide +kernel
theorem dX12_wordNext_52 : decode cX12_wordNext 52 = .ok (.if_icmp .ge 116, 3) := by decide +kernel
theorem dX12_wordNext_55 : decode cX12_wordNext 55 = .ok (.iconst 0, 1) := by decide +kernel
theorem dX12_wordNext_56 : decode cX12_wordNext 56 = .ok (.istore 4, 2) := by decide +kernel
theorem dX12_wordNext_58 : decode cX12_wordNext 58 = .ok (.ldc 186, 2) := by decide +kernel
theorem dX12_wordNext_60 : decode cX12_wordNext 60 = .ok (.iload_n 3, 1) := by decide +kernel
theorem dX12_wordNext_61 : decode cX12_wordNext 61 = .ok (.iload 4, 2) := by decide +kernel
theorem dX12_wordNext_63 : decode cX12_wordNext 63 = .ok (.iadd, 1) := by decide +kernel
theorem dX12_wordNext_64 : decode cX12_wordNext 64 = .ok (.invokevirtual 193, 3) := by decide +kernel
theorem dX12_wordNext_67 : decode cX12_wordNext 67 = .ok (.bipush 32, 2) := by decide +kernel
theorem dX12_wordNext_69 : decode cX12_wordNext 69 = .ok (.if_icmp .eq 9, 3) := by decide +kernel
theorem dX12_wordNext_72 : decode cX12_wordNext 72 = .ok (.iinc 4 1, 3) := by decide +kernel
theorem dX12_wordNext_75 : decode cX12_wordNext 75 = .ok (.goto (-17), 3) := by decide +kernel
theorem dX12_wordNext_78 : decode cX12_wordNext 78 = .ok (.iload 4, 2) := by decide +kernel
theorem dX12_wordNext_80 : decode cX12_wordNext 80 = .ok (.iload_n 1, 1) := by decide +kernel
theorem dX12_wordNext_81 : decode cX12_wordNext 81 = .ok (.aload_n 0, 1) := by decide +kernel
theorem dX12_wordNext_82 : decode cX12_wordNext 82 = .ok (.getfield 162, 3) := by decide +kernel
theorem dX12_wordNext_85 : decode cX12_wordNext 85 = .ok (.isub, 1) := by decide +kernel
theorem dX12_wordNext_86 : decode cX12_wordNext 86 = .ok (.if_icmp .ne 7, 3) := by decide +kernel
theorem dX12_wordNext_89 : decode cX12_wordNext 89 = .ok (.iconst 1, 1) := by decide +kernel
theorem dX12_wordNext_90 : decode cX12_wordNext 90 = .ok (.goto 4, 3) := by decide +kernel
theorem dX12_wordNext_93 : decode cX12_wordNext 93 = .ok (.iconst 0, 1) := by decide +kernel
theorem dX12_wordNext_94 : decode cX12_wordNext 94 = .ok (.istore 5, 2) := by decide +kernel
theorem dX12_wordNext_96 : decode cX12_wordNext 96 = .ok (.iconst 0, 1) := by decide +kernel
theorem dX12_wordNext_97 : decode cX12_wordNext 97 = .ok (.istore 6, 2) := by decide +kernel
theorem dX12_wordNext_99 : decode cX12_wordNext 99 = .ok (.iload 6, 2) := by decide +kernel
theorem dX12_wordNext_101 : decode cX12_wordNext 101 = .ok (.iload 4, 2) := by decide +kernel
theorem dX12_wordNext_103 : decode cX12_wordNext 103 = .ok (.if_icmp .ge 45, 3) := by decide +kernel
theorem dX12_wordNext_106 : decode cX12_wordNext 106 = .ok (.iload 5, 2) := by decide +kernel
theorem dX12_wordNext_108 : decode cX12_wordNext 108 = .ok (.ifCond .eq 40, 3) := by decide +kernel
theorem dX12_wordNext_111 : decode cX12_wordNext 111 = .ok (.aload_n 0, 1) := by decide +kernel
theorem dX12_wordNext_112 : decode cX12_wordNext 112 = .ok (.getfield 20, 3) := by decide +kernel
theorem dX12_wordNext_115 : decode cX12_wordNext 115 = .ok (.aload_n 0, 1) := by decide +kernel
theorem dX12_wordNext_116 : decode cX12_wordNext 116 = .ok (.getfield 162, 3) := by decide +kernel
theorem dX12_wordNext_119 : decode cX12_wordNext 119 = .ok (.iload 6, 2) := by decide +kernel
theorem dX12_wordNext_121 : decode cX12_wordNext 121 = .ok (.iadd, 1) := by decide +kernel
theorem dX12_wordNext_122 : decode cX12_wordNext 122 = .ok (.baload, 1) := by decide +kernel
theorem dX12_wordNext_123 : decode cX12_wordNext 123 = .ok (.ldc 186, 2) := by decide +kernel
theorem dX12_wordNext_125 : decode cX12_wordNext 125 = .ok (.iload_n 3, 1) := by decide +kernel
theorem dX12_wordNext_126 : decode cX12_wordNext 126 = .ok (.iload 6, 2) := by decide +kernel
theorem dX12_wordNext_128 : decode cX12_wordNext 128 = .ok (.iadd, 1) := by decide +kernel
theorem dX12_wordNext_129 : decode cX12_wordNext 129 = .ok (.invokevirtual 193, 3) := by decide +kernel
theorem dX12_wordNext_132 : decode cX12_wordNext 132 = .ok (.if_icmp .ne 7, 3) := by decide +kernel
theorem dX12_wordNext_135 : decode cX12_wordNext 135 = .ok (.iconst 1, 1) := by decide +kernel
theorem dX12_wordNext_136 : decode cX12_wordNext 136 = .ok (.goto 4, 3) := by decide +kernel
theorem dX12_wordNext_139 : decode cX12_wordNext 139 = .ok (.iconst 0, 1) := by decide +kernel
theorem dX12_wordNext_140 : decode cX12_wordNext 140 = .ok (.istore 5, 2) := by decide +kernel
theorem dX12_wordNext_142 : decode cX12_wordNext 142 = .ok (.iinc 6 1, 3) := by decide +kernel
theorem dX12_wordNext_145 : decode cX12_wordNext 145 = .ok (.goto (-46), 3) := by decide +kernel
theorem dX12_wordNext_148 : decode cX12_wordNext 148 = .ok (.iload 5, 2) := by decide +kernel
theorem dX12_wordNext_150 : decode cX12_wordNext 150 = .ok (.ifCond .eq 5, 3) := by decide +kernel
theorem dX12_wordNext_153 : decode cX12_wordNext 153 = .ok (.iload_n 2, 1) := by decide +kernel
theorem dX12_wordNext_154 : decode cX12_wordNext 154 = .ok (.ireturn, 1) := by decide +kernel
theorem dX12_wordNext_155 : decode cX12_wordNext 155 = .ok (.iload_n 3, 1) := by decide +kernel
theorem dX12_wordNext_156 : decode cX12_wordNext 156 = .ok (.iload 4, 2) := by decide +kernel
theorem dX12_wordNext_158 : decode cX12_wordNext 158 = .ok (.iconst 1, 1) := by decide +kernel
theorem dX12_wordNext_159 : decode cX12_wordNext 159 = .ok (.iadd, 1) := by decide +kernel
theorem dX12_wordNext_160 : decode cX12_wordNext 160 = .ok (.iadd, 1) := by decide +kernel
theorem dX12_wordNext_161 : decode cX12_wordNext 161 = .ok (.istore_n 3, 1) := by decide +kernel
theorem dX12_wordNext_162 : decode cX12_wordNext 162 = .ok (.iinc 2 1, 3) := by decide +kernel
theorem dX12_wordNext_165 : decode cX12_wordNext 165 = .ok (.goto (-119), 3) := by decide +kernel
theorem dX12_wordNext_168 : decode cX12_wordNext 168 = .ok (.iconst (-1), 1) := by decide +kernel
theorem dX12_wordNext_169 : decode cX12_wordNext 169 = .ok (.ireturn, 1) := by decide +kernel
theorem dX12_takes_0 : decode cX12_takes 0 = .ok (.aload_n 0, 1) := by decide +kernel
theorem dX12_takes_1 : decode cX12_takes 1 = .ok (.getfield 168, 3) := by decide +kernel
theorem dX12_takes_4 : decode cX12_takes 4 = .ok (.ifCond .ne 11, 3) := by decide +kernel
theorem dX12_takes_7 : decode cX12_takes 7 = .ok (.aload_n 0, 1) := by decide +kernel
theorem dX12_takes_8 : decode cX12_takes 8 = .ok (.invokevirtual 197, 3) := by decide +kernel
theorem dX12_takes_11 : decode cX12_takes 11 = .ok (.iload_n 1, 1) := by decide +kernel
theorem dX12_takes_12 : decode cX12_takes 12 = .ok (.if_icmp .eq 5, 3) := by decide +kernel
theorem dX12_takes_15 : decode cX12_takes 15 = .ok (.iconst 0, 1) := by decide +kernel
theorem dX12_takes_16 : decode cX12_takes 16 = .ok (.ireturn, 1) := by decide +kernel
theorem dX12_takes_17 : decode cX12_takes 17 = .ok (.aload_n 0, 1) := by decide +kernel
theorem dX12_takes_18 : decode cX12_takes 18 = .ok (.getfield 162, 3) := by decide +kernel
theorem dX12_takes_21 : decode cX12_takes 21 = .ok (.aload_n 0, 1) := by decide +kernel
theorem dX12_takes_22 : decode cX12_takes 22 = .ok (.getfield 165, 3) := by decide +kernel
theorem dX12_takes_25 : decode cX12_takes 25 = .ok (.if_icmp .ge 38, 3) := by decide +kernel
theorem dX12_takes_28 : decode cX12_takes 28 = .ok (.aload_n 0, 1) := by decide +kernel
theorem dX12_takes_29 : decode cX12_takes 29 = .ok (.getfield 20, 3) := by decide +kernel
theorem dX12_takes_32 : decode cX12_takes 32 = .ok (.aload_n 0, 1) := by decide +kernel
theorem dX12_takes_33 : decode cX12_takes 33 = .ok (.getfield 162, 3) := by decide +kernel
theorem dX12_takes_36 : decode cX12_takes 36 = .ok (.baload, 1) := by decide +kernel
theorem dX12_takes_37 : decode cX12_takes 37 = .ok (.i2l, 1) := by decide +kernel
theorem dX12_takes_38 : decode cX12_takes 38 = .ok (.ldc2_w 178, 3) := by decide +kernel
theorem dX12_takes_41 : decode cX12_takes 41 = .ok (.ldc2_w 180, 3) := by decide +kernel
theorem dX12_takes_44 : decode cX12_takes 44 = .ok (.invokestatic 182, 3) := by decide +kernel
theorem dX12_takes_47 : decode cX12_takes 47 = .ok (.ifCond .eq 16, 3) := by decide +kernel
theorem dX12_takes_50 : decode cX12_takes 50 = .ok (.aload_n 0, 1) := by decide +kernel
theorem dX12_takes_51 : decode cX12_takes 51 = .ok (.dup, 1) := by decide +kernel
theorem dX12_takes_52 : decode cX12_takes 52 = .ok (.getfield 162, 3) := by decide +kernel
theorem dX12_takes_55 : decode cX12_takes 55 = .ok (.iconst 1, 1) := by decide +kernel
theorem dX12_takes_56 : decode cX12_takes 56 = .ok (.iadd, 1) := by decide +kernel
theorem dX12_takes_57 : decode cX12_takes 57 = .ok (.putfield 162, 3) := by decide +kernel
theorem dX12_takes_60 : decode cX12_takes 60 = .ok (.goto (-43), 3) := by decide +kernel
theorem dX12_takes_63 : decode cX12_takes 63 = .ok (.iconst 1, 1) := by decide +kernel
theorem dX12_takes_64 : decode cX12_takes 64 = .ok (.ireturn, 1) := by decide +kernel
theorem dX12_must_0 : decode cX12_must 0 = .ok (.aload_n 0, 1) := by decide +kernel
theorem dX12_must_1 : decode cX12_must 1 = .ok (.getfield 168, 3) := by decide +kernel
theorem dX12_must_4 : decode cX12_must 4 = .ok (.ifCond .ne 20, 3) := by decide +kernel
theorem dX12_must_7 : decode cX12_must 7 = .ok (.aload_n 0, 1) := by decide +kernel
theorem dX12_must_8 : decode cX12_must 8 = .ok (.iload_n 1, 1) := by decide +kernel
theorem dX12_must_9 : decode cX12_must 9 = .ok (.invokevirtual 200, 3) := by decide +kernel
theorem dX12_must_12 : decode cX12_must 12 = .ok (.ifCond .ne 12, 3) := by decide +kernel
theorem dX12_must_15 : decode cX12_must 15 = .ok (.aload_n 0, 1) := by decide +kernel
theorem dX12_must_16 : decode cX12_must 16 = .ok (.iconst 1, 1) := by decide +kernel
theorem dX12_must_17 : decode cX12_must 17 = .ok (.aload_n 0, 1) := by decide +kernel
theorem dX12_must_18 : decode cX12_must 18 = .ok (.getfield 162, 3) := by decide +kernel
theorem dX12_must_21 : decode cX12_must 21 = .ok (.invokevirtual 204, 3) := by decide +kernel
theorem dX12_must_24 : decode cX12_must 24 = .ok (.return_, 1) := by decide +kernel
theorem dX12_number_0 : decode cX12_number 0 = .ok (.aload_n 0, 1) := by decide +kernel
theorem dX12_number_1 : decode cX12_number 1 = .ok (.getfield 168, 3) := by decide +kernel
theorem dX12_number_4 : decode cX12_number 4 = .ok (.ifCond .eq 5, 3) := by decide +kernel
theorem dX12_number_7 : decode cX12_number 7 = .ok (.iload_n 1, 1) := by decide +kernel
theorem dX12_number_8 : decode cX12_number 8 = .ok (.ireturn, 1) := by decide +kernel
theorem dX12_number_9 : decode cX12_number 9 = .ok (.aload_n 0, 1) := by decide +kernel
theorem dX12_number_10 : decode cX12_number 10 = .ok (.invokevirtual 175, 3) := by decide +kernel
theorem dX12_number_13 : decode cX12_number 13 = .ok (.aload_n 0, 1) := by decide +kernel
theorem dX12_number_14 : decode cX12_number 14 = .ok (.getfield 162, 3) := by decide +kernel
theorem dX12_number_17 : decode cX12_number 17 = .ok (.istore_n 3, 1) := by decide +kernel
theorem dX12_number_18 : decode cX12_number 18 = .ok (.iconst 0, 1) := by decide +kernel
theorem dX12_number_19 : decode cX12_number 19 = .ok (.istore 4, 2) := by decide +kernel
theorem dX12_number_21 : decode cX12_number 21 = .ok (.aload_n 0, 1) := by decide +kernel
theorem dX12_number_22 : decode cX12_number 22 = .ok (.invokevirtual 171, 3) := by decide +kernel
theorem dX12_number_25 : decode cX12_number 25 = .ok (.i2l, 1) := by decide +kernel
theorem dX12_number_26 : decode cX12_number 26 = .ok (.ldc2_w 208, 3) := by decide +kernel
theorem dX12_number_29 : decode cX12_number 29 = .ok (.ldc2_w 210, 3) := by decide +kernel
theorem dX12_number_32 : decode cX12_number 32 = .ok (.invokestatic 182, 3) := by decide +kernel
theorem dX12_number_35 : decode cX12_number 35 = .ok (.ifCond .eq 41, 3) := by decide +kernel
theorem dX12_number_38 : decode cX12_number 38 = .ok (.aload_n 0, 1) := by decide +kernel
theorem dX12_number_39 : decode cX12_number 39 = .ok (.getfield 162, 3) := by decide +kernel
theorem dX12_number_42 : decode cX12_number 42 = .ok (.iload_n 3, 1) := by decide +kernel
theorem dX12_number_43 : decode cX12_number 43 = .ok (.isub, 1) := by decide +kernel
theorem dX12_number_44 : decode cX12_number 44 = .ok (.iconst 2, 1) := by decide +kernel
theorem dX12_number_45 : decode cX12_number 45 = .ok (.if_icmp .ge 18, 3) := by decide +kernel
theorem dX12_number_48 : decode cX12_number 48 = .ok (.bipush 10, 2) := by decide +kernel
theorem dX12_number_50 : decode cX12_number 50 = .ok (.iload 4, 2) := by decide +kernel
theorem dX12_number_52 : decode cX12_number 52 = .ok (.imul, 1) := by decide +kernel
theorem dX12_number_53 : decode cX12_number 53 = .ok (.aload_n 0, 1) := by decide +kernel
theorem dX12_number_54 : decode cX12_number 54 = .ok (.invokevirtual 171, 3) := by decide +kernel
theorem dX12_number_57 : decode cX12_number 57 = .ok (.iadd, 1) := by decide +kernel
theorem dX12_number_58 : decode cX12_number 58 = .ok (.bipush 48, 2) := by decide +kernel
theorem dX12_number_60 : decode cX12_number 60 = .ok (.isub, 1) := by decide +kernel
theorem dX12_number_61 : decode cX12_number 61 = .ok (.istore 4, 2) := by decide +kernel
theorem dX12_number_63 : decode cX12_number 63 = .ok (.aload_n 0, 1) := by decide +kernel
theorem dX12_number_64 : decode cX12_number 64 = .ok (.dup, 1) := by decide +kernel
theorem dX12_number_65 : decode cX12_number 65 = .ok (.getfield 162, 3) := by decide +kernel
theorem dX12_number_68 : decode cX12_number 68 = .ok (.iconst 1, 1) := by decide +kernel
theorem dX12_number_69 : decode cX12_number 69 = .ok (.iadd, 1) := by decide +kernel
theorem dX12_number_70 : decode cX12_number 70 = .ok (.putfield 162, 3) := by decide +kernel
theorem dX12_number_73 : decode cX12_number 73 = .ok (.goto (-52), 3) := by decide +kernel
theorem dX12_number_76 : decode cX12_number 76 = .ok (.aload_n 0, 1) := by decide +kernel
theorem dX12_number_77 : decode cX12_number 77 = .ok (.getfield 162, 3) := by decide +kernel
theorem dX12_number_80 : decode cX12_number 80 = .ok (.iload_n 3, 1) := by decide +kernel
theorem dX12_number_81 : decode cX12_number 81 = .ok (.if_icmp .ne 12, 3) := by decide +kernel
theorem dX12_number_84 : decode cX12_number 84 = .ok (.aload_n 0, 1) := by decide +kernel
theorem dX12_number_85 : decode cX12_number 85 = .ok (.iconst 1, 1) := by decide +kernel
theorem dX12_number_86 : decode cX12_number 86 = .ok (.iload_n 3, 1) := by decide +kernel
theorem dX12_number_87 : decode cX12_number 87 = .ok (.invokevirtual 204, 3) := by decide +kernel
theorem dX12_number_90 : decode cX12_number 90 = .ok (.goto 31, 3) := by decide +kernel
theorem dX12_number_93 : decode cX12_number 93 = .ok (.aload_n 0, 1) := by decide +kernel
theorem dX12_number_94 : decode cX12_number 94 = .ok (.getfield 162, 3) := by decide +kernel
theorem dX12_number_97 : decode cX12_number 97 = .ok (.iload_n 3, 1) := by decide +kernel
theorem dX12_number_98 : decode cX12_number 98 = .ok (.isub, 1) := by decide +kernel
theorem dX12_number_99 : decode cX12_number 99 = .ok (.iconst 2, 1) := by decide +kernel
theorem dX12_number_100 : decode cX12_number 100 = .ok (.if_icmp .gt 15, 3) := by decide +kernel
theorem dX12_number_103 : decode cX12_number 103 = .ok (.iload 4, 2) := by decide +kernel
theorem dX12_number_105 : decode cX12_number 105 = .ok (.iload_n 1, 1) := by decide +kernel
theorem dX12_number_106 : decode cX12_number 106 = .ok (.if_icmp .lt 9, 3) := by decide +kernel
theorem dX12_number_109 : decode cX12_number 109 = .ok (.iload 4, 2) := by decide +kernel
theorem dX12_number_111 : decode cX12_number 111 = .ok (.iload_n 2, 1) := by decide +kernel
theorem dX12_number_112 : decode cX12_number 112 = .ok (.if_icmp .le 9, 3) := by decide +kernel
theorem dX12_number_115 : decode cX12_number 115 = .ok (.aload_n 0, 1) := by decide +kernel
theorem dX12_number_116 : decode cX12_number 116 = .ok (.iconst 2, 1) := by decide +kernel
theorem dX12_number_117 : decode cX12_number 117 = .ok (.iload_n 3, 1) := by decide +kernel
theorem dX12_number_118 : decode cX12_number 118 = .ok (.invokevirtual 204, 3) := by decide +kernel
theorem dX12_number_121 : decode cX12_number 121 = .ok (.iload 4, 2) := by decide +kernel
theorem dX12_number_123 : decode cX12_number 123 = .ok (.ireturn, 1) := by decide +kernel
theorem dX12_symbol_0 : decode cX12_symbol 0 = .ok (.aload_n 0, 1) := by decide +kernel
theorem dX12_symbol_1 : decode cX12_symbol 1 = .ok (.bipush 10, 2) := by decide +kernel
theorem dX12_symbol_3 : decode cX12_symbol 3 = .ok (.invokevirtual 200, 3) := by decide +kernel
theorem dX12_symbol_6 : decode cX12_symbol 6 = .ok (.ifCond .eq 5, 3) := by decide +kernel
theorem dX12_symbol_9 : decode cX12_symbol 9 = .ok (.iconst 0, 1) := by decide +kernel
theorem dX12_symbol_10 : decode cX12_symbol 10 = .ok (.ireturn, 1) := by decide +kernel
theorem dX12_symbol_11 : decode cX12_symbol 11 = .ok (.iload_n 1, 1) := by decide +kernel
theorem dX12_symbol_12 : decode cX12_symbol 12 = .ok (.iconst 1, 1) := by decide +kernel
theorem dX12_symbol_13 : decode cX12_symbol 13 = .ok (.if_icmp .le 14, 3) := by decide +kernel
theorem dX12_symbol_16 : decode cX12_symbol 16 = .ok (.aload_n 0, 1) := by decide +kernel
theorem dX12_symbol_17 : decode cX12_symbol 17 = .ok (.bipush 11, 2) := by decide +kernel
theorem dX12_symbol_19 : decode cX12_symbol 19 = .ok (.invokevirtual 200, 3) := by decide +kernel
theorem dX12_symbol_22 : decode cX12_symbol 22 = .ok (.ifCond .eq 5, 3) := by decide +kernel
theorem dX12_symbol_25 : decode cX12_symbol 25 = .ok (.iconst 1, 1) := by decide +kernel
theorem dX12_symbol_26 : decode cX12_symbol 26 = .ok (.ireturn, 1) := by decide +kernel
theorem dX12_symbol_27 : decode cX12_symbol 27 = .ok (.aload_n 0, 1) := by decide +kernel
theorem dX12_symbol_28 : decode cX12_symbol 28 = .ok (.invokevirtual 175, 3) := by decide +kernel
theorem dX12_symbol_31 : decode cX12_symbol 31 = .ok (.aload_n 0, 1) := by decide +kernel
theorem dX12_symbol_32 : decode cX12_symbol 32 = .ok (.iconst 1, 1) := by decide +kernel
theorem dX12_symbol_33 : decode cX12_symbol 33 = .ok (.aload_n 0, 1) := by decide +kernel
theorem dX12_symbol_34 : decode cX12_symbol 34 = .ok (.getfield 162, 3) := by decide +kernel
theorem dX12_symbol_37 : decode cX12_symbol 37 = .ok (.invokevirtual 204, 3) := by decide +kernel
theorem dX12_symbol_40 : decode cX12_symbol 40 = .ok (.iconst 0, 1) := by decide +kernel
theorem dX12_symbol_41 : decode cX12_symbol 41 = .ok (.ireturn, 1) := by decide +kernel
theorem dX12_ends_0 : decode cX12_ends 0 = .ok (.aload_n 0, 1) := by decide +kernel
theorem dX12_ends_1 : decode cX12_ends 1 = .ok (.invokevirtual 175, 3) := by decide +kernel
theorem dX12_ends_4 : decode cX12_ends 4 = .ok (.aload_n 0, 1) := by decide +kernel
theorem dX12_ends_5 : decode cX12_ends 5 = .ok (.getfield 168, 3) := by decide +kernel
theorem dX12_ends_8 : decode cX12_ends 8 = .ok (.ifCond .ne 21, 3) := by decide +kernel
theorem dX12_ends_11 : decode cX12_ends 11 = .ok (.aload_n 0, 1) := by decide +kernel
theorem dX12_ends_12 : decode cX12_ends 12 = .ok (.invokevirtual 171, 3) := by decide +kernel
theorem dX12_ends_15 : decode cX12_ends 15 = .ok (.bipush 59, 2) := by decide +kernel
theorem dX12_ends_17 : decode cX12_ends 17 = .ok (.if_icmp .eq 12, 3) := by decide +kernel
theorem dX12_ends_20 : decode cX12_ends 20 = .ok (.aload_n 0, 1) := by decide +kernel
theorem dX12_ends_21 : decode cX12_ends 21 = .ok (.iconst 1, 1) := by decide +kernel
theorem dX12_ends_22 : decode cX12_ends 22 = .ok (.aload_n 0, 1) := by decide +kernel
theorem dX12_ends_23 : decode cX12_ends 23 = .ok (.getfield 162, 3) := by decide +kernel
theorem dX12_ends_26 : decode cX12_ends 26 = .ok (.invokevirtual 204, 3) := by decide +kernel
theorem dX12_ends_29 : decode cX12_ends 29 = .ok (.aload_n 0, 1) := by decide +kernel
theorem dX12_ends_30 : decode cX12_ends 30 = .ok (.dup, 1) := by decide +kernel
theorem dX12_ends_31 : decode cX12_ends 31 = .ok (.getfield 162, 3) := by decide +kernel
theorem dX12_ends_34 : decode cX12_ends 34 = .ok (.iconst 1, 1) := by decide +kernel
theorem dX12_ends_35 : decode cX12_ends 35 = .ok (.iadd, 1) := by decide +kernel
theorem dX12_ends_36 : decode cX12_ends 36 = .ok (.putfield 162, 3) := by decide +kernel
theorem dX12_ends_39 : decode cX12_ends 39 = .ok (.return_, 1) := by decide +kernel
theorem dX12_manyLine_0 : decode cX12_manyLine 0 = .ok (.aload_n 0, 1) := by decide +kernel
theorem dX12_manyLine_1 : decode cX12_manyLine 1 = .ok (.iload_n 2, 1) := by decide +kernel
theorem dX12_manyLine_2 : decode cX12_manyLine 2 = .ok (.iload_n 3, 1) := by decide +kernel
theorem dX12_manyLine_3 : decode cX12_manyLine 3 = .ok (.invokevirtual 212, 3) := by decide +kernel
theorem dX12_manyLine_6 : decode cX12_manyLine 6 = .ok (.istore 5, 2) := by decide +kernel
theorem dX12_manyLine_8 : decode cX12_manyLine 8 = .ok (.aload_n 0, 1) := by decide +kernel
theorem dX12_manyLine_9 : decode cX12_manyLine 9 = .ok (.getfield 168, 3) := by decide +kernel
theorem dX12_manyLine_12 : decode cX12_manyLine 12 = .ok (.ifCond .eq 4, 3) := by decide +kernel
theorem dX12_manyLine_15 : decode cX12_manyLine 15 = .ok (.return_, 1) := by decide +kernel
theorem dX12_manyLine_16 : decode cX12_manyLine 16 = .ok (.aload_n 0, 1) := by decide +kernel
theorem dX12_manyLine_17 : decode cX12_manyLine 17 = .ok (.getfield 215, 3) := by decide +kernel
theorem dX12_manyLine_20 : decode cX12_manyLine 20 = .ok (.ifCond .ne 15, 3) := by decide +kernel
theorem dX12_manyLine_23 : decode cX12_manyLine 23 = .ok (.aload_n 0, 1) := by decide +kernel
theorem dX12_manyLine_24 : decode cX12_manyLine 24 = .ok (.getfield 219, 3) := by decide +kernel
theorem dX12_manyLine_27 : decode cX12_manyLine 27 = .ok (.iload_n 1, 1) := by decide +kernel
theorem dX12_manyLine_28 : decode cX12_manyLine 28 = .ok (.ishr, 1) := by decide +kernel
theorem dX12_manyLine_29 : decode cX12_manyLine 29 = .ok (.iconst 1, 1) := by decide +kernel
theorem dX12_manyLine_30 : decode cX12_manyLine 30 = .ok (.iand, 1) := by decide +kernel
theorem dX12_manyLine_31 : decode cX12_manyLine 31 = .ok (.iconst 1, 1) := by decide +kernel
theorem dX12_manyLine_32 : decode cX12_manyLine 32 = .ok (.if_icmp .ne 11, 3) := by decide +kernel
theorem dX12_manyLine_35 : decode cX12_manyLine 35 = .ok (.aload_n 0, 1) := by decide +kernel
theorem dX12_manyLine_36 : decode cX12_manyLine 36 = .ok (.iconst 3, 1) := by decide +kernel
theorem dX12_manyLine_37 : decode cX12_manyLine 37 = .ok (.iload 4, 2) := by decide +kernel
theorem dX12_manyLine_39 : decode cX12_manyLine 39 = .ok (.invokevirtual 204, 3) := by decide +kernel
theorem dX12_manyLine_42 : decode cX12_manyLine 42 = .ok (.return_, 1) := by decide +kernel
theorem dX12_manyLine_43 : decode cX12_manyLine 43 = .ok (.aload_n 0, 1) := by decide +kernel
theorem dX12_manyLine_44 : decode cX12_manyLine 44 = .ok (.dup, 1) := by decide +kernel
theorem dX12_manyLine_45 : decode cX12_manyLine 45 = .ok (.getfield 219, 3) := by decide +kernel
theorem dX12_manyLine_48 : decode cX12_manyLine 48 = .ok (.iconst 1, 1) := by decide +kernel
theorem dX12_manyLine_49 : decode cX12_manyLine 49 = .ok (.iload_n 1, 1) := by decide +kernel
theorem dX12_manyLine_50 : decode cX12_manyLine 50 = .ok (.ishl, 1) := by decide +kernel
theorem dX12_manyLine_51 : decode cX12_manyLine 51 = .ok (.ior, 1) := by decide +kernel
theorem dX12_manyLine_52 : decode cX12_manyLine 52 = .ok (.putfield 219, 3) := by decide +kernel
theorem dX12_manyLine_55 : decode cX12_manyLine 55 = .ok (.aload_n 0, 1) := by decide +kernel
theorem dX12_manyLine_56 : decode cX12_manyLine 56 = .ok (.getfield 17, 3) := by decide +kernel
theorem dX12_manyLine_59 : decode cX12_manyLine 59 = .ok (.iload_n 1, 1) := by decide +kernel
theorem dX12_manyLine_60 : decode cX12_manyLine 60 = .ok (.iload 5, 2) := by decide +kernel
theorem dX12_manyLine_62 : decode cX12_manyLine 62 = .ok (.iastore, 1) := by decide +kernel
theorem dX12_manyLine_63 : decode cX12_manyLine 63 = .ok (.return_, 1) := by decide +kernel
theorem dX12_acceptLine_0 : decode cX12_acceptLine 0 = .ok (.aload_n 0, 1) := by decide +kernel
theorem dX12_acceptLine_1 : decode cX12_acceptLine 1 = .ok (.iconst 0, 1) := by decide +kernel
theorem dX12_acceptLine_2 : decode cX12_acceptLine 2 = .ok (.aload_n 0, 1) := by decide +kernel
theorem dX12_acceptLine_3 : decode cX12_acceptLine 3 = .ok (.getfield 17, 3) := by decide +kernel
theorem dX12_acceptLine_6 : decode cX12_acceptLine 6 = .ok (.iconst 0, 1) := by decide +kernel
theorem dX12_acceptLine_7 : decode cX12_acceptLine 7 = .ok (.iaload, 1) := by decide +kernel
theorem dX12_acceptLine_8 : decode cX12_acceptLine 8 = .ok (.iconst 1, 1) := by decide +kernel
theorem dX12_acceptLine_9 : decode cX12_acceptLine 9 = .ok (.isub, 1) := by decide +kernel
theorem dX12_acceptLine_10 : decode cX12_acceptLine 10 = .ok (.invokevirtual 212, 3) := by decide +kernel
theorem dX12_acceptLine_13 : decode cX12_acceptLine 13 = .ok (.istore_n 2, 1) := by decide +kernel
theorem dX12_acceptLine_14 : decode cX12_acceptLine 14 = .ok (.aload_n 0, 1) := by decide +kernel
theorem dX12_acceptLine_15 : decode cX12_acceptLine 15 = .ok (.getfield 168, 3) := by decide +kernel
theorem dX12_acceptLine_18 : decode cX12_acceptLine 18 = .ok (.ifCond .eq 4, 3) := by decide +kernel
theorem dX12_acceptLine_21 : decode cX12_acceptLine 21 = .ok (.return_, 1) := by decide +kernel
theorem dX12_acceptLine_22 : decode cX12_acceptLine 22 = .ok (.aload_n 0, 1) := by decide +kernel
theorem dX12_acceptLine_23 : decode cX12_acceptLine 23 = .ok (.getfield 17, 3) := by decide +kernel
theorem dX12_acceptLine_26 : decode cX12_acceptLine 26 = .ok (.iconst 3, 1) := by decide +kernel
theorem dX12_acceptLine_27 : decode cX12_acceptLine 27 = .ok (.iaload, 1) := by decide +kernel
theorem dX12_acceptLine_28 : decode cX12_acceptLine 28 = .ok (.iload_n 2, 1) := by decide +kernel
theorem dX12_acceptLine_29 : decode cX12_acceptLine 29 = .ok (.ishr, 1) := by decide +kernel
theorem dX12_acceptLine_30 : decode cX12_acceptLine 30 = .ok (.iconst 1, 1) := by decide +kernel
theorem dX12_acceptLine_31 : decode cX12_acceptLine 31 = .ok (.iand, 1) := by decide +kernel
theorem dX12_acceptLine_32 : decode cX12_acceptLine 32 = .ok (.iconst 1, 1) := by decide +kernel
theorem dX12_acceptLine_33 : decode cX12_acceptLine 33 = .ok (.if_icmp .ne 9, 3) := by decide +kernel
theorem dX12_acceptLine_36 : decode cX12_acceptLine 36 = .ok (.aload_n 0, 1) := by decide +kernel
theorem dX12_acceptLine_37 : decode cX12_acceptLine 37 = .ok (.iconst 3, 1) := by decide +kernel
theorem dX12_acceptLine_38 : decode cX12_acceptLine 38 = .ok (.iload_n 1, 1) := by decide +kernel
theorem dX12_acceptLine_39 : decode cX12_acceptLine 39 = .ok (.invokevirtual 204, 3) := by decide +kernel
theorem dX12_acceptLine_42 : decode cX12_acceptLine 42 = .ok (.aload_n 0, 1) := by decide +kernel
theorem dX12_acceptLine_43 : decode cX12_acceptLine 43 = .ok (.getfield 17, 3) := by decide +kernel
theorem dX12_acceptLine_46 : decode cX12_acceptLine 46 = .ok (.iconst 3, 1) := by decide +kernel
theorem dX12_acceptLine_47 : decode cX12_acceptLine 47 = .ok (.dup2, 1) := by decide +kernel
theorem dX12_acceptLine_48 : decode cX12_acceptLine 48 = .ok (.iaload, 1) := by decide +kernel
theorem dX12_acceptLine_49 : decode cX12_acceptLine 49 = .ok (.iconst 1, 1) := by decide +kernel
theorem dX12_acceptLine_50 : decode cX12_acceptLine 50 = .ok (.iload_n 2, 1) := by decide +kernel
theorem dX12_acceptLine_51 : decode cX12_acceptLine 51 = .ok (.ishl, 1) := by decide +kernel
theorem dX12_acceptLine_52 : decode cX12_acceptLine 52 = .ok (.ior, 1) := by decide +kernel
theorem dX12_acceptLine_53 : decode cX12_acceptLine 53 = .ok (.iastore, 1) := by decide +kernel
theorem dX12_acceptLine_54 : decode cX12_acceptLine 54 = .ok (.aload_n 0, 1) := by decide +kernel
theorem dX12_acceptLine_55 : decode cX12_acceptLine 55 = .ok (.iconst 1, 1) := by decide +kernel
theorem dX12_acceptLine_56 : decode cX12_acceptLine 56 = .ok (.putfield 215, 3) := by decide +kernel
theorem dX12_acceptLine_59 : decode cX12_acceptLine 59 = .ok (.return_, 1) := by decide +kernel
theorem dX12_moveLine_0 : decode cX12_moveLine 0 = .ok (.aload_n 0, 1) := by decide +kernel
theorem dX12_moveLine_1 : decode cX12_moveLine 1 = .ok (.iconst 0, 1) := by decide +kernel
theorem dX12_moveLine_2 : decode cX12_moveLine 2 = .ok (.aload_n 0, 1) := by decide +kernel
theorem dX12_moveLine_3 : decode cX12_moveLine 3 = .ok (.getfield 17, 3) := by decide +kernel
theorem dX12_moveLine_6 : decode cX12_moveLine 6 = .ok (.iconst 0, 1) := by decide +kernel
theorem dX12_moveLine_7 : decode cX12_moveLine 7 = .ok (.iaload, 1) := by decide +kernel
theorem dX12_moveLine_8 : decode cX12_moveLine 8 = .ok (.iconst 1, 1) := by decide +kernel
theorem dX12_moveLine_9 : decode cX12_moveLine 9 = .ok (.isub, 1) := by decide +kernel
theorem dX12_moveLine_10 : decode cX12_moveLine 10 = .ok (.invokevirtual 212, 3) := by decide +kernel
theorem dX12_moveLine_13 : decode cX12_moveLine 13 = .ok (.istore_n 2, 1) := by decide +kernel
theorem dX12_moveLine_14 : decode cX12_moveLine 14 = .ok (.aload_n 0, 1) := by decide +kernel
theorem dX12_moveLine_15 : decode cX12_moveLine 15 = .ok (.getfield 168, 3) := by decide +kernel
theorem dX12_moveLine_18 : decode cX12_moveLine 18 = .ok (.ifCond .ne 16, 3) := by decide +kernel
theorem dX12_moveLine_21 : decode cX12_moveLine 21 = .ok (.aload_n 0, 1) := by decide +kernel
theorem dX12_moveLine_22 : decode cX12_moveLine 22 = .ok (.aload_n 0, 1) := by decide +kernel
theorem dX12_moveLine_23 : decode cX12_moveLine 23 = .ok (.getfield 17, 3) := by decide +kernel
theorem dX12_moveLine_26 : decode cX12_moveLine 26 = .ok (.iconst 2, 1) := by decide +kernel
theorem dX12_moveLine_27 : decode cX12_moveLine 27 = .ok (.iaload, 1) := by decide +kernel
theorem dX12_moveLine_28 : decode cX12_moveLine 28 = .ok (.invokevirtual 222, 3) := by decide +kernel
theorem dX12_moveLine_31 : decode cX12_moveLine 31 = .ok (.goto 4, 3) := by decide +kernel
theorem dX12_moveLine_34 : decode cX12_moveLine 34 = .ok (.iconst 0, 1) := by decide +kernel
theorem dX12_moveLine_35 : decode cX12_moveLine 35 = .ok (.istore_n 3, 1) := by decide +kernel
theorem dX12_moveLine_36 : decode cX12_moveLine 36 = .ok (.iconst 2, 1) := by decide +kernel
theorem dX12_moveLine_37 : decode cX12_moveLine 37 = .ok (.istore 4, 2) := by decide +kernel
theorem dX12_moveLine_39 : decode cX12_moveLine 39 = .ok (.aload_n 0, 1) := by decide +kernel
theorem dX12_moveLine_40 : decode cX12_moveLine 40 = .ok (.iconst 5, 1) := by decide +kernel
theorem dX12_moveLine_41 : decode cX12_moveLine 41 = .ok (.invokevirtual 200, 3) := by decide +kernel
theorem dX12_moveLine_44 : decode cX12_moveLine 44 = .ok (.ifCond .eq 21, 3) := by decide +kernel
theorem dX12_moveLine_47 : decode cX12_moveLine 47 = .ok (.aload_n 0, 1) := by decide +kernel
theorem dX12_moveLine_48 : decode cX12_moveLine 48 = .ok (.iconst 0, 1) := by decide +kernel
theorem dX12_moveLine_49 : decode cX12_moveLine 49 = .ok (.aload_n 0, 1) := by decide +kernel
theorem dX12_moveLine_50 : decode cX12_moveLine 50 = .ok (.getfield 17, 3) := by decide +kernel
theorem dX12_moveLine_53 : decode cX12_moveLine 53 = .ok (.iconst 1, 1) := by decide +kernel
theorem dX12_moveLine_54 : decode cX12_moveLine 54 = .ok (.iaload, 1) := by decide +kernel
theorem dX12_moveLine_55 : decode cX12_moveLine 55 = .ok (.iconst 1, 1) := by decide +kernel
theorem dX12_moveLine_56 : decode cX12_moveLine 56 = .ok (.isub, 1) := by decide +kernel
theorem dX12_moveLine_57 : decode cX12_moveLine 57 = .ok (.invokevirtual 212, 3) := by decide +kernel
theorem dX12_moveLine_60 : decode cX12_moveLine 60 = .ok (.istore 4, 2) := by decide +kernel
theorem dX12_moveLine_62 : decode cX12_moveLine 62 = .ok (.goto 9, 3) := by decide +kernel
theorem dX12_moveLine_65 : decode cX12_moveLine 65 = .ok (.aload_n 0, 1) := by decide +kernel
theorem dX12_moveLine_66 : decode cX12_moveLine 66 = .ok (.bipush 6, 2) := by decide +kernel
theorem dX12_moveLine_68 : decode cX12_moveLine 68 = .ok (.invokevirtual 226, 3) := by decide +kernel
theorem dX12_moveLine_71 : decode cX12_moveLine 71 = .ok (.aload_n 0, 1) := by decide +kernel
theorem dX12_moveLine_72 : decode cX12_moveLine 72 = .ok (.bipush 7, 2) := by decide +kernel
theorem dX12_moveLine_74 : decode cX12_moveLine 74 = .ok (.invokevirtual 226, 3) := by decide +kernel
theorem dX12_moveLine_77 : decode cX12_moveLine 77 = .ok (.aload_n 0, 1) := by decide +kernel
theorem dX12_moveLine_78 : decode cX12_moveLine 78 = .ok (.iconst 0, 1) := by decide +kernel
theorem dX12_moveLine_79 : decode cX12_moveLine 79 = .ok (.aload_n 0, 1) := by decide +kernel
theorem dX12_moveLine_80 : decode cX12_moveLine 80 = .ok (.getfield 17, 3) := by decide +kernel
theorem dX12_moveLine_83 : decode cX12_moveLine 83 = .ok (.iconst 0, 1) := by decide +kernel
theorem dX12_moveLine_84 : decode cX12_moveLine 84 = .ok (.iaload, 1) := by decide +kernel
theorem dX12_moveLine_85 : decode cX12_moveLine 85 = .ok (.iconst 1, 1) := by decide +kernel
theorem dX12_moveLine_86 : decode cX12_moveLine 86 = .ok (.isub, 1) := by decide +kernel
theorem dX12_moveLine_87 : decode cX12_moveLine 87 = .ok (.invokevirtual 212, 3) := by decide +kernel
theorem dX12_moveLine_90 : decode cX12_moveLine 90 = .ok (.istore 5, 2) := by decide +kernel
theorem dX12_moveLine_92 : decode cX12_moveLine 92 = .ok (.aload_n 0, 1) := by decide +kernel
theorem dX12_moveLine_93 : decode cX12_moveLine 93 = .ok (.bipush 8, 2) := by decide +kernel
theorem dX12_moveLine_95 : decode cX12_moveLine 95 = .ok (.invokevirtual 200, 3) := by decide +kernel
theorem dX12_moveLine_98 : decode cX12_moveLine 98 = .ok (.ifCond .eq 19, 3) := by decide +kernel
theorem dX12_moveLine_101 : decode cX12_moveLine 101 = .ok (.aload_n 0, 1) := by decide +kernel
theorem dX12_moveLine_102 : decode cX12_moveLine 102 = .ok (.iconst 0, 1) := by decide +kernel
theorem dX12_moveLine_103 : decode cX12_moveLine 103 = .ok (.aload_n 0, 1) := by decide +kernel
theorem dX12_moveLine_104 : decode cX12_moveLine 104 = .ok (.getfield 17, 3) := by decide +kernel
theorem dX12_moveLine_107 : decode cX12_moveLine 107 = .ok (.iconst 1, 1) := by decide +kernel
theorem dX12_moveLine_108 : decode cX12_moveLine 108 = .ok (.iaload, 1) := by decide +kernel
theorem dX12_moveLine_109 : decode cX12_moveLine 109 = .ok (.iconst 1, 1) := by decide +kernel
theorem dX12_moveLine_110 : decode cX12_moveLine 110 = .ok (.isub, 1) := by decide +kernel
theorem dX12_moveLine_111 : decode cX12_moveLine 111 = .ok (.invokevirtual 212, 3) := by decide +kernel
theorem dX12_moveLine_114 : decode cX12_moveLine 114 = .ok (.goto 4, 3) := by decide +kernel
theorem dX12_moveLine_117 : decode cX12_moveLine 117 = .ok (.iconst (-1), 1) := by decide +kernel
theorem dX12_moveLine_118 : decode cX12_moveLine 118 = .ok (.istore 6, 2) := by decide +kernel
theorem dX12_moveLine_120 : decode cX12_moveLine 120 = .ok (.aload_n 0, 1) := by decide +kernel
theorem dX12_moveLine_121 : decode cX12_moveLine 121 = .ok (.bipush 9, 2) := by decide +kernel
theorem dX12_moveLine_123 : decode cX12_moveLine 123 = .ok (.invokevirtual 200, 3) := by decide +kernel
theorem dX12_moveLine_126 : decode cX12_moveLine 126 = .ok (.ifCond .eq 19, 3) := by decide +kernel
theorem dX12_moveLine_129 : decode cX12_moveLine 129 = .ok (.aload_n 0, 1) := by decide +kernel
theorem dX12_moveLine_130 : decode cX12_moveLine 130 = .ok (.iconst 0, 1) := by decide +kernel
theorem dX12_moveLine_131 : decode cX12_moveLine 131 = .ok (.aload_n 0, 1) := by decide +kernel
theorem dX12_moveLine_132 : decode cX12_moveLine 132 = .ok (.getfield 17, 3) := by decide +kernel
theorem dX12_moveLine_135 : decode cX12_moveLine 135 = .ok (.iconst 1, 1) := by decide +kernel
theorem dX12_moveLine_136 : decode cX12_moveLine 136 = .ok (.iaload, 1) := by decide +kernel
theorem dX12_moveLine_137 : decode cX12_moveLine 137 = .ok (.iconst 1, 1) := by decide +kernel
theorem dX12_moveLine_138 : decode cX12_moveLine 138 = .ok (.isub, 1) := by decide +kernel
theorem dX12_moveLine_139 : decode cX12_moveLine 139 = .ok (.invokevirtual 212, 3) := by decide +kernel
theorem dX12_moveLine_142 : decode cX12_moveLine 142 = .ok (.goto 4, 3) := by decide +kernel
theorem dX12_moveLine_145 : decode cX12_moveLine 145 = .ok (.iconst (-1), 1) := by decide +kernel
theorem dX12_moveLine_146 : decode cX12_moveLine 146 = .ok (.istore 7, 2) := by decide +kernel
theorem dX12_moveLine_148 : decode cX12_moveLine 148 = .ok (.aload_n 0, 1) := by decide +kernel
theorem dX12_moveLine_149 : decode cX12_moveLine 149 = .ok (.getfield 168, 3) := by decide +kernel
theorem dX12_moveLine_152 : decode cX12_moveLine 152 = .ok (.ifCond .eq 4, 3) := by decide +kernel
theorem dX12_moveLine_155 : decode cX12_moveLine 155 = .ok (.return_, 1) := by decide +kernel
theorem dX12_moveLine_156 : decode cX12_moveLine 156 = .ok (.iload_n 2, 1) := by decide +kernel
theorem dX12_moveLine_157 : decode cX12_moveLine 157 = .ok (.iload_n 3, 1) := by decide +kernel
theorem dX12_moveLine_158 : decode cX12_moveLine 158 = .ok (.iload 4, 2) := by decide +kernel
theorem dX12_moveLine_160 : decode cX12_moveLine 160 = .ok (.invokestatic 148, 3) := by decide +kernel
theorem dX12_moveLine_163 : decode cX12_moveLine 163 = .ok (.istore 8, 2) := by decide +kernel
theorem dX12_moveLine_165 : decode cX12_moveLine 165 = .ok (.aload_n 0, 1) := by decide +kernel
theorem dX12_moveLine_166 : decode cX12_moveLine 166 = .ok (.getfield 17, 3) := by decide +kernel
theorem dX12_moveLine_169 : decode cX12_moveLine 169 = .ok (.iload 8, 2) := by decide +kernel
theorem dX12_moveLine_171 : decode cX12_moveLine 171 = .ok (.iaload, 1) := by decide +kernel
theorem dX12_moveLine_172 : decode cX12_moveLine 172 = .ok (.iconst (-1), 1) := by decide +kernel
theorem dX12_moveLine_173 : decode cX12_moveLine 173 = .ok (.if_icmp .eq 9, 3) := by decide +kernel
theorem dX12_moveLine_176 : decode cX12_moveLine 176 = .ok (.aload_n 0, 1) := by decide +kernel
theorem dX12_moveLine_177 : decode cX12_moveLine 177 = .ok (.iconst 3, 1) := by decide +kernel
theorem dX12_moveLine_178 : decode cX12_moveLine 178 = .ok (.iload_n 1, 1) := by decide +kernel
theorem dX12_moveLine_179 : decode cX12_moveLine 179 = .ok (.invokevirtual 204, 3) := by decide +kernel
theorem dX12_moveLine_182 : decode cX12_moveLine 182 = .ok (.aload_n 0, 1) := by decide +kernel
theorem dX12_moveLine_183 : decode cX12_moveLine 183 = .ok (.getfield 17, 3) := by decide +kernel
theorem dX12_moveLine_186 : decode cX12_moveLine 186 = .ok (.iload 8, 2) := by decide +kernel
theorem dX12_moveLine_188 : decode cX12_moveLine 188 = .ok (.iload 5, 2) := by decide +kernel
theorem dX12_moveLine_190 : decode cX12_moveLine 190 = .ok (.iastore, 1) := by decide +kernel
theorem dX12_moveLine_191 : decode cX12_moveLine 191 = .ok (.aload_n 0, 1) := by decide +kernel
theorem dX12_moveLine_192 : decode cX12_moveLine 192 = .ok (.getfield 17, 3) := by decide +kernel
theorem dX12_moveLine_195 : decode cX12_moveLine 195 = .ok (.iload 8, 2) := by decide +kernel
theorem dX12_moveLine_197 : decode cX12_moveLine 197 = .ok (.iconst 1, 1) := by decide +kernel
theorem dX12_moveLine_198 : decode cX12_moveLine 198 = .ok (.iadd, 1) := by decide +kernel
theorem dX12_moveLine_199 : decode cX12_moveLine 199 = .ok (.iload 6, 2) := by decide +kernel
theorem dX12_moveLine_201 : decode cX12_moveLine 201 = .ok (.iastore, 1) := by decide +kernel
theorem dX12_moveLine_202 : decode cX12_moveLine 202 = .ok (.aload_n 0, 1) := by decide +kernel
theorem dX12_moveLine_203 : decode cX12_moveLine 203 = .ok (.getfield 17, 3) := by decide +kernel
theorem dX12_moveLine_206 : decode cX12_moveLine 206 = .ok (.iload 8, 2) := by decide +kernel
theorem dX12_moveLine_208 : decode cX12_moveLine 208 = .ok (.iconst 2, 1) := by decide +kernel
theorem dX12_moveLine_209 : decode cX12_moveLine 209 = .ok (.iadd, 1) := by decide +kernel
theorem dX12_moveLine_210 : decode cX12_moveLine 210 = .ok (.iload 7, 2) := by decide +kernel
theorem dX12_moveLine_212 : decode cX12_moveLine 212 = .ok (.iastore, 1) := by decide +kernel
theorem dX12_moveLine_213 : decode cX12_moveLine 213 = .ok (.aload_n 0, 1) := by decide +kernel
theorem dX12_moveLine_214 : decode cX12_moveLine 214 = .ok (.iconst 1, 1) := by decide +kernel
theorem dX12_moveLine_215 : decode cX12_moveLine 215 = .ok (.putfield 215, 3) := by decide +kernel
theorem dX12_moveLine_218 : decode cX12_moveLine 218 = .ok (.return_, 1) := by decide +kernel
theorem dX12_line_0 : decode cX12_line 0 = .ok (.aload_n 0, 1) := by decide +kernel
theorem dX12_line_1 : decode cX12_line 1 = .ok (.invokevirtual 175, 3) := by decide +kernel
theorem dX12_line_4 : decode cX12_line 4 = .ok (.aload_n 0, 1) := by decide +kernel
theorem dX12_line_5 : decode cX12_line 5 = .ok (.getfield 162, 3) := by decide +kernel
theorem dX12_line_8 : decode cX12_line 8 = .ok (.istore_n 1, 1) := by decide +kernel
theorem dX12_line_9 : decode cX12_line 9 = .ok (.aload_n 0, 1) := by decide +kernel
theorem dX12_line_10 : decode cX12_line 10 = .ok (.iconst 0, 1) := by decide +kernel
theorem dX12_line_11 : decode cX12_line 11 = .ok (.invokevirtual 200, 3) := by decide +kernel
theorem dX12_line_14 : decode cX12_line 14 = .ok (.ifCond .eq 14, 3) := by decide +kernel
theorem dX12_line_17 : decode cX12_line 17 = .ok (.aload_n 0, 1) := by decide +kernel
theorem dX12_line_18 : decode cX12_line 18 = .ok (.iconst 0, 1) := by decide +kernel
theorem dX12_line_19 : decode cX12_line 19 = .ok (.iconst 1, 1) := by decide +kernel
theorem dX12_line_20 : decode cX12_line 20 = .ok (.iconst 5, 1) := by decide +kernel
theorem dX12_line_21 : decode cX12_line 21 = .ok (.iload_n 1, 1) := by decide +kernel
theorem dX12_line_22 : decode cX12_line 22 = .ok (.invokevirtual 230, 3) := by decide +kernel
theorem dX12_line_25 : decode cX12_line 25 = .ok (.goto 79, 3) := by decide +kernel
theorem dX12_line_28 : decode cX12_line 28 = .ok (.aload_n 0, 1) := by decide +kernel
theorem dX12_line_29 : decode cX12_line 29 = .ok (.iconst 1, 1) := by decide +kernel
theorem dX12_line_30 : decode cX12_line 30 = .ok (.invokevirtual 200, 3) := by decide +kernel
theorem dX12_line_33 : decode cX12_line 33 = .ok (.ifCond .eq 14, 3) := by decide +kernel
theorem dX12_line_36 : decode cX12_line 36 = .ok (.aload_n 0, 1) := by decide +kernel
theorem dX12_line_37 : decode cX12_line 37 = .ok (.iconst 1, 1) := by decide +kernel
theorem dX12_line_38 : decode cX12_line 38 = .ok (.iconst 0, 1) := by decide +kernel
theorem dX12_line_39 : decode cX12_line 39 = .ok (.iconst 2, 1) := by decide +kernel
theorem dX12_line_40 : decode cX12_line 40 = .ok (.iload_n 1, 1) := by decide +kernel
theorem dX12_line_41 : decode cX12_line 41 = .ok (.invokevirtual 230, 3) := by decide +kernel
theorem dX12_line_44 : decode cX12_line 44 = .ok (.goto 60, 3) := by decide +kernel
theorem dX12_line_47 : decode cX12_line 47 = .ok (.aload_n 0, 1) := by decide +kernel
theorem dX12_line_48 : decode cX12_line 48 = .ok (.iconst 2, 1) := by decide +kernel
theorem dX12_line_49 : decode cX12_line 49 = .ok (.invokevirtual 200, 3) := by decide +kernel
theorem dX12_line_52 : decode cX12_line 52 = .ok (.ifCond .eq 14, 3) := by decide +kernel
theorem dX12_line_55 : decode cX12_line 55 = .ok (.aload_n 0, 1) := by decide +kernel
theorem dX12_line_56 : decode cX12_line 56 = .ok (.iconst 2, 1) := by decide +kernel
theorem dX12_line_57 : decode cX12_line 57 = .ok (.iconst 1, 1) := by decide +kernel
theorem dX12_line_58 : decode cX12_line 58 = .ok (.iconst 2, 1) := by decide +kernel
theorem dX12_line_59 : decode cX12_line 59 = .ok (.iload_n 1, 1) := by decide +kernel
theorem dX12_line_60 : decode cX12_line 60 = .ok (.invokevirtual 230, 3) := by decide +kernel
theorem dX12_line_63 : decode cX12_line 63 = .ok (.goto 41, 3) := by decide +kernel
theorem dX12_line_66 : decode cX12_line 66 = .ok (.aload_n 0, 1) := by decide +kernel
theorem dX12_line_67 : decode cX12_line 67 = .ok (.iconst 3, 1) := by decide +kernel
theorem dX12_line_68 : decode cX12_line 68 = .ok (.invokevirtual 200, 3) := by decide +kernel
theorem dX12_line_71 : decode cX12_line 71 = .ok (.ifCond .eq 11, 3) := by decide +kernel
theorem dX12_line_74 : decode cX12_line 74 = .ok (.aload_n 0, 1) := by decide +kernel
theorem dX12_line_75 : decode cX12_line 75 = .ok (.iload_n 1, 1) := by decide +kernel
theorem dX12_line_76 : decode cX12_line 76 = .ok (.invokevirtual 234, 3) := by decide +kernel
theorem dX12_line_79 : decode cX12_line 79 = .ok (.goto 25, 3) := by decide +kernel
theorem dX12_line_82 : decode cX12_line 82 = .ok (.aload_n 0, 1) := by decide +kernel
theorem dX12_line_83 : decode cX12_line 83 = .ok (.iconst 4, 1) := by decide +kernel
theorem dX12_line_84 : decode cX12_line 84 = .ok (.invokevirtual 200, 3) := by decide +kernel
theorem dX12_line_87 : decode cX12_line 87 = .ok (.ifCond .eq 11, 3) := by decide +kernel
theorem dX12_line_90 : decode cX12_line 90 = .ok (.aload_n 0, 1) := by decide +kernel
theorem dX12_line_91 : decode cX12_line 91 = .ok (.iload_n 1, 1) := by decide +kernel
theorem dX12_line_92 : decode cX12_line 92 = .ok (.invokevirtual 237, 3) := by decide +kernel
theorem dX12_line_95 : decode cX12_line 95 = .ok (.goto 9, 3) := by decide +kernel
theorem dX12_line_98 : decode cX12_line 98 = .ok (.aload_n 0, 1) := by decide +kernel
theorem dX12_line_99 : decode cX12_line 99 = .ok (.iconst 1, 1) := by decide +kernel
theorem dX12_line_100 : decode cX12_line 100 = .ok (.iload_n 1, 1) := by decide +kernel
theorem dX12_line_101 : decode cX12_line 101 = .ok (.invokevirtual 204, 3) := by decide +kernel
theorem dX12_line_104 : decode cX12_line 104 = .ok (.aload_n 0, 1) := by decide +kernel
theorem dX12_line_105 : decode cX12_line 105 = .ok (.invokevirtual 240, 3) := by decide +kernel
theorem dX12_line_108 : decode cX12_line 108 = .ok (.return_, 1) := by decide +kernel
theorem dX12_begins_0 : decode cX12_begins 0 = .ok (.aload_n 0, 1) := by decide +kernel
theorem dX12_begins_1 : decode cX12_begins 1 = .ok (.iconst 0, 1) := by decide +kernel
theorem dX12_begins_2 : decode cX12_begins 2 = .ok (.putfield 159, 3) := by decide +kernel
theorem dX12_begins_5 : decode cX12_begins 5 = .ok (.aload_n 0, 1) := by decide +kernel
theorem dX12_begins_6 : decode cX12_begins 6 = .ok (.iload_n 1, 1) := by decide +kernel
theorem dX12_begins_7 : decode cX12_begins 7 = .ok (.putfield 165, 3) := by decide +kernel
theorem dX12_begins_10 : decode cX12_begins 10 = .ok (.aload_n 0, 1) := by decide +kernel
theorem dX12_begins_11 : decode cX12_begins 11 = .ok (.iconst 0, 1) := by decide +kernel
theorem dX12_begins_12 : decode cX12_begins 12 = .ok (.putfield 162, 3) := by decide +kernel
theorem dX12_begins_15 : decode cX12_begins 15 = .ok (.aload_n 0, 1) := by decide +kernel
theorem dX12_begins_16 : decode cX12_begins 16 = .ok (.iconst 0, 1) := by decide +kernel
theorem dX12_begins_17 : decode cX12_begins 17 = .ok (.putfield 168, 3) := by decide +kernel
theorem dX12_begins_20 : decode cX12_begins 20 = .ok (.aload_n 0, 1) := by decide +kernel
theorem dX12_begins_21 : decode cX12_begins 21 = .ok (.iconst (-1), 1) := by decide +kernel
theorem dX12_begins_22 : decode cX12_begins 22 = .ok (.putfield 24, 3) := by decide +kernel
theorem dX12_begins_25 : decode cX12_begins 25 = .ok (.return_, 1) := by decide +kernel
theorem dX12_movesOf_0 : decode cX12_movesOf 0 = .ok (.iconst 0, 1) := by decide +kernel
theorem dX12_movesOf_1 : decode cX12_movesOf 1 = .ok (.istore_n 2, 1) := by decide +kernel
theorem dX12_movesOf_2 : decode cX12_movesOf 2 = .ok (.iconst 4, 1) := by decide +kernel
theorem dX12_movesOf_3 : decode cX12_movesOf 3 = .ok (.istore_n 3, 1) := by decide +kernel
theorem dX12_movesOf_4 : decode cX12_movesOf 4 = .ok (.iload_n 3, 1) := by decide +kernel
theorem dX12_movesOf_5 : decode cX12_movesOf 5 = .ok (.bipush 94, 2) := by decide +kernel
theorem dX12_movesOf_7 : decode cX12_movesOf 7 = .ok (.if_icmp .ge 27, 3) := by decide +kernel
theorem dX12_movesOf_10 : decode cX12_movesOf 10 = .ok (.iload_n 2, 1) := by decide +kernel
theorem dX12_movesOf_11 : decode cX12_movesOf 11 = .ok (.aload_n 0, 1) := by decide +kernel
theorem dX12_movesOf_12 : decode cX12_movesOf 12 = .ok (.iload_n 1, 1) := by decide +kernel
theorem dX12_movesOf_13 : decode cX12_movesOf 13 = .ok (.iload_n 3, 1) := by decide +kernel
theorem dX12_movesOf_14 : decode cX12_movesOf 14 = .ok (.invokevirtual 155, 3) := by decide +kernel
theorem dX12_movesOf_17 : decode cX12_movesOf 17 = .ok (.iconst (-1), 1) := by decide +kernel
theorem dX12_movesOf_18 : decode cX12_movesOf 18 = .ok (.if_icmp .ne 7, 3) := by decide +kernel
theorem dX12_movesOf_21 : decode cX12_movesOf 21 = .ok (.iconst 0, 1) := by decide +kernel
theorem dX12_movesOf_22 : decode cX12_movesOf 22 = .ok (.goto 4, 3) := by decide +kernel
theorem dX12_movesOf_25 : decode cX12_movesOf 25 = .ok (.iconst 1, 1) := by decide +kernel
theorem dX12_movesOf_26 : decode cX12_movesOf 26 = .ok (.iadd, 1) := by decide +kernel
theorem dX12_movesOf_27 : decode cX12_movesOf 27 = .ok (.istore_n 2, 1) := by decide +kernel
theorem dX12_movesOf_28 : decode cX12_movesOf 28 = .ok (.iinc 3 3, 3) := by decide +kernel
theorem dX12_movesOf_31 : decode cX12_movesOf 31 = .ok (.goto (-27), 3) := by decide +kernel
theorem dX12_movesOf_34 : decode cX12_movesOf 34 = .ok (.iload_n 2, 1) := by decide +kernel
theorem dX12_movesOf_35 : decode cX12_movesOf 35 = .ok (.ireturn, 1) := by decide +kernel
theorem dX12_resets_0 : decode cX12_resets 0 = .ok (.aload_n 0, 1) := by decide +kernel
theorem dX12_resets_1 : decode cX12_resets 1 = .ok (.iconst 1, 1) := by decide +kernel
theorem dX12_resets_2 : decode cX12_resets 2 = .ok (.putfield 310, 3) := by decide +kernel
theorem dX12_resets_5 : decode cX12_resets 5 = .ok (.aload_n 0, 1) := by decide +kernel
theorem dX12_resets_6 : decode cX12_resets 6 = .ok (.iconst 1, 1) := by decide +kernel
theorem dX12_resets_7 : decode cX12_resets 7 = .ok (.putfield 313, 3) := by decide +kernel
theorem dX12_resets_10 : decode cX12_resets 10 = .ok (.aload_n 0, 1) := by decide +kernel
theorem dX12_resets_11 : decode cX12_resets 11 = .ok (.getfield 39, 3) := by decide +kernel
theorem dX12_resets_14 : decode cX12_resets 14 = .ok (.iconst 0, 1) := by decide +kernel
theorem dX12_resets_15 : decode cX12_resets 15 = .ok (.iconst 0, 1) := by decide +kernel
theorem dX12_resets_16 : decode cX12_resets 16 = .ok (.iastore, 1) := by decide +kernel
theorem dX12_resets_17 : decode cX12_resets 17 = .ok (.aload_n 0, 1) := by decide +kernel
theorem dX12_resets_18 : decode cX12_resets 18 = .ok (.getfield 48, 3) := by decide +kernel
theorem dX12_resets_21 : decode cX12_resets 21 = .ok (.iconst 0, 1) := by decide +kernel
theorem dX12_resets_22 : decode cX12_resets 22 = .ok (.iconst 0, 1) := by decide +kernel
theorem dX12_resets_23 : decode cX12_resets 23 = .ok (.iastore, 1) := by decide +kernel
theorem dX12_resets_24 : decode cX12_resets 24 = .ok (.iconst 0, 1) := by decide +kernel
theorem dX12_resets_25 : decode cX12_resets 25 = .ok (.istore_n 1, 1) := by decide +kernel
theorem dX12_resets_26 : decode cX12_resets 26 = .ok (.iload_n 1, 1) := by decide +kernel
theorem dX12_resets_27 : decode cX12_resets 27 = .ok (.bipush 10, 2) := by decide +kernel
theorem dX12_resets_29 : decode cX12_resets 29 = .ok (.if_icmp .ge 23, 3) := by decide +kernel
theorem dX12_resets_32 : decode cX12_resets 32 = .ok (.aload_n 0, 1) := by decide +kernel
theorem dX12_resets_33 : decode cX12_resets 33 = .ok (.getfield 57, 3) := by decide +kernel
theorem dX12_resets_36 : decode cX12_resets 36 = .ok (.iload_n 1, 1) := by decide +kernel
theorem dX12_resets_37 : decode cX12_resets 37 = .ok (.iconst 0, 1) := by decide +kernel
theorem dX12_resets_38 : decode cX12_resets 38 = .ok (.iastore, 1) := by decide +kernel
theorem dX12_resets_39 : decode cX12_resets 39 = .ok (.aload_n 0, 1) := by decide +kernel
theorem dX12_resets_40 : decode cX12_resets 40 = .ok (.getfield 60, 3) := by decide +kernel
theorem dX12_resets_43 : decode cX12_resets 43 = .ok (.iload_n 1, 1) := by decide +kernel
theorem dX12_resets_44 : decode cX12_resets 44 = .ok (.iconst 0, 1) := by decide +kernel
theorem dX12_resets_45 : decode cX12_resets 45 = .ok (.iastore, 1) := by decide +kernel
theorem dX12_resets_46 : decode cX12_resets 46 = .ok (.iinc 1 1, 3) := by decide +kernel
theorem dX12_resets_49 : decode cX12_resets 49 = .ok (.goto (-23), 3) := by decide +kernel
theorem dX12_resets_52 : decode cX12_resets 52 = .ok (.iconst 0, 1) := by decide +kernel
theorem dX12_resets_53 : decode cX12_resets 53 = .ok (.istore_n 1, 1) := by decide +kernel
theorem dX12_resets_54 : decode cX12_resets 54 = .ok (.iload_n 1, 1) := by decide +kernel
theorem dX12_resets_55 : decode cX12_resets 55 = .ok (.bipush 80, 2) := by decide +kernel
theorem dX12_resets_57 : decode cX12_resets 57 = .ok (.if_icmp .ge 23, 3) := by decide +kernel
theorem dX12_resets_60 : decode cX12_resets 60 = .ok (.aload_n 0, 1) := by decide +kernel
theorem dX12_resets_61 : decode cX12_resets 61 = .ok (.getfield 63, 3) := by decide +kernel
theorem dX12_resets_64 : decode cX12_resets 64 = .ok (.iload_n 1, 1) := by decide +kernel
theorem dX12_resets_65 : decode cX12_resets 65 = .ok (.iconst 0, 1) := by decide +kernel
theorem dX12_resets_66 : decode cX12_resets 66 = .ok (.iastore, 1) := by decide +kernel
theorem dX12_resets_67 : decode cX12_resets 67 = .ok (.aload_n 0, 1) := by decide +kernel
theorem dX12_resets_68 : decode cX12_resets 68 = .ok (.getfield 66, 3) := by decide +kernel
theorem dX12_resets_71 : decode cX12_resets 71 = .ok (.iload_n 1, 1) := by decide +kernel
theorem dX12_resets_72 : decode cX12_resets 72 = .ok (.iconst 0, 1) := by decide +kernel
theorem dX12_resets_73 : decode cX12_resets 73 = .ok (.iastore, 1) := by decide +kernel
theorem dX12_resets_74 : decode cX12_resets 74 = .ok (.iinc 1 1, 3) := by decide +kernel
theorem dX12_resets_77 : decode cX12_resets 77 = .ok (.goto (-23), 3) := by decide +kernel
theorem dX12_resets_80 : decode cX12_resets 80 = .ok (.aload_n 0, 1) := by decide +kernel
theorem dX12_resets_81 : decode cX12_resets 81 = .ok (.iconst 0, 1) := by decide +kernel
theorem dX12_resets_82 : decode cX12_resets 82 = .ok (.putfield 316, 3) := by decide +kernel
theorem dX12_resets_85 : decode cX12_resets 85 = .ok (.return_, 1) := by decide +kernel
theorem dX12_machine_0 : decode cX12_machine 0 = .ok (.aload_n 0, 1) := by decide +kernel
theorem dX12_machine_1 : decode cX12_machine 1 = .ok (.iconst 0, 1) := by decide +kernel
theorem dX12_machine_2 : decode cX12_machine 2 = .ok (.putfield 1, 3) := by decide +kernel
theorem dX12_machine_5 : decode cX12_machine 5 = .ok (.iload_n 1, 1) := by decide +kernel
theorem dX12_machine_6 : decode cX12_machine 6 = .ok (.invokestatic 243, 3) := by decide +kernel
theorem dX12_machine_9 : decode cX12_machine 9 = .ok (.ifCond .ne 6, 3) := by decide +kernel
theorem dX12_machine_12 : decode cX12_machine 12 = .ok (.bipush (-2), 2) := by decide +kernel
theorem dX12_machine_14 : decode cX12_machine 14 = .ok (.ireturn, 1) := by decide +kernel
theorem dX12_machine_15 : decode cX12_machine 15 = .ok (.iload_n 2, 1) := by decide +kernel
theorem dX12_machine_16 : decode cX12_machine 16 = .ok (.i2l, 1) := by decide +kernel
theorem dX12_machine_17 : decode cX12_machine 17 = .ok (.lconst 0, 1) := by decide +kernel
theorem dX12_machine_18 : decode cX12_machine 18 = .ok (.aload_n 0, 1) := by decide +kernel
theorem dX12_machine_19 : decode cX12_machine 19 = .ok (.getfield 159, 3) := by decide +kernel
theorem dX12_machine_22 : decode cX12_machine 22 = .ok (.i2l, 1) := by decide +kernel
theorem dX12_machine_23 : decode cX12_machine 23 = .ok (.invokestatic 182, 3) := by decide +kernel
theorem dX12_machine_26 : decode cX12_machine 26 = .ok (.ifCond .ne 6, 3) := by decide +kernel
theorem dX12_machine_29 : decode cX12_machine 29 = .ok (.bipush (-3), 2) := by decide +kernel
theorem dX12_machine_31 : decode cX12_machine 31 = .ok (.ireturn, 1) := by decide +kernel
theorem dX12_machine_32 : decode cX12_machine 32 = .ok (.aload_n 0, 1) := by decide +kernel
theorem dX12_machine_33 : decode cX12_machine 33 = .ok (.iload_n 2, 1) := by decide +kernel
theorem dX12_machine_34 : decode cX12_machine 34 = .ok (.invokevirtual 246, 3) := by decide +kernel
theorem dX12_machine_37 : decode cX12_machine 37 = .ok (.aload_n 0, 1) := by decide +kernel
theorem dX12_machine_38 : decode cX12_machine 38 = .ok (.getfield 17, 3) := by decide +kernel
theorem dX12_machine_41 : decode cX12_machine 41 = .ok (.invokestatic 128, 3) := by decide +kernel
theorem dX12_machine_44 : decode cX12_machine 44 = .ok (.aload_n 0, 1) := by decide +kernel
theorem dX12_machine_45 : decode cX12_machine 45 = .ok (.iconst 0, 1) := by decide +kernel
theorem dX12_machine_46 : decode cX12_machine 46 = .ok (.putfield 219, 3) := by decide +kernel
theorem dX12_machine_49 : decode cX12_machine 49 = .ok (.aload_n 0, 1) := by decide +kernel
theorem dX12_machine_50 : decode cX12_machine 50 = .ok (.iconst 0, 1) := by decide +kernel
theorem dX12_machine_51 : decode cX12_machine 51 = .ok (.putfield 215, 3) := by decide +kernel
theorem dX12_machine_54 : decode cX12_machine 54 = .ok (.aload_n 0, 1) := by decide +kernel
theorem dX12_machine_55 : decode cX12_machine 55 = .ok (.invokevirtual 249, 3) := by decide +kernel
theorem dX12_machine_58 : decode cX12_machine 58 = .ok (.ifCond .ne 10, 3) := by decide +kernel
theorem dX12_machine_61 : decode cX12_machine 61 = .ok (.aload_n 0, 1) := by decide +kernel
theorem dX12_machine_62 : decode cX12_machine 62 = .ok (.invokevirtual 253, 3) := by decide +kernel
theorem dX12_machine_65 : decode cX12_machine 65 = .ok (.goto (-11), 3) := by decide +kernel
theorem dX12_machine_68 : decode cX12_machine 68 = .ok (.aload_n 0, 1) := by decide +kernel
theorem dX12_machine_69 : decode cX12_machine 69 = .ok (.getfield 168, 3) := by decide +kernel
theorem dX12_machine_72 : decode cX12_machine 72 = .ok (.ifCond .eq 11, 3) := by decide +kernel
theorem dX12_machine_75 : decode cX12_machine 75 = .ok (.bipush (-30), 2) := by decide +kernel
theorem dX12_machine_77 : decode cX12_machine 77 = .ok (.aload_n 0, 1) := by decide +kernel
theorem dX12_machine_78 : decode cX12_machine 78 = .ok (.getfield 168, 3) := by decide +kernel
theorem dX12_machine_81 : decode cX12_machine 81 = .ok (.isub, 1) := by decide +kernel
theorem dX12_machine_82 : decode cX12_machine 82 = .ok (.ireturn, 1) := by decide +kernel
theorem dX12_machine_83 : decode cX12_machine 83 = .ok (.iconst 0, 1) := by decide +kernel
theorem dX12_machine_84 : decode cX12_machine 84 = .ok (.istore_n 3, 1) := by decide +kernel
theorem dX12_machine_85 : decode cX12_machine 85 = .ok (.iload_n 3, 1) := by decide +kernel
theorem dX12_machine_86 : decode cX12_machine 86 = .ok (.bipush 94, 2) := by decide +kernel
theorem dX12_machine_88 : decode cX12_machine 88 = .ok (.if_icmp .ge 26, 3) := by decide +kernel
theorem dX12_machine_91 : decode cX12_machine 91 = .ok (.aload_n 0, 1) := by decide +kernel
theorem dX12_machine_92 : decode cX12_machine 92 = .ok (.getfield 13, 3) := by decide +kernel
theorem dX12_machine_95 : decode cX12_machine 95 = .ok (.bipush 94, 2) := by decide +kernel
theorem dX12_machine_97 : decode cX12_machine 97 = .ok (.iload_n 1, 1) := by decide +kernel
theorem dX12_machine_98 : decode cX12_machine 98 = .ok (.imul, 1) := by decide +kernel
theorem dX12_machine_99 : decode cX12_machine 99 = .ok (.iload_n 3, 1) := by decide +kernel
theorem dX12_machine_100 : decode cX12_machine 100 = .ok (.iadd, 1) := by decide +kernel
theorem dX12_machine_101 : decode cX12_machine 101 = .ok (.aload_n 0, 1) := by decide +kernel
theorem dX12_machine_102 : decode cX12_machine 102 = .ok (.getfield 17, 3) := by decide +kernel
theorem dX12_machine_105 : decode cX12_machine 105 = .ok (.iload_n 3, 1) := by decide +kernel
theorem dX12_machine_106 : decode cX12_machine 106 = .ok (.iaload, 1) := by decide +kernel
theorem dX12_machine_107 : decode cX12_machine 107 = .ok (.iastore, 1) := by decide +kernel
theorem dX12_machine_108 : decode cX12_machine 108 = .ok (.iinc 3 1, 3) := by decide +kernel
theorem dX12_machine_111 : decode cX12_machine 111 = .ok (.goto (-26), 3) := by decide +kernel
theorem dX12_machine_114 : decode cX12_machine 114 = .ok (.iload_n 1, 1) := by decide +kernel
theorem dX12_machine_115 : decode cX12_machine 115 = .ok (.ifCond .ne 7, 3) := by decide +kernel
theorem dX12_machine_118 : decode cX12_machine 118 = .ok (.aload_n 0, 1) := by decide +kernel
theorem dX12_machine_119 : decode cX12_machine 119 = .ok (.invokevirtual 132, 3) := by decide +kernel
theorem dX12_machine_122 : decode cX12_machine 122 = .ok (.aload_n 0, 1) := by decide +kernel
theorem dX12_machine_123 : decode cX12_machine 123 = .ok (.iload_n 1, 1) := by decide +kernel
theorem dX12_machine_124 : decode cX12_machine 124 = .ok (.invokevirtual 256, 3) := by decide +kernel
theorem dX12_machine_127 : decode cX12_machine 127 = .ok (.ireturn, 1) := by decide +kernel
theorem dX12_word_0 : decode cX12_word 0 = .ok (.aload_n 0, 1) := by decide +kernel
theorem dX12_word_1 : decode cX12_word 1 = .ok (.iconst 0, 1) := by decide +kernel
theorem dX12_word_2 : decode cX12_word 2 = .ok (.putfield 1, 3) := by decide +kernel
theorem dX12_word_5 : decode cX12_word 5 = .ok (.iload_n 1, 1) := by decide +kernel
theorem dX12_word_6 : decode cX12_word 6 = .ok (.i2l, 1) := by decide +kernel
theorem dX12_word_7 : decode cX12_word 7 = .ok (.lconst 0, 1) := by decide +kernel
theorem dX12_word_8 : decode cX12_word 8 = .ok (.aload_n 0, 1) := by decide +kernel
theorem dX12_word_9 : decode cX12_word 9 = .ok (.getfield 159, 3) := by decide +kernel
theorem dX12_word_12 : decode cX12_word 12 = .ok (.i2l, 1) := by decide +kernel
theorem dX12_word_13 : decode cX12_word 13 = .ok (.invokestatic 182, 3) := by decide +kernel
theorem dX12_word_16 : decode cX12_word 16 = .ok (.ifCond .ne 6, 3) := by decide +kernel
theorem dX12_word_19 : decode cX12_word 19 = .ok (.bipush (-3), 2) := by decide +kernel
theorem dX12_word_21 : decode cX12_word 21 = .ok (.ireturn, 1) := by decide +kernel
theorem dX12_word_22 : decode cX12_word 22 = .ok (.aload_n 0, 1) := by decide +kernel
theorem dX12_word_23 : decode cX12_word 23 = .ok (.iload_n 1, 1) := by decide +kernel
theorem dX12_word_24 : decode cX12_word 24 = .ok (.invokevirtual 246, 3) := by decide +kernel
theorem dX12_word_27 : decode cX12_word 27 = .ok (.iconst 0, 1) := by decide +kernel
theorem dX12_word_28 : decode cX12_word 28 = .ok (.istore_n 2, 1) := by decide +kernel
theorem dX12_word_29 : decode cX12_word 29 = .ok (.aload_n 0, 1) := by decide +kernel
theorem dX12_word_30 : decode cX12_word 30 = .ok (.invokevirtual 249, 3) := by decide +kernel
theorem dX12_word_33 : decode cX12_word 33 = .ok (.ifCond .ne 73, 3) := by decide +kernel
theorem dX12_word_36 : decode cX12_word 36 = .ok (.aload_n 0, 1) := by decide +kernel
theorem dX12_word_37 : decode cX12_word 37 = .ok (.getfield 162, 3) := by decide +kernel
theorem dX12_word_40 : decode cX12_word 40 = .ok (.istore_n 3, 1) := by decide +kernel
theorem dX12_word_41 : decode cX12_word 41 = .ok (.aload_n 0, 1) := by decide +kernel
theorem dX12_word_42 : decode cX12_word 42 = .ok (.iconst 2, 1) := by decide +kernel
theorem dX12_word_43 : decode cX12_word 43 = .ok (.invokevirtual 222, 3) := by decide +kernel
theorem dX12_word_46 : decode cX12_word 46 = .ok (.istore 4, 2) := by decide +kernel
theorem dX12_word_48 : decode cX12_word 48 = .ok (.iload_n 2, 1) := by decide +kernel
theorem dX12_word_49 : decode cX12_word 49 = .ok (.bipush 12, 2) := by decide +kernel
theorem dX12_word_51 : decode cX12_word 51 = .ok (.if_icmp .ne 9, 3) := by decide +kernel
theorem dX12_word_54 : decode cX12_word 54 = .ok (.aload_n 0, 1) := by decide +kernel
theorem dX12_word_55 : decode cX12_word 55 = .ok (.iconst 3, 1) := by decide +kernel
theorem dX12_word_56 : decode cX12_word 56 = .ok (.iload_n 3, 1) := by decide +kernel
theorem dX12_word_57 : decode cX12_word 57 = .ok (.invokevirtual 204, 3) := by decide +kernel
theorem dX12_word_60 : decode cX12_word 60 = .ok (.aload_n 0, 1) := by decide +kernel
theorem dX12_word_61 : decode cX12_word 61 = .ok (.iconst 0, 1) := by decide +kernel
theorem dX12_word_62 : decode cX12_word 62 = .ok (.bipush 99, 2) := by decide +kernel
theorem dX12_word_64 : decode cX12_word 64 = .ok (.invokevirtual 212, 3) := by decide +kernel
theorem dX12_word_67 : decode cX12_word 67 = .ok (.istore 5, 2) := by decide +kernel
theorem dX12_word_69 : decode cX12_word 69 = .ok (.aload_n 0, 1) := by decide +kernel
theorem dX12_word_70 : decode cX12_word 70 = .ok (.getfield 168, 3) := by decide +kernel
theorem dX12_word_73 : decode cX12_word 73 = .ok (.ifCond .eq 11, 3) := by decide +kernel
theorem dX12_word_76 : decode cX12_word 76 = .ok (.bipush (-30), 2) := by decide +kernel
theorem dX12_word_78 : decode cX12_word 78 = .ok (.aload_n 0, 1) := by decide +kernel
theorem dX12_word_79 : decode cX12_word 79 = .ok (.getfield 168, 3) := by decide +kernel
theorem dX12_word_82 : decode cX12_word 82 = .ok (.isub, 1) := by decide +kernel
theorem dX12_word_83 : decode cX12_word 83 = .ok (.ireturn, 1) := by decide +kernel
theorem dX12_word_84 : decode cX12_word 84 = .ok (.aload_n 0, 1) := by decide +kernel
theorem dX12_word_85 : decode cX12_word 85 = .ok (.getfield 33, 3) := by decide +kernel
theorem dX12_word_88 : decode cX12_word 88 = .ok (.iload_n 2, 1) := by decide +kernel
theorem dX12_word_89 : decode cX12_word 89 = .ok (.iload 4, 2) := by decide +kernel
theorem dX12_word_91 : decode cX12_word 91 = .ok (.iastore, 1) := by decide +kernel
theorem dX12_word_92 : decode cX12_word 92 = .ok (.aload_n 0, 1) := by decide +kernel
theorem dX12_word_93 : decode cX12_word 93 = .ok (.getfield 36, 3) := by decide +kernel
theorem dX12_word_96 : decode cX12_word 96 = .ok (.iload_n 2, 1) := by decide +kernel
theorem dX12_word_97 : decode cX12_word 97 = .ok (.iload 5, 2) := by decide +kernel
theorem dX12_word_99 : decode cX12_word 99 = .ok (.iastore, 1) := by decide +kernel
theorem dX12_word_100 : decode cX12_word 100 = .ok (.iinc 2 1, 3) := by decide +kernel
theorem dX12_word_103 : decode cX12_word 103 = .ok (.goto (-74), 3) := by decide +kernel
theorem dX12_word_106 : decode cX12_word 106 = .ok (.aload_n 0, 1) := by decide +kernel
theorem dX12_word_107 : decode cX12_word 107 = .ok (.iload_n 2, 1) := by decide +kernel
theorem dX12_word_108 : decode cX12_word 108 = .ok (.putfield 259, 3) := by decide +kernel
theorem dX12_word_111 : decode cX12_word 111 = .ok (.iconst 0, 1) := by decide +kernel
theorem dX12_word_112 : decode cX12_word 112 = .ok (.istore_n 3, 1) := by decide +kernel
theorem dX12_word_113 : decode cX12_word 113 = .ok (.iload_n 3, 1) := by decide +kernel
theorem dX12_word_114 : decode cX12_word 114 = .ok (.iload_n 2, 1) := by decide +kernel
theorem dX12_word_115 : decode cX12_word 115 = .ok (.if_icmp .ge 33, 3) := by decide +kernel
theorem dX12_word_118 : decode cX12_word 118 = .ok (.aload_n 0, 1) := by decide +kernel
theorem dX12_word_119 : decode cX12_word 119 = .ok (.getfield 27, 3) := by decide +kernel
theorem dX12_word_122 : decode cX12_word 122 = .ok (.iload_n 3, 1) := by decide +kernel
theorem dX12_word_123 : decode cX12_word 123 = .ok (.aload_n 0, 1) := by decide +kernel
theorem dX12_word_124 : decode cX12_word 124 = .ok (.getfield 33, 3) := by decide +kernel
theorem dX12_word_127 : decode cX12_word 127 = .ok (.iload_n 3, 1) := by decide +kernel
theorem dX12_word_128 : decode cX12_word 128 = .ok (.iaload, 1) := by decide +kernel
theorem dX12_word_129 : decode cX12_word 129 = .ok (.iastore, 1) := by decide +kernel
theorem dX12_word_130 : decode cX12_word 130 = .ok (.aload_n 0, 1) := by decide +kernel
theorem dX12_word_131 : decode cX12_word 131 = .ok (.getfield 30, 3) := by decide +kernel
theorem dX12_word_134 : decode cX12_word 134 = .ok (.iload_n 3, 1) := by decide +kernel
theorem dX12_word_135 : decode cX12_word 135 = .ok (.aload_n 0, 1) := by decide +kernel
theorem dX12_word_136 : decode cX12_word 136 = .ok (.getfield 36, 3) := by decide +kernel
theorem dX12_word_139 : decode cX12_word 139 = .ok (.iload_n 3, 1) := by decide +kernel
theorem dX12_word_140 : decode cX12_word 140 = .ok (.iaload, 1) := by decide +kernel
theorem dX12_word_141 : decode cX12_word 141 = .ok (.iastore, 1) := by decide +kernel
theorem dX12_word_142 : decode cX12_word 142 = .ok (.iinc 3 1, 3) := by decide +kernel
theorem dX12_word_145 : decode cX12_word 145 = .ok (.goto (-32), 3) := by decide +kernel
theorem dX12_word_148 : decode cX12_word 148 = .ok (.iload_n 2, 1) := by decide +kernel
theorem dX12_word_149 : decode cX12_word 149 = .ok (.ireturn, 1) := by decide +kernel
def f_X12_isIn (x0 : Int64) (x2 : Int64) (x4 : Int64) (D : Dm) : Option (Int32 × Dm) := if (lg_cmp x0 x2) < 0 then (some (0, D)) else (if 0 < (lg_cmp x0 x4) then (some (0, D)) else (some (1, D)))
def f_X12_empties_18_b (k18 : Nat → Nat → Int32 → Dm → Option Dm) (r0 : Nat) (n0 : Nat) (x1 : Int32) (D : Dm) : Option Dm := if 94 ≤ x1 then (some D) else (gd (inB x1 n0) (lt (ud D r0 (Int32.toNatClampNeg x1) (-1)) fun D3 => lt (x1 + 1) fun y5 => k18 r0 n0 y5 D3))
def f_X12_empties_18 : Nat → Nat → Nat → Int32 → Dm → Option Dm
  | 0, _, _, _, _ => none
  | n + 1, r0, n0, x1, D => f_X12_empties_18_b (f_X12_empties_18 n) r0 n0 x1 D
def f_X12_empties (r0 : Nat) (n0 : Nat) (D : Dm) : Option Dm := gd (inB 0 n0) (lt (ud D r0 (Int32.toNatClampNeg 0) 1) fun D2 => gd (inB 1 n0) (lt (ud D2 r0 (Int32.toNatClampNeg 1) 0) fun D5 => gd (inB 2 n0) (lt (ud D5 r0 (Int32.toNatClampNeg 2) 1) fun D8 => gd (inB 3 n0) (lt (ud D8 r0 (Int32.toNatClampNeg 3) 0) fun D11 => f_X12_empties_18 FU r0 n0 4 D11))))
def f_X12_its (x1 : Int32) (x2 : Int32) (D : Dm) : Option (Int32 × Dm) := gd (inB ((94 * x1) + x2) 188) (some ((D 282 (Int32.toNatClampNeg ((94 * x1) + x2))), D))
def f_X12_moveAt (x0 : Int32) (x1 : Int32) (x2 : Int32) (D : Dm) : Option (Int32 × Dm) := some ((4 + (3 * (((6 * x0) + (3 * x1)) + x2))), D)
def f_X12_isMachine_9  (D : Dm) : Option (Int32 × Dm) := some (1, D)
def f_X12_isMachine (x0 : Int32) (D : Dm) : Option (Int32 × Dm) := if x0 = 0 then (f_X12_isMachine_9 D) else (if x0 = 1 then (f_X12_isMachine_9 D) else (some (0, D)))
def f_X12_starts  (D : Dm) : Option Dm := lt (ud D 281 3 0) fun D1 => lt (ud D1 281 4 (-1)) fun D3 => lt (ud D3 281 5 (-1)) fun D5 => some D5
def f_X12_stays (x1 : Int32) (x2 : Int32) (x3 : Int32) (D : Dm) : Option Dm := lt (ud D 281 3 x1) fun D1 => lt (ud D1 281 4 x2) fun D3 => lt (ud D3 281 5 x3) fun D5 => some D5
def f_X12_loses  (D : Dm) : Option Dm := bV (f_X12_stays (-1) (-1) (-1) D) fun D1 => some D1
def f_X12_goesBy_202 (x6 : Int32) (D : Dm) : Option Dm := gd (inB x6 188) (lt (ud D 281 3 (D 282 (Int32.toNatClampNeg x6))) fun D2 => some D2)
def f_X12_goesBy_191 (x6 : Int32) (x8 : Int32) (D : Dm) : Option Dm := if x8 = 1 then (lt (ud D 281 5 (-1)) fun D2 => f_X12_goesBy_202 x6 D2) else (f_X12_goesBy_202 x6 D)
def f_X12_goesBy_181 (x6 : Int32) (x8 : Int32) (D : Dm) : Option Dm := if x8 = 0 then (lt (ud D 281 4 (-1)) fun D2 => f_X12_goesBy_191 x6 x8 D2) else (f_X12_goesBy_191 x6 x8 D)
def f_X12_goesBy_170 (x3 : Int32) (x6 : Int32) (x7 : Int32) (x8 : Int32) (D : Dm) : Option Dm := if x7 = 1 then (lt (ud D 281 5 x3) fun D2 => f_X12_goesBy_181 x6 x8 D2) else (f_X12_goesBy_181 x6 x8 D)
def f_X12_goesBy_112 (x2 : Int32) (x3 : Int32) (x4 : Int32) (x5 : Int32) (D : Dm) : Option Dm := if x5 = (-1) then (bV (f_X12_loses D) fun D16 => some D16) else (bI (f_X12_moveAt (D 281 3) x2 x5 D) fun y4 D2 => lt (x4 + y4) fun y5 => gd (inB (y5 + 1) 188) (lt (D2 282 (Int32.toNatClampNeg (y5 + 1))) fun y8 => gd (inB (y5 + 2) 188) (lt (D2 282 (Int32.toNatClampNeg (y5 + 2))) fun y11 => if y8 = 0 then (lt (ud D2 281 4 x3) fun D14 => f_X12_goesBy_170 x3 y5 y8 y11 D14) else (f_X12_goesBy_170 x3 y5 y8 y11 D2))))
def f_X12_goesBy_88 (x2 : Int32) (x3 : Int32) (x4 : Int32) (x5 : Int32) (D : Dm) : Option Dm := bI (f_X12_moveAt (D 281 3) x2 2 D) fun y3 D1 => gd (inB (x4 + y3) 188) (if (D1 282 (Int32.toNatClampNeg (x4 + y3))) = (-1) then (f_X12_goesBy_112 x2 x3 x4 x5 D1) else (f_X12_goesBy_112 x2 x3 x4 2 D1))
def f_X12_goesBy_53 (x2 : Int32) (x3 : Int32) (x4 : Int32) (x5 : Int32) (D : Dm) : Option Dm := if (D 281 5) = x3 then (bI (f_X12_moveAt (D 281 3) x2 1 D) fun y4 D2 => gd (inB (x4 + y4) 188) (if (D2 282 (Int32.toNatClampNeg (x4 + y4))) = (-1) then (f_X12_goesBy_88 x2 x3 x4 x5 D2) else (f_X12_goesBy_112 x2 x3 x4 1 D2))) else (f_X12_goesBy_88 x2 x3 x4 x5 D)
def f_X12_goesBy (x1 : Int32) (x2 : Int32) (x3 : Int32) (D : Dm) : Option Dm := if (D 281 3) = (-1) then (some D) else (lt (94 * x1) fun y2 => if (D 281 4) = x3 then (bI (f_X12_moveAt (D 281 3) x2 0 D) fun y7 D5 => gd (inB (y2 + y7) 188) (if (D5 282 (Int32.toNatClampNeg (y2 + y7))) = (-1) then (f_X12_goesBy_53 x2 x3 y2 (-1) D5) else (f_X12_goesBy_112 x2 x3 y2 0 D5))) else (f_X12_goesBy_53 x2 x3 y2 (-1) D))
def f_X12_accepts (x1 : Int32) (D : Dm) : Option (Int32 × Dm) := if (D 281 3) = (-1) then (some (0, D)) else (bI (f_X12_its x1 3 D) fun y4 D2 => if ((y4 >>> ((D2 281 3) &&& 31)) &&& 1) = 1 then (some (1, D2)) else (some (0, D2)))
def f_X12_feed_77 (k24 : Int32 → Int32 → Int32 → Int32 → Int32 → Int32 → Dm → Option (Int32 × Dm)) (x1 : Int32) (x2 : Int32) (x3 : Int32) (x4 : Int32) (x5 : Int32) (x6 : Int32) (xs0 : Int32) (D : Dm) : Option (Int32 × Dm) := gd (inB (D 281 7) 500) (lt (ud D 284 (Int32.toNatClampNeg (D 281 7)) (i2b (i2b (xs0 >>> ((24 - (8 * (x6 - x6 / 4 * 4))) &&& 31))))) fun D2 => lt (ud D2 281 7 ((D2 281 7) + 1)) fun D4 => lt (x6 + 1) fun y6 => k24 x1 x2 x3 x4 x5 y6 D4)
def f_X12_feed_24_b (k24 : Int32 → Int32 → Int32 → Int32 → Int32 → Int32 → Dm → Option (Int32 × Dm)) (x1 : Int32) (x2 : Int32) (x3 : Int32) (x4 : Int32) (x5 : Int32) (x6 : Int32) (D : Dm) : Option (Int32 × Dm) := if 20 ≤ x6 then (some ((D 281 7), D)) else (if 4 ≤ x6 then (if 8 ≤ x6 then (if 12 ≤ x6 then (if 16 ≤ x6 then (f_X12_feed_77 k24 x1 x2 x3 x4 x5 x6 x5 D) else (f_X12_feed_77 k24 x1 x2 x3 x4 x5 x6 x4 D)) else (f_X12_feed_77 k24 x1 x2 x3 x4 x5 x6 x3 D)) else (f_X12_feed_77 k24 x1 x2 x3 x4 x5 x6 x2 D)) else (f_X12_feed_77 k24 x1 x2 x3 x4 x5 x6 x1 D))
def f_X12_feed_24 : Nat → Int32 → Int32 → Int32 → Int32 → Int32 → Int32 → Dm → Option (Int32 × Dm)
  | 0, _, _, _, _, _, _, _ => none
  | n + 1, x1, x2, x3, x4, x5, x6, D => f_X12_feed_24_b (f_X12_feed_24 n) x1 x2 x3 x4 x5 x6 D
def f_X12_feed (x1 : Int32) (x2 : Int32) (x3 : Int32) (x4 : Int32) (x5 : Int32) (D : Dm) : Option (Int32 × Dm) := lt (ud D 281 0 0) fun D1 => if ((D1 281 7) + 20) ≤ 500 then (f_X12_feed_24 FU x1 x2 x3 x4 x5 0 D1) else (some ((-4), D1))
def f_X12_peek  (D : Dm) : Option (Int32 × Dm) := if (D 281 8) ≤ (D 281 9) then (some ((-1), D)) else (gd (inB (D 281 9) 500) (some (((D 284 (Int32.toNatClampNeg (D 281 9))) &&& 255), D)))
def f_X12_fails (x1 : Int32) (x2 : Int32) (D : Dm) : Option Dm := if (D 281 10) = 0 then (lt (ud D 281 10 x1) fun D2 => lt (ud D2 281 11 x2) fun D4 => some D4) else (some D)
def f_X12_blanks_0_b (k0 : Dm → Option Dm)  (D : Dm) : Option Dm := bI (f_X12_peek D) fun y3 D1 => if y3 = 32 then (lt (ud D1 281 9 ((D1 281 9) + 1)) fun D5 => k0 D5) else (some D1)
def f_X12_blanks_0 : Nat → Dm → Option Dm
  | 0, _ => none
  | n + 1, D => f_X12_blanks_0_b (f_X12_blanks_0 n) D
def f_X12_blanks  (D : Dm) : Option Dm := f_X12_blanks_0 FU D
def f_X12_isOver_19  (D : Dm) : Option (Int32 × Dm) := some (1, D)
def f_X12_isOver  (D : Dm) : Option (Int32 × Dm) := bV (f_X12_blanks D) fun D1 => if (D1 281 10) = 0 then (bI (f_X12_peek D1) fun y6 D4 => if y6 = (-1) then (f_X12_isOver_19 D4) else (some (0, D4))) else (f_X12_isOver_19 D1)
def f_X12_wordNext_148 (k46 : Int32 → Int32 → Int32 → Dm → Option (Int32 × Dm)) (x1 : Int32) (x2 : Int32) (x3 : Int32) (x4 : Int32) (x5 : Int32) (D : Dm) : Option (Int32 × Dm) := if x5 = 0 then (lt (x3 + (x4 + 1)) fun y2 => lt (x2 + 1) fun y4 => k46 x1 y4 y2 D) else (some (x2, D))
def f_X12_wordNext_140 (k46 : Int32 → Int32 → Int32 → Dm → Option (Int32 × Dm)) (k99 : Int32 → Int32 → Int32 → Int32 → Int32 → Int32 → Dm → Option (Int32 × Dm)) (x1 : Int32) (x2 : Int32) (x3 : Int32) (x4 : Int32) (x6 : Int32) (xs0 : Int32) (D : Dm) : Option (Int32 × Dm) := lt (x6 + 1) fun y1 => k99 x1 x2 x3 x4 xs0 y1 D
def f_X12_wordNext_99_b (k46 : Int32 → Int32 → Int32 → Dm → Option (Int32 × Dm)) (k99 : Int32 → Int32 → Int32 → Int32 → Int32 → Int32 → Dm → Option (Int32 × Dm)) (x1 : Int32) (x2 : Int32) (x3 : Int32) (x4 : Int32) (x5 : Int32) (x6 : Int32) (D : Dm) : Option (Int32 × Dm) := if x4 ≤ x6 then (f_X12_wordNext_148 k46 x1 x2 x3 x4 x5 D) else (if x5 = 0 then (f_X12_wordNext_148 k46 x1 x2 x3 x4 x5 D) else (gd (inB ((D 281 9) + x6) 500) (gd (inB (x3 + x6) (slN 13)) (if (D 284 (Int32.toNatClampNeg ((D 281 9) + x6))) = (sch 13 (Int32.toNatClampNeg (x3 + x6))) then (f_X12_wordNext_140 k46 k99 x1 x2 x3 x4 x6 1 D) else (f_X12_wordNext_140 k46 k99 x1 x2 x3 x4 x6 0 D)))))
def f_X12_wordNext_99 (k46 : Int32 → Int32 → Int32 → Dm → Option (Int32 × Dm)) : Nat → Int32 → Int32 → Int32 → Int32 → Int32 → Int32 → Dm → Option (Int32 × Dm)
  | 0, _, _, _, _, _, _, _ => none
  | n + 1, x1, x2, x3, x4, x5, x6, D => f_X12_wordNext_99_b k46 (f_X12_wordNext_99 k46 n) x1 x2 x3 x4 x5 x6 D
def f_X12_wordNext_94 (k46 : Int32 → Int32 → Int32 → Dm → Option (Int32 × Dm)) (x1 : Int32) (x2 : Int32) (x3 : Int32) (x4 : Int32) (xs0 : Int32) (D : Dm) : Option (Int32 × Dm) := f_X12_wordNext_99 k46 FU x1 x2 x3 x4 xs0 0 D
def f_X12_wordNext_58_b (k46 : Int32 → Int32 → Int32 → Dm → Option (Int32 × Dm)) (k58 : Int32 → Int32 → Int32 → Int32 → Dm → Option (Int32 × Dm)) (x1 : Int32) (x2 : Int32) (x3 : Int32) (x4 : Int32) (D : Dm) : Option (Int32 × Dm) := gd (inB (x3 + x4) (slN 13)) (if (sch 13 (Int32.toNatClampNeg (x3 + x4))) = 32 then (if x4 = (x1 - (D 281 9)) then (f_X12_wordNext_94 k46 x1 x2 x3 x4 1 D) else (f_X12_wordNext_94 k46 x1 x2 x3 x4 0 D)) else (lt (x4 + 1) fun y4 => k58 x1 x2 x3 y4 D))
def f_X12_wordNext_58 (k46 : Int32 → Int32 → Int32 → Dm → Option (Int32 × Dm)) : Nat → Int32 → Int32 → Int32 → Int32 → Dm → Option (Int32 × Dm)
  | 0, _, _, _, _, _ => none
  | n + 1, x1, x2, x3, x4, D => f_X12_wordNext_58_b k46 (f_X12_wordNext_58 k46 n) x1 x2 x3 x4 D
def f_X12_wordNext_46_b (k46 : Int32 → Int32 → Int32 → Dm → Option (Int32 × Dm)) (x1 : Int32) (x2 : Int32) (x3 : Int32) (D : Dm) : Option (Int32 × Dm) := if (slI 13) ≤ x3 then (some ((-1), D)) else (f_X12_wordNext_58 k46 FU x1 x2 x3 0 D)
def f_X12_wordNext_46 : Nat → Int32 → Int32 → Int32 → Dm → Option (Int32 × Dm)
  | 0, _, _, _, _ => none
  | n + 1, x1, x2, x3, D => f_X12_wordNext_46_b (f_X12_wordNext_46 n) x1 x2 x3 D
def f_X12_wordNext_42 (x1 : Int32) (D : Dm) : Option (Int32 × Dm) := f_X12_wordNext_46 FU x1 0 0 D
def f_X12_wordNext_9_b (k9 : Int32 → Dm → Option (Int32 × Dm)) (x1 : Int32) (D : Dm) : Option (Int32 × Dm) := if (D 281 8) ≤ x1 then (f_X12_wordNext_42 x1 D) else (gd (inB x1 500) (bI (f_X12_isIn (Int32.toInt64 (D 284 (Int32.toNatClampNeg x1))) 97 122 D) fun y5 D3 => if y5 = 0 then (f_X12_wordNext_42 x1 D3) else (lt (x1 + 1) fun y7 => k9 y7 D3)))
def f_X12_wordNext_9 : Nat → Int32 → Dm → Option (Int32 × Dm)
  | 0, _, _ => none
  | n + 1, x1, D => f_X12_wordNext_9_b (f_X12_wordNext_9 n) x1 D
def f_X12_wordNext  (D : Dm) : Option (Int32 × Dm) := bV (f_X12_blanks D) fun D1 => lt (D1 281 9) fun y3 => f_X12_wordNext_9 FU y3 D1
def f_X12_takes_17_b (k17 : Dm → Option (Int32 × Dm))  (D : Dm) : Option (Int32 × Dm) := if (D 281 8) ≤ (D 281 9) then (some (1, D)) else (gd (inB (D 281 9) 500) (bI (f_X12_isIn (Int32.toInt64 (D 284 (Int32.toNatClampNeg (D 281 9)))) 97 122 D) fun y5 D3 => if y5 = 0 then (some (1, D3)) else (lt (ud D3 281 9 ((D3 281 9) + 1)) fun D7 => k17 D7)))
def f_X12_takes_17 : Nat → Dm → Option (Int32 × Dm)
  | 0, _ => none
  | n + 1, D => f_X12_takes_17_b (f_X12_takes_17 n) D
def f_X12_takes (x1 : Int32) (D : Dm) : Option (Int32 × Dm) := if (D 281 10) = 0 then (bI (f_X12_wordNext D) fun y4 D2 => if y4 = x1 then (f_X12_takes_17 FU D2) else (some (0, D2))) else (some (0, D))
def f_X12_must (x1 : Int32) (D : Dm) : Option Dm := if (D 281 10) = 0 then (bI (f_X12_takes x1 D) fun y4 D2 => if y4 = 0 then (bV (f_X12_fails 1 (D2 281 9) D2) fun D6 => some D6) else (some D2)) else (some D)
def f_X12_number_115 (x3 : Int32) (x4 : Int32) (D : Dm) : Option (Int32 × Dm) := bV (f_X12_fails 2 x3 D) fun D1 => some (x4, D1)
def f_X12_number_63 (k21 : Int32 → Int32 → Int32 → Int32 → Dm → Option (Int32 × Dm)) (x1 : Int32) (x2 : Int32) (x3 : Int32) (x4 : Int32) (D : Dm) : Option (Int32 × Dm) := lt (ud D 281 9 ((D 281 9) + 1)) fun D1 => k21 x1 x2 x3 x4 D1
def f_X12_number_21_b (k21 : Int32 → Int32 → Int32 → Int32 → Dm → Option (Int32 × Dm)) (x1 : Int32) (x2 : Int32) (x3 : Int32) (x4 : Int32) (D : Dm) : Option (Int32 × Dm) := bI (f_X12_peek D) fun y3 D1 => bI (f_X12_isIn (Int32.toInt64 y3) 48 57 D1) fun y6 D4 => if y6 = 0 then (if (D4 281 9) = x3 then (bV (f_X12_fails 1 x3 D4) fun D12 => some (x4, D12)) else (if 2 < ((D4 281 9) - x3) then (f_X12_number_115 x3 x4 D4) else (if x4 < x1 then (f_X12_number_115 x3 x4 D4) else (if x4 ≤ x2 then (some (x4, D4)) else (f_X12_number_115 x3 x4 D4))))) else (if 2 ≤ ((D4 281 9) - x3) then (f_X12_number_63 k21 x1 x2 x3 x4 D4) else (bI (f_X12_peek D4) fun y17 D15 => lt (((10 * x4) + y17) - 48) fun y18 => f_X12_number_63 k21 x1 x2 x3 y18 D15))
def f_X12_number_21 : Nat → Int32 → Int32 → Int32 → Int32 → Dm → Option (Int32 × Dm)
  | 0, _, _, _, _, _ => none
  | n + 1, x1, x2, x3, x4, D => f_X12_number_21_b (f_X12_number_21 n) x1 x2 x3 x4 D
def f_X12_number (x1 : Int32) (x2 : Int32) (D : Dm) : Option (Int32 × Dm) := if (D 281 10) = 0 then (bV (f_X12_blanks D) fun D2 => lt (D2 281 9) fun y4 => f_X12_number_21 FU x1 x2 y4 0 D2) else (some (x1, D))
def f_X12_symbol_27  (D : Dm) : Option (Int32 × Dm) := bV (f_X12_blanks D) fun D1 => bV (f_X12_fails 1 (D1 281 9) D1) fun D3 => some (0, D3)
def f_X12_symbol (x1 : Int32) (D : Dm) : Option (Int32 × Dm) := bI (f_X12_takes 10 D) fun y3 D1 => if y3 = 0 then (if x1 ≤ 1 then (f_X12_symbol_27 D1) else (bI (f_X12_takes 11 D1) fun y8 D6 => if y8 = 0 then (f_X12_symbol_27 D6) else (some (1, D6)))) else (some (0, D1))
def f_X12_ends_29  (D : Dm) : Option Dm := lt (ud D 281 9 ((D 281 9) + 1)) fun D1 => some D1
def f_X12_ends  (D : Dm) : Option Dm := bV (f_X12_blanks D) fun D1 => if (D1 281 10) = 0 then (bI (f_X12_peek D1) fun y6 D4 => if y6 = 59 then (f_X12_ends_29 D4) else (bV (f_X12_fails 1 (D4 281 9) D4) fun D8 => f_X12_ends_29 D8)) else (f_X12_ends_29 D1)
def f_X12_manyLine_35 (x4 : Int32) (D : Dm) : Option Dm := bV (f_X12_fails 3 x4 D) fun D1 => some D1
def f_X12_manyLine (x1 : Int32) (x2 : Int32) (x3 : Int32) (x4 : Int32) (D : Dm) : Option Dm := bI (f_X12_number x2 x3 D) fun y3 D1 => if (D1 281 10) = 0 then (if (D1 281 13) = 0 then (if (((D1 281 12) >>> (x1 &&& 31)) &&& 1) = 1 then (f_X12_manyLine_35 x4 D1) else (lt (ud D1 281 12 ((D1 281 12) ||| (1 <<< (x1 &&& 31)))) fun D7 => gd (inB x1 94) (lt (ud D7 283 (Int32.toNatClampNeg x1) y3) fun D10 => some D10))) else (f_X12_manyLine_35 x4 D1)) else (some D1)
def f_X12_acceptLine_42 (x2 : Int32) (D : Dm) : Option Dm := lt (ud D 283 3 ((D 283 3) ||| (1 <<< (x2 &&& 31)))) fun D3 => lt (ud D3 281 13 1) fun D5 => some D5
def f_X12_acceptLine (x1 : Int32) (D : Dm) : Option Dm := bI (f_X12_number 0 ((D 283 0) - 1) D) fun y4 D2 => if (D2 281 10) = 0 then (if (((D2 283 3) >>> (y4 &&& 31)) &&& 1) = 1 then (bV (f_X12_fails 3 x1 D2) fun D8 => f_X12_acceptLine_42 y4 D8) else (f_X12_acceptLine_42 y4 D2)) else (some D2)
def f_X12_moveLine_182 (x5 : Int32) (x6 : Int32) (x7 : Int32) (x8 : Int32) (D : Dm) : Option Dm := gd (inB x8 94) (lt (ud D 283 (Int32.toNatClampNeg x8) x5) fun D2 => gd (inB (x8 + 1) 94) (lt (ud D2 283 (Int32.toNatClampNeg (x8 + 1)) x6) fun D5 => gd (inB (x8 + 2) 94) (lt (ud D5 283 (Int32.toNatClampNeg (x8 + 2)) x7) fun D8 => lt (ud D8 281 13 1) fun D10 => some D10)))
def f_X12_moveLine_146 (x1 : Int32) (x2 : Int32) (x3 : Int32) (x4 : Int32) (x5 : Int32) (x6 : Int32) (xs0 : Int32) (D : Dm) : Option Dm := if (D 281 10) = 0 then (bI (f_X12_moveAt x2 x3 x4 D) fun y4 D2 => gd (inB y4 94) (if (D2 283 (Int32.toNatClampNeg y4)) = (-1) then (f_X12_moveLine_182 x5 x6 xs0 y4 D2) else (bV (f_X12_fails 3 x1 D2) fun D7 => f_X12_moveLine_182 x5 x6 xs0 y4 D7))) else (some D)
def f_X12_moveLine_118 (x1 : Int32) (x2 : Int32) (x3 : Int32) (x4 : Int32) (x5 : Int32) (xs0 : Int32) (D : Dm) : Option Dm := bI (f_X12_takes 9 D) fun y3 D1 => if y3 = 0 then (f_X12_moveLine_146 x1 x2 x3 x4 x5 xs0 (-1) D1) else (bI (f_X12_number 0 ((D1 283 1) - 1) D1) fun y8 D6 => f_X12_moveLine_146 x1 x2 x3 x4 x5 xs0 y8 D6)
def f_X12_moveLine_71 (x1 : Int32) (x2 : Int32) (x3 : Int32) (x4 : Int32) (D : Dm) : Option Dm := bV (f_X12_must 7 D) fun D1 => bI (f_X12_number 0 ((D1 283 0) - 1) D1) fun y6 D4 => bI (f_X12_takes 8 D4) fun y9 D7 => if y9 = 0 then (f_X12_moveLine_118 x1 x2 x3 x4 y6 (-1) D7) else (bI (f_X12_number 0 ((D7 283 1) - 1) D7) fun y14 D12 => f_X12_moveLine_118 x1 x2 x3 x4 y6 y14 D12)
def f_X12_moveLine_35 (x1 : Int32) (x2 : Int32) (xs0 : Int32) (D : Dm) : Option Dm := bI (f_X12_takes 5 D) fun y3 D1 => if y3 = 0 then (bV (f_X12_must 6 D1) fun D5 => f_X12_moveLine_71 x1 x2 xs0 2 D5) else (bI (f_X12_number 0 ((D1 283 1) - 1) D1) fun y10 D8 => f_X12_moveLine_71 x1 x2 xs0 y10 D8)
def f_X12_moveLine (x1 : Int32) (D : Dm) : Option Dm := bI (f_X12_number 0 ((D 283 0) - 1) D) fun y4 D2 => if (D2 281 10) = 0 then (bI (f_X12_symbol (D2 283 2) D2) fun y9 D7 => f_X12_moveLine_35 x1 y4 y9 D7) else (f_X12_moveLine_35 x1 y4 0 D2)
def f_X12_line_104  (D : Dm) : Option Dm := bV (f_X12_ends D) fun D1 => some D1
def f_X12_line  (D : Dm) : Option Dm := bV (f_X12_blanks D) fun D1 => lt (D1 281 9) fun y3 => bI (f_X12_takes 0 D1) fun y7 D5 => if y7 = 0 then (bI (f_X12_takes 1 D5) fun y11 D9 => if y11 = 0 then (bI (f_X12_takes 2 D9) fun y15 D13 => if y15 = 0 then (bI (f_X12_takes 3 D13) fun y19 D17 => if y19 = 0 then (bI (f_X12_takes 4 D17) fun y23 D21 => if y23 = 0 then (bV (f_X12_fails 1 y3 D21) fun D25 => f_X12_line_104 D25) else (bV (f_X12_moveLine y3 D21) fun D27 => f_X12_line_104 D27)) else (bV (f_X12_acceptLine y3 D17) fun D29 => f_X12_line_104 D29)) else (bV (f_X12_manyLine 2 1 2 y3 D13) fun D31 => f_X12_line_104 D31)) else (bV (f_X12_manyLine 1 0 2 y3 D9) fun D33 => f_X12_line_104 D33)) else (bV (f_X12_manyLine 0 1 5 y3 D5) fun D35 => f_X12_line_104 D35)
def f_X12_begins (x1 : Int32) (D : Dm) : Option Dm := lt (ud D 281 7 0) fun D1 => lt (ud D1 281 8 x1) fun D3 => lt (ud D3 281 9 0) fun D5 => lt (ud D5 281 10 0) fun D7 => lt (ud D7 281 11 (-1)) fun D9 => some D9
def f_X12_movesOf_26 (k4 : Int32 → Int32 → Int32 → Dm → Option (Int32 × Dm)) (x1 : Int32) (x3 : Int32) (xs0 : Int32) (xs1 : Int32) (D : Dm) : Option (Int32 × Dm) := lt (xs1 + xs0) fun y1 => lt (x3 + 3) fun y3 => k4 x1 y1 y3 D
def f_X12_movesOf_4_b (k4 : Int32 → Int32 → Int32 → Dm → Option (Int32 × Dm)) (x1 : Int32) (x2 : Int32) (x3 : Int32) (D : Dm) : Option (Int32 × Dm) := if 94 ≤ x3 then (some (x2, D)) else (bI (f_X12_its x1 x3 D) fun y4 D2 => if y4 = (-1) then (f_X12_movesOf_26 k4 x1 x3 0 x2 D2) else (f_X12_movesOf_26 k4 x1 x3 1 x2 D2))
def f_X12_movesOf_4 : Nat → Int32 → Int32 → Int32 → Dm → Option (Int32 × Dm)
  | 0, _, _, _, _ => none
  | n + 1, x1, x2, x3, D => f_X12_movesOf_4_b (f_X12_movesOf_4 n) x1 x2 x3 D
def f_X12_movesOf (x1 : Int32) (D : Dm) : Option (Int32 × Dm) := f_X12_movesOf_4 FU x1 0 4 D
def f_X12_resets_54_b (k54 : Int32 → Dm → Option Dm) (x1 : Int32) (D : Dm) : Option Dm := if 80 ≤ x1 then (lt (ud D 281 33 0) fun D2 => some D2) else (gd (inB x1 80) (lt (ud D 297 (Int32.toNatClampNeg x1) 0) fun D5 => gd (inB x1 80) (lt (ud D5 298 (Int32.toNatClampNeg x1) 0) fun D8 => lt (x1 + 1) fun y10 => k54 y10 D8)))
def f_X12_resets_54 : Nat → Int32 → Dm → Option Dm
  | 0, _, _ => none
  | n + 1, x1, D => f_X12_resets_54_b (f_X12_resets_54 n) x1 D
def f_X12_resets_26_b (k26 : Int32 → Dm → Option Dm) (x1 : Int32) (D : Dm) : Option Dm := if 10 ≤ x1 then (f_X12_resets_54 FU 0 D) else (gd (inB x1 10) (lt (ud D 295 (Int32.toNatClampNeg x1) 0) fun D3 => gd (inB x1 10) (lt (ud D3 296 (Int32.toNatClampNeg x1) 0) fun D6 => lt (x1 + 1) fun y8 => k26 y8 D6)))
def f_X12_resets_26 : Nat → Int32 → Dm → Option Dm
  | 0, _, _ => none
  | n + 1, x1, D => f_X12_resets_26_b (f_X12_resets_26 n) x1 D
def f_X12_resets  (D : Dm) : Option Dm := lt (ud D 281 27 1) fun D1 => lt (ud D1 281 28 1) fun D3 => lt (ud D3 289 0 0) fun D6 => lt (ud D6 292 0 0) fun D9 => f_X12_resets_26 FU 0 D9
def f_X12_machine_122 (x1 : Int32) (D : Dm) : Option (Int32 × Dm) := bI (f_X12_movesOf x1 D) fun y3 D1 => some (y3, D1)
def f_X12_machine_85_b (k85 : Int32 → Int32 → Dm → Option (Int32 × Dm)) (x1 : Int32) (x3 : Int32) (D : Dm) : Option (Int32 × Dm) := if 94 ≤ x3 then (if x1 = 0 then (bV (f_X12_resets D) fun D3 => f_X12_machine_122 x1 D3) else (f_X12_machine_122 x1 D)) else (gd (inB x3 94) (gd (inB ((94 * x1) + x3) 188) (lt (ud D 282 (Int32.toNatClampNeg ((94 * x1) + x3)) (D 283 (Int32.toNatClampNeg x3))) fun D7 => lt (x3 + 1) fun y9 => k85 x1 y9 D7)))
def f_X12_machine_85 : Nat → Int32 → Int32 → Dm → Option (Int32 × Dm)
  | 0, _, _, _ => none
  | n + 1, x1, x3, D => f_X12_machine_85_b (f_X12_machine_85 n) x1 x3 D
def f_X12_machine_54_b (k54 : Int32 → Dm → Option (Int32 × Dm)) (x1 : Int32) (D : Dm) : Option (Int32 × Dm) := bI (f_X12_isOver D) fun y3 D1 => if y3 = 0 then (bV (f_X12_line D1) fun D6 => k54 x1 D6) else (if (D1 281 10) = 0 then (f_X12_machine_85 FU x1 0 D1) else (some (((-30) - (D1 281 10)), D1)))
def f_X12_machine_54 : Nat → Int32 → Dm → Option (Int32 × Dm)
  | 0, _, _ => none
  | n + 1, x1, D => f_X12_machine_54_b (f_X12_machine_54 n) x1 D
def f_X12_machine (x1 : Int32) (x2 : Int32) (D : Dm) : Option (Int32 × Dm) := lt (ud D 281 0 0) fun D1 => bI (f_X12_isMachine x1 D1) fun y5 D3 => if y5 = 0 then (some ((-2), D3)) else (bI (f_X12_isIn (Int32.toInt64 x2) 0 (Int32.toInt64 (D3 281 7)) D3) fun y9 D7 => if y9 = 0 then (some ((-3), D7)) else (bV (f_X12_begins x2 D7) fun D11 => bV (f_X12_empties 283 94 D11) fun D13 => lt (ud D13 281 12 0) fun D15 => lt (ud D15 281 13 0) fun D17 => f_X12_machine_54 FU x1 D17))
def f_X12_word_113_b (k113 : Int32 → Int32 → Dm → Option (Int32 × Dm)) (x2 : Int32) (x3 : Int32) (D : Dm) : Option (Int32 × Dm) := if x2 ≤ x3 then (some (x2, D)) else (gd (inB x3 12) (gd (inB x3 12) (lt (ud D 285 (Int32.toNatClampNeg x3) (D 287 (Int32.toNatClampNeg x3))) fun D4 => gd (inB x3 12) (gd (inB x3 12) (lt (ud D4 286 (Int32.toNatClampNeg x3) (D4 288 (Int32.toNatClampNeg x3))) fun D8 => lt (x3 + 1) fun y10 => k113 x2 y10 D8)))))
def f_X12_word_113 : Nat → Int32 → Int32 → Dm → Option (Int32 × Dm)
  | 0, _, _, _ => none
  | n + 1, x2, x3, D => f_X12_word_113_b (f_X12_word_113 n) x2 x3 D
def f_X12_word_60 (k29 : Int32 → Dm → Option (Int32 × Dm)) (x2 : Int32) (x4 : Int32) (D : Dm) : Option (Int32 × Dm) := bI (f_X12_number 0 99 D) fun y3 D1 => if (D1 281 10) = 0 then (gd (inB x2 12) (lt (ud D1 287 (Int32.toNatClampNeg x2) x4) fun D6 => gd (inB x2 12) (lt (ud D6 288 (Int32.toNatClampNeg x2) y3) fun D9 => lt (x2 + 1) fun y11 => k29 y11 D9))) else (some (((-30) - (D1 281 10)), D1))
def f_X12_word_29_b (k29 : Int32 → Dm → Option (Int32 × Dm)) (x2 : Int32) (D : Dm) : Option (Int32 × Dm) := bI (f_X12_isOver D) fun y3 D1 => if y3 = 0 then (lt (D1 281 9) fun y7 => bI (f_X12_symbol 2 D1) fun y11 D9 => if x2 = 12 then (bV (f_X12_fails 3 y7 D9) fun D13 => f_X12_word_60 k29 x2 y11 D13) else (f_X12_word_60 k29 x2 y11 D9)) else (lt (ud D1 281 18 x2) fun D5 => f_X12_word_113 FU x2 0 D5)
def f_X12_word_29 : Nat → Int32 → Dm → Option (Int32 × Dm)
  | 0, _, _ => none
  | n + 1, x2, D => f_X12_word_29_b (f_X12_word_29 n) x2 D
def f_X12_word (x1 : Int32) (D : Dm) : Option (Int32 × Dm) := lt (ud D 281 0 0) fun D1 => bI (f_X12_isIn (Int32.toInt64 x1) 0 (Int32.toInt64 (D1 281 7)) D1) fun y5 D3 => if y5 = 0 then (some ((-3), D3)) else (bV (f_X12_begins x1 D3) fun D7 => f_X12_word_29 FU 0 D7)
set_option maxHeartbeats 4000000 in
theorem w_X12_isIn {G : va_G} {tA : Nat → ClassId} {z : Nat} {E : Ex} {p : Program} {l : Launch} {e : Env} {s : State} {m : MethodId} {args : Array Value} {below : List Frame} {meth : Method} {c : Code} {r : Int32} {D' : Dm} (O : Ok G tA z E cX12_isIn RX12 6 p s m args c) (hr : meth.sig.returnType = some .boolean) (hlk : meth.locks = false) (x0 : Int64) (x2 : Int64) (x4 : Int64) (D : Dm) (h : f_X12_isIn x0 x2 x4 D = some (r, D')) : BI G tA z E p l e (rmC 1 0 0) s m args below meth c LAY D r D' 6 0 [(0, .long x0), (2, .long x2), (4, .long x4)] [] := by
  obtain ⟨hx, hb, -, hown, hts, -⟩ := id O
  unfold f_X12_isIn at h
  intro H locs ls hH hl
  refine lv_lload_n hx hb dX12_isIn_0 rfl (lv_at hl 0 rfl) ?_
  refine lv_lload_n hx hb dX12_isIn_1 rfl (lv_at hl 1 rfl) ?_
  refine W.lcmp hx hb dX12_isIn_2 ?_
  refine lv_if_lt (tgt := 17) hx hb dX12_isIn_3 (by decide) (fun c1 => ?_) (fun c1 => ?_)
  · have h := it_pos h c1
    refine lv_iconst (v := 0) hx hb dX12_isIn_17 (by decide) ?_
    obtain ⟨rfl, rfl⟩ := ret_i h
    exact h_zret O hr hlk zb_0 hH dX12_isIn_18
  · have h := it_neg h c1
    refine lv_lload_n hx hb dX12_isIn_6 rfl (lv_at hl 0 rfl) ?_
    refine lv_lload hx hb dX12_isIn_7 (lv_at hl 2 rfl) ?_
    refine W.lcmp hx hb dX12_isIn_9 ?_
    refine lv_if_gt (tgt := 17) hx hb dX12_isIn_10 (by decide) (fun c2 => ?_) (fun c2 => ?_)
    · have h := it_pos h c2
      refine lv_iconst (v := 0) hx hb dX12_isIn_17 (by decide) ?_
      obtain ⟨rfl, rfl⟩ := ret_i h
      exact h_zret O hr hlk zb_0 hH dX12_isIn_18
    · have h := it_neg h c2
      refine lv_iconst (v := 1) hx hb dX12_isIn_13 (by decide) ?_
      refine lv_goto (tgt := 18) hx hb dX12_isIn_14 (by decide) ?_
      obtain ⟨rfl, rfl⟩ := ret_i h
      exact h_zret O hr hlk zb_1 hH dX12_isIn_18
set_option maxHeartbeats 4000000 in
theorem c_X12_isIn {l : Launch} {G : va_G} {tA : Nat → ClassId} {z : Nat} {E : Ex} {x0 : Int64} {x2 : Int64} {x4 : Int64} {D D' : Dm} {r : Int32} (h : f_X12_isIn x0 x2 x4 D = some (r, D')) : CtI l yX12_isIn cX12_isIn 6 (some .boolean) G tA z E 1 0 0 [.long x0, .long x2, .long x4] LAY D r LAY D' :=
  ct_BI (by decide +kernel) (Nat.le_of_ble_eq_true rfl) (fun _ _ _ _ _ _ _ _ O hr hlk => w_X12_isIn O hr hlk _ _ _ _ h)
set_option maxHeartbeats 4000000 in
theorem w_X12_empties_18_b {G : va_G} {tA : Nat → ClassId} {z : Nat} {E : Ex} {p : Program} {l : Launch} {e : Env} {s : State} {m : MethodId} {args : Array Value} {below : List Frame} {meth : Method} {c : Code} {D' : Dm} (O : Ok G tA z E cX12_empties RX12 2 p s m args c) (hr : meth.sig.returnType = none) (hlk : meth.locks = false) {k18 : Nat → Nat → Int32 → Dm → Option Dm} (hk18 : ∀ (r0 : Nat) (n0 : Nat) (x1 : Int32) (h0 : LAY[r0]? = some (.inl (0, n0))) (D : Dm), k18 r0 n0 x1 D = some D' → BV G tA z E p l e (rmC 1 0 0) s m args below meth c LAY D D' 2 18 [(0, .ref (z + r0)), (1, .int x1)] []) (r0 : Nat) (n0 : Nat) (x1 : Int32) (h0 : LAY[r0]? = some (.inl (0, n0))) (D : Dm) (h : f_X12_empties_18_b k18 r0 n0 x1 D = some D') : BV G tA z E p l e (rmC 1 0 0) s m args below meth c LAY D D' 2 18 [(0, .ref (z + r0)), (1, .int x1)] [] := by
  obtain ⟨hx, hb, -, hown, hts, -⟩ := id O
  unfold f_X12_empties_18_b at h
  intro H locs ls hH hl
  refine lv_iload_n hx hb dX12_empties_18 rfl (lv_at hl 1 rfl) ?_
  refine lv_bipush (v := 94) hx hb dX12_empties_19 (by decide) ?_
  refine lv_icmp_ge (tgt := 34) hx hb dX12_empties_21 (by decide) (fun c1 => ?_) (fun c1 => ?_)
  · have h := it_pos h c1
    obtain rfl := ret_v h
    exact h_vret O hr hlk hH dX12_empties_34
  · have h := it_neg h c1
    refine lv_aload_n hx hb dX12_empties_24 rfl (lv_at hl 0 rfl) ?_
    refine lv_iload_n hx hb dX12_empties_25 rfl (lv_at hl 1 rfl) ?_
    refine lv_iconst (v := (-1)) hx hb dX12_empties_26 (by decide) ?_
    obtain ⟨g2, h⟩ := gd_some h
    obtain ⟨D3, e4, h⟩ := lt_some h
    refine h_iast O hH h0 g2 e4 dX12_empties_27 (fun H locs hH => ?_)
    obtain ⟨y5, e6, h⟩ := lt_some h
    refine lv_iinc (v := y5) (lv' := [(1, .int y5), (0, .ref (z + r0))]) hx hb dX12_empties_28 hl (k := 1) rfl (by rw [e6]; rfl) (by decide) rfl (fun ls hl => ?_)
    refine lv_goto (tgt := 18) hx hb dX12_empties_31 (by decide) ?_
    exact hk18 _ _ _ h0 _ h _ _ _ hH (lv_sub hl [1, 0] rfl)
set_option maxHeartbeats 4000000 in
theorem w_X12_empties_18 {G : va_G} {tA : Nat → ClassId} {z : Nat} {E : Ex} {p : Program} {l : Launch} {e : Env} {s : State} {m : MethodId} {args : Array Value} {below : List Frame} {meth : Method} {c : Code} {D' : Dm} (O : Ok G tA z E cX12_empties RX12 2 p s m args c) (hr : meth.sig.returnType = none) (hlk : meth.locks = false) : ∀ (n : Nat) (r0 : Nat) (n0 : Nat) (x1 : Int32) (h0 : LAY[r0]? = some (.inl (0, n0))) (D : Dm) (h : f_X12_empties_18 n r0 n0 x1 D = some D'), BV G tA z E p l e (rmC 1 0 0) s m args below meth c LAY D D' 2 18 [(0, .ref (z + r0)), (1, .int x1)] [] := by
  intro n
  induction n with
  | zero => intro r0 n0 x1 h0 D h; exact no_some h
  | succ n ih => intro r0 n0 x1 h0 D h; exact w_X12_empties_18_b O hr hlk (fun r0 n0 x1 h0 D h => ih r0 n0 x1 h0 D h) r0 n0 x1 h0 D h
set_option maxHeartbeats 4000000 in
theorem w_X12_empties {G : va_G} {tA : Nat → ClassId} {z : Nat} {E : Ex} {p : Program} {l : Launch} {e : Env} {s : State} {m : MethodId} {args : Array Value} {below : List Frame} {meth : Method} {c : Code} {D' : Dm} (O : Ok G tA z E cX12_empties RX12 2 p s m args c) (hr : meth.sig.returnType = none) (hlk : meth.locks = false) (r0 : Nat) (n0 : Nat) (h0 : LAY[r0]? = some (.inl (0, n0))) (D : Dm) (h : f_X12_empties r0 n0 D = some D') : BV G tA z E p l e (rmC 1 0 0) s m args below meth c LAY D D' 2 0 [(0, .ref (z + r0))] [] := by
  obtain ⟨hx, hb, -, hown, hts, -⟩ := id O
  unfold f_X12_empties at h
  intro H locs ls hH hl
  refine lv_aload_n hx hb dX12_empties_0 rfl (lv_at hl 0 rfl) ?_
  refine lv_iconst (v := 0) hx hb dX12_empties_1 (by decide) ?_
  refine lv_iconst (v := 1) hx hb dX12_empties_2 (by decide) ?_
  obtain ⟨g1, h⟩ := gd_some h
  obtain ⟨D2, e3, h⟩ := lt_some h
  refine h_iast O hH h0 g1 e3 dX12_empties_3 (fun H locs hH => ?_)
  refine lv_aload_n hx hb dX12_empties_4 rfl (lv_at hl 0 rfl) ?_
  refine lv_iconst (v := 1) hx hb dX12_empties_5 (by decide) ?_
  refine lv_iconst (v := 0) hx hb dX12_empties_6 (by decide) ?_
  obtain ⟨g4, h⟩ := gd_some h
  obtain ⟨D5, e6, h⟩ := lt_some h
  refine h_iast O hH h0 g4 e6 dX12_empties_7 (fun H locs hH => ?_)
  refine lv_aload_n hx hb dX12_empties_8 rfl (lv_at hl 0 rfl) ?_
  refine lv_iconst (v := 2) hx hb dX12_empties_9 (by decide) ?_
  refine lv_iconst (v := 1) hx hb dX12_empties_10 (by decide) ?_
  obtain ⟨g7, h⟩ := gd_some h
  obtain ⟨D8, e9, h⟩ := lt_some h
  refine h_iast O hH h0 g7 e9 dX12_empties_11 (fun H locs hH => ?_)
  refine lv_aload_n hx hb dX12_empties_12 rfl (lv_at hl 0 rfl) ?_
  refine lv_iconst (v := 3) hx hb dX12_empties_13 (by decide) ?_
  refine lv_iconst (v := 0) hx hb dX12_empties_14 (by decide) ?_
  obtain ⟨g10, h⟩ := gd_some h
  obtain ⟨D11, e12, h⟩ := lt_some h
  refine h_iast O hH h0 g10 e12 dX12_empties_15 (fun H locs hH => ?_)
  refine lv_iconst (v := 4) hx hb dX12_empties_16 (by decide) ?_
  refine lv_istore_n (lv' := [(1, .int 4), (0, .ref (z + r0))]) hx hb dX12_empties_17 rfl hl (by decide) rfl (fun ls hl => ?_)
  exact w_X12_empties_18 O hr hlk FU _ _ _ h0 _ h _ _ _ hH (lv_sub hl [1, 0] rfl)
set_option maxHeartbeats 4000000 in
theorem c_X12_empties {l : Launch} {G : va_G} {tA : Nat → ClassId} {z : Nat} {E : Ex} {r0 : Nat} {n0 : Nat} (h0 : LAY[r0]? = some (.inl (0, n0))) {D D' : Dm} (h : f_X12_empties r0 n0 D = some D') : CtV l yX12_empties cX12_empties 2 G tA z E 1 0 0 [.ref (z + r0)] LAY D LAY D' :=
  ct_BV (by decide +kernel) (Nat.le_of_ble_eq_true rfl) (fun _ _ _ _ _ _ _ _ O hr hlk => w_X12_empties O hr hlk _ _ h0 _ h)
set_option maxHeartbeats 4000000 in
theorem w_X12_its {G : va_G} {tA : Nat → ClassId} {z : Nat} {E : Ex} {p : Program} {l : Launch} {e : Env} {s : State} {m : MethodId} {args : Array Value} {below : List Frame} {meth : Method} {c : Code} {r : Int32} {D' : Dm} (O : Ok G tA z E cX12_its RX12 3 p s m args c) (hr : meth.sig.returnType = some .int) (hlk : meth.locks = false) (x1 : Int32) (x2 : Int32) (D : Dm) (h : f_X12_its x1 x2 D = some (r, D')) : BI G tA z E p l e (rmC 1 0 0) s m args below meth c LAY D r D' 3 0 [(0, .ref (z + 281)), (1, .int x1), (2, .int x2)] [] := by
  obtain ⟨hx, hb, -, hown, hts, -⟩ := id O
  unfold f_X12_its at h
  intro H locs ls hH hl
  refine lv_aload_n hx hb dX12_its_0 rfl (lv_at hl 0 rfl) ?_
  refine h_getr O hH ly_281 rfl fl_X12_13 dX12_its_1 ?_
  refine lv_bipush (v := 94) hx hb dX12_its_4 (by decide) ?_
  refine lv_iload_n hx hb dX12_its_6 rfl (lv_at hl 1 rfl) ?_
  refine lv_imul hx hb dX12_its_7 ?_
  refine lv_iload_n hx hb dX12_its_8 rfl (lv_at hl 2 rfl) ?_
  refine lv_iadd hx hb dX12_its_9 ?_
  obtain ⟨g1, h⟩ := gd_some h
  refine h_iald O hH ly_282 g1 dX12_its_10 ?_
  obtain ⟨rfl, rfl⟩ := ret_i h
  exact h_iret O hr hlk hH dX12_its_11
set_option maxHeartbeats 4000000 in
theorem c_X12_its {l : Launch} {G : va_G} {tA : Nat → ClassId} {z : Nat} {E : Ex} {x1 : Int32} {x2 : Int32} {D D' : Dm} {r : Int32} (h : f_X12_its x1 x2 D = some (r, D')) : CtI l yX12_its cX12_its 3 (some .int) G tA z E 1 0 0 [.ref (z + 281), .int x1, .int x2] LAY D r LAY D' :=
  ct_BI (by decide +kernel) (Nat.le_of_ble_eq_true rfl) (fun _ _ _ _ _ _ _ _ O hr hlk => w_X12_its O hr hlk _ _ _ h)
set_option maxHeartbeats 4000000 in
theorem w_X12_moveAt {G : va_G} {tA : Nat → ClassId} {z : Nat} {E : Ex} {p : Program} {l : Launch} {e : Env} {s : State} {m : MethodId} {args : Array Value} {below : List Frame} {meth : Method} {c : Code} {r : Int32} {D' : Dm} (O : Ok G tA z E cX12_moveAt RX12 3 p s m args c) (hr : meth.sig.returnType = some .int) (hlk : meth.locks = false) (x0 : Int32) (x1 : Int32) (x2 : Int32) (D : Dm) (h : f_X12_moveAt x0 x1 x2 D = some (r, D')) : BI G tA z E p l e (rmC 1 0 0) s m args below meth c LAY D r D' 3 0 [(0, .int x0), (1, .int x1), (2, .int x2)] [] := by
  obtain ⟨hx, hb, -, hown, hts, -⟩ := id O
  unfold f_X12_moveAt at h
  intro H locs ls hH hl
  refine lv_iconst (v := 4) hx hb dX12_moveAt_0 (by decide) ?_
  refine lv_iconst (v := 3) hx hb dX12_moveAt_1 (by decide) ?_
  refine lv_bipush (v := 6) hx hb dX12_moveAt_2 (by decide) ?_
  refine lv_iload_n hx hb dX12_moveAt_4 rfl (lv_at hl 0 rfl) ?_
  refine lv_imul hx hb dX12_moveAt_5 ?_
  refine lv_iconst (v := 3) hx hb dX12_moveAt_6 (by decide) ?_
  refine lv_iload_n hx hb dX12_moveAt_7 rfl (lv_at hl 1 rfl) ?_
  refine lv_imul hx hb dX12_moveAt_8 ?_
  refine lv_iadd hx hb dX12_moveAt_9 ?_
  refine lv_iload_n hx hb dX12_moveAt_10 rfl (lv_at hl 2 rfl) ?_
  refine lv_iadd hx hb dX12_moveAt_11 ?_
  refine lv_imul hx hb dX12_moveAt_12 ?_
  refine lv_iadd hx hb dX12_moveAt_13 ?_
  obtain ⟨rfl, rfl⟩ := ret_i h
  exact h_iret O hr hlk hH dX12_moveAt_14
set_option maxHeartbeats 4000000 in
theorem c_X12_moveAt {l : Launch} {G : va_G} {tA : Nat → ClassId} {z : Nat} {E : Ex} {x0 : Int32} {x1 : Int32} {x2 : Int32} {D D' : Dm} {r : Int32} (h : f_X12_moveAt x0 x1 x2 D = some (r, D')) : CtI l yX12_moveAt cX12_moveAt 3 (some .int) G tA z E 1 0 0 [.int x0, .int x1, .int x2] LAY D r LAY D' :=
  ct_BI (by decide +kernel) (Nat.le_of_ble_eq_true rfl) (fun _ _ _ _ _ _ _ _ O hr hlk => w_X12_moveAt O hr hlk _ _ _ _ h)
set_option maxHeartbeats 4000000 in
theorem w_X12_isMachine_9 {G : va_G} {tA : Nat → ClassId} {z : Nat} {E : Ex} {p : Program} {l : Launch} {e : Env} {s : State} {m : MethodId} {args : Array Value} {below : List Frame} {meth : Method} {c : Code} {r : Int32} {D' : Dm} (O : Ok G tA z E cX12_isMachine RX12 1 p s m args c) (hr : meth.sig.returnType = some .boolean) (hlk : meth.locks = false)  (D : Dm) (h : f_X12_isMachine_9  D = some (r, D')) : BI G tA z E p l e (rmC 1 0 0) s m args below meth c LAY D r D' 1 9 [] [] := by
  obtain ⟨hx, hb, -, hown, hts, -⟩ := id O
  unfold f_X12_isMachine_9 at h
  intro H locs ls hH hl
  refine lv_iconst (v := 1) hx hb dX12_isMachine_9 (by decide) ?_
  refine lv_goto (tgt := 14) hx hb dX12_isMachine_10 (by decide) ?_
  obtain ⟨rfl, rfl⟩ := ret_i h
  exact h_zret O hr hlk zb_1 hH dX12_isMachine_14
set_option maxHeartbeats 4000000 in
theorem w_X12_isMachine {G : va_G} {tA : Nat → ClassId} {z : Nat} {E : Ex} {p : Program} {l : Launch} {e : Env} {s : State} {m : MethodId} {args : Array Value} {below : List Frame} {meth : Method} {c : Code} {r : Int32} {D' : Dm} (O : Ok G tA z E cX12_isMachine RX12 1 p s m args c) (hr : meth.sig.returnType = some .boolean) (hlk : meth.locks = false) (x0 : Int32) (D : Dm) (h : f_X12_isMachine x0 D = some (r, D')) : BI G tA z E p l e (rmC 1 0 0) s m args below meth c LAY D r D' 1 0 [(0, .int x0)] [] := by
  obtain ⟨hx, hb, -, hown, hts, -⟩ := id O
  unfold f_X12_isMachine at h
  intro H locs ls hH hl
  refine lv_iload_n hx hb dX12_isMachine_0 rfl (lv_at hl 0 rfl) ?_
  refine lv_if_eq (tgt := 9) hx hb dX12_isMachine_1 (by decide) (fun c1 => ?_) (fun c1 => ?_)
  · have h := it_pos h c1
    exact w_X12_isMachine_9 O hr hlk _ h _ _ _ hH (lv_sub hl [] rfl)
  · have h := it_neg h c1
    refine lv_iload_n hx hb dX12_isMachine_4 rfl (lv_at hl 0 rfl) ?_
    refine lv_iconst (v := 1) hx hb dX12_isMachine_5 (by decide) ?_
    refine lv_icmp_ne (tgt := 13) hx hb dX12_isMachine_6 (by decide) (fun c2 => ?_) (fun c2 => ?_)
    · have h := it_neg h c2
      refine lv_iconst (v := 0) hx hb dX12_isMachine_13 (by decide) ?_
      obtain ⟨rfl, rfl⟩ := ret_i h
      exact h_zret O hr hlk zb_0 hH dX12_isMachine_14
    · have h := it_pos h c2
      exact w_X12_isMachine_9 O hr hlk _ h _ _ _ hH (lv_sub hl [] rfl)
set_option maxHeartbeats 4000000 in
theorem c_X12_isMachine {l : Launch} {G : va_G} {tA : Nat → ClassId} {z : Nat} {E : Ex} {x0 : Int32} {D D' : Dm} {r : Int32} (h : f_X12_isMachine x0 D = some (r, D')) : CtI l yX12_isMachine cX12_isMachine 1 (some .boolean) G tA z E 1 0 0 [.int x0] LAY D r LAY D' :=
  ct_BI (by decide +kernel) (Nat.le_of_ble_eq_true rfl) (fun _ _ _ _ _ _ _ _ O hr hlk => w_X12_isMachine O hr hlk _ _ h)
set_option maxHeartbeats 4000000 in
theorem w_X12_starts {G : va_G} {tA : Nat → ClassId} {z : Nat} {E : Ex} {p : Program} {l : Launch} {e : Env} {s : State} {m : MethodId} {args : Array Value} {below : List Frame} {meth : Method} {c : Code} {D' : Dm} (O : Ok G tA z E cX12_starts RX12 1 p s m args c) (hr : meth.sig.returnType = none) (hlk : meth.locks = false)  (D : Dm) (h : f_X12_starts  D = some D') : BV G tA z E p l e (rmC 1 0 0) s m args below meth c LAY D D' 1 0 [(0, .ref (z + 281))] [] := by
  obtain ⟨hx, hb, -, hown, hts, -⟩ := id O
  unfold f_X12_starts at h
  intro H locs ls hH hl
  refine lv_aload_n hx hb dX12_starts_0 rfl (lv_at hl 0 rfl) ?_
  refine lv_iconst (v := 0) hx hb dX12_starts_1 (by decide) ?_
  obtain ⟨D1, e2, h⟩ := lt_some h
  refine h_puti O hH ly_281 rfl fl_X12_135 e2 dX12_starts_2 (fun H locs hH => ?_)
  refine lv_aload_n hx hb dX12_starts_5 rfl (lv_at hl 0 rfl) ?_
  refine lv_iconst (v := (-1)) hx hb dX12_starts_6 (by decide) ?_
  obtain ⟨D3, e4, h⟩ := lt_some h
  refine h_puti O hH ly_281 rfl fl_X12_138 e4 dX12_starts_7 (fun H locs hH => ?_)
  refine lv_aload_n hx hb dX12_starts_10 rfl (lv_at hl 0 rfl) ?_
  refine lv_iconst (v := (-1)) hx hb dX12_starts_11 (by decide) ?_
  obtain ⟨D5, e6, h⟩ := lt_some h
  refine h_puti O hH ly_281 rfl fl_X12_141 e6 dX12_starts_12 (fun H locs hH => ?_)
  obtain rfl := ret_v h
  exact h_vret O hr hlk hH dX12_starts_15
set_option maxHeartbeats 4000000 in
theorem c_X12_starts {l : Launch} {G : va_G} {tA : Nat → ClassId} {z : Nat} {E : Ex}  {D D' : Dm} (h : f_X12_starts  D = some D') : CtV l yX12_starts cX12_starts 1 G tA z E 1 0 0 [.ref (z + 281)] LAY D LAY D' :=
  ct_BV (by decide +kernel) (Nat.le_of_ble_eq_true rfl) (fun _ _ _ _ _ _ _ _ O hr hlk => w_X12_starts O hr hlk  _ h)
set_option maxHeartbeats 4000000 in
theorem w_X12_stays {G : va_G} {tA : Nat → ClassId} {z : Nat} {E : Ex} {p : Program} {l : Launch} {e : Env} {s : State} {m : MethodId} {args : Array Value} {below : List Frame} {meth : Method} {c : Code} {D' : Dm} (O : Ok G tA z E cX12_stays RX12 4 p s m args c) (hr : meth.sig.returnType = none) (hlk : meth.locks = false) (x1 : Int32) (x2 : Int32) (x3 : Int32) (D : Dm) (h : f_X12_stays x1 x2 x3 D = some D') : BV G tA z E p l e (rmC 1 0 0) s m args below meth c LAY D D' 4 0 [(0, .ref (z + 281)), (1, .int x1), (2, .int x2), (3, .int x3)] [] := by
  obtain ⟨hx, hb, -, hown, hts, -⟩ := id O
  unfold f_X12_stays at h
  intro H locs ls hH hl
  refine lv_aload_n hx hb dX12_stays_0 rfl (lv_at hl 0 rfl) ?_
  refine lv_iload_n hx hb dX12_stays_1 rfl (lv_at hl 1 rfl) ?_
  obtain ⟨D1, e2, h⟩ := lt_some h
  refine h_puti O hH ly_281 rfl fl_X12_135 e2 dX12_stays_2 (fun H locs hH => ?_)
  refine lv_aload_n hx hb dX12_stays_5 rfl (lv_at hl 0 rfl) ?_
  refine lv_iload_n hx hb dX12_stays_6 rfl (lv_at hl 2 rfl) ?_
  obtain ⟨D3, e4, h⟩ := lt_some h
  refine h_puti O hH ly_281 rfl fl_X12_138 e4 dX12_stays_7 (fun H locs hH => ?_)
  refine lv_aload_n hx hb dX12_stays_10 rfl (lv_at hl 0 rfl) ?_
  refine lv_iload_n hx hb dX12_stays_11 rfl (lv_at hl 3 rfl) ?_
  obtain ⟨D5, e6, h⟩ := lt_some h
  refine h_puti O hH ly_281 rfl fl_X12_141 e6 dX12_stays_12 (fun H locs hH => ?_)
  obtain rfl := ret_v h
  exact h_vret O hr hlk hH dX12_stays_15
set_option maxHeartbeats 4000000 in
theorem c_X12_stays {l : Launch} {G : va_G} {tA : Nat → ClassId} {z : Nat} {E : Ex} {x1 : Int32} {x2 : Int32} {x3 : Int32} {D D' : Dm} (h : f_X12_stays x1 x2 x3 D = some D') : CtV l yX12_stays cX12_stays 4 G tA z E 1 0 0 [.ref (z + 281), .int x1, .int x2, .int x3] LAY D LAY D' :=
  ct_BV (by decide +kernel) (Nat.le_of_ble_eq_true rfl) (fun _ _ _ _ _ _ _ _ O hr hlk => w_X12_stays O hr hlk _ _ _ _ h)
set_option maxHeartbeats 4000000 in
theorem w_X12_loses {G : va_G} {tA : Nat → ClassId} {z : Nat} {E : Ex} {p : Program} {l : Launch} {e : Env} {s : State} {m : MethodId} {args : Array Value} {below : List Frame} {meth : Method} {c : Code} {D' : Dm} (O : Ok G tA z E cX12_loses RX12 1 p s m args c) (hr : meth.sig.returnType = none) (hlk : meth.locks = false)  (D : Dm) (h : f_X12_loses  D = some D') : BV G tA z E p l e (rmC 2 0 0) s m args below meth c LAY D D' 1 0 [(0, .ref (z + 281))] [] := by
  obtain ⟨hx, hb, -, hown, hts, -⟩ := id O
  unfold f_X12_loses at h
  intro H locs ls hH hl
  refine lv_aload_n hx hb dX12_loses_0 rfl (lv_at hl 0 rfl) ?_
  refine lv_iconst (v := (-1)) hx hb dX12_loses_1 (by decide) ?_
  refine lv_iconst (v := (-1)) hx hb dX12_loses_2 (by decide) ?_
  refine lv_iconst (v := (-1)) hx hb dX12_loses_3 (by decide) ?_
  obtain ⟨D1, hc2, h⟩ := bV_some h
  refine h_callVv (As := [.int (-1), .int (-1), .int (-1)]) (rest := []) O hH (c_X12_stays hc2) ml_X12_144 ly_281 rfl rfl hl.1 rfl ⟨Nat.le_of_ble_eq_true rfl, Nat.le_of_ble_eq_true rfl⟩ (Nat.le_of_ble_eq_true rfl) dX12_loses_4 (fun H locs hH => ?_)
  obtain rfl := ret_v h
  exact h_vret O hr hlk hH dX12_loses_7
set_option maxHeartbeats 4000000 in
theorem c_X12_loses {l : Launch} {G : va_G} {tA : Nat → ClassId} {z : Nat} {E : Ex}  {D D' : Dm} (h : f_X12_loses  D = some D') : CtV l yX12_loses cX12_loses 1 G tA z E 2 0 0 [.ref (z + 281)] LAY D LAY D' :=
  ct_BV (by decide +kernel) (Nat.le_of_ble_eq_true rfl) (fun _ _ _ _ _ _ _ _ O hr hlk => w_X12_loses O hr hlk  _ h)
set_option maxHeartbeats 4000000 in
theorem w_X12_goesBy_202 {G : va_G} {tA : Nat → ClassId} {z : Nat} {E : Ex} {p : Program} {l : Launch} {e : Env} {s : State} {m : MethodId} {args : Array Value} {below : List Frame} {meth : Method} {c : Code} {D' : Dm} (O : Ok G tA z E cX12_goesBy RX12 9 p s m args c) (hr : meth.sig.returnType = none) (hlk : meth.locks = false) (x6 : Int32) (D : Dm) (h : f_X12_goesBy_202 x6 D = some D') : BV G tA z E p l e (rmC 3 0 0) s m args below meth c LAY D D' 9 202 [(0, .ref (z + 281)), (6, .int x6)] [] := by
  obtain ⟨hx, hb, -, hown, hts, -⟩ := id O
  unfold f_X12_goesBy_202 at h
  intro H locs ls hH hl
  refine lv_aload_n hx hb dX12_goesBy_202 rfl (lv_at hl 0 rfl) ?_
  refine lv_aload_n hx hb dX12_goesBy_203 rfl (lv_at hl 0 rfl) ?_
  refine h_getr O hH ly_281 rfl fl_X12_13 dX12_goesBy_204 ?_
  refine lv_iload hx hb dX12_goesBy_207 (lv_at hl 1 rfl) ?_
  obtain ⟨g1, h⟩ := gd_some h
  refine h_iald O hH ly_282 g1 dX12_goesBy_209 ?_
  obtain ⟨D2, e3, h⟩ := lt_some h
  refine h_puti O hH ly_281 rfl fl_X12_135 e3 dX12_goesBy_210 (fun H locs hH => ?_)
  obtain rfl := ret_v h
  exact h_vret O hr hlk hH dX12_goesBy_213
set_option maxHeartbeats 4000000 in
theorem w_X12_goesBy_191 {G : va_G} {tA : Nat → ClassId} {z : Nat} {E : Ex} {p : Program} {l : Launch} {e : Env} {s : State} {m : MethodId} {args : Array Value} {below : List Frame} {meth : Method} {c : Code} {D' : Dm} (O : Ok G tA z E cX12_goesBy RX12 9 p s m args c) (hr : meth.sig.returnType = none) (hlk : meth.locks = false) (x6 : Int32) (x8 : Int32) (D : Dm) (h : f_X12_goesBy_191 x6 x8 D = some D') : BV G tA z E p l e (rmC 3 0 0) s m args below meth c LAY D D' 9 191 [(0, .ref (z + 281)), (6, .int x6), (8, .int x8)] [] := by
  obtain ⟨hx, hb, -, hown, hts, -⟩ := id O
  unfold f_X12_goesBy_191 at h
  intro H locs ls hH hl
  refine lv_iload hx hb dX12_goesBy_191 (lv_at hl 2 rfl) ?_
  refine lv_iconst (v := 1) hx hb dX12_goesBy_193 (by decide) ?_
  refine lv_icmp_ne (tgt := 202) hx hb dX12_goesBy_194 (by decide) (fun c1 => ?_) (fun c1 => ?_)
  · have h := it_neg h c1
    exact w_X12_goesBy_202 O hr hlk _ _ h _ _ _ hH (lv_sub hl [0, 1] rfl)
  · have h := it_pos h c1
    refine lv_aload_n hx hb dX12_goesBy_197 rfl (lv_at hl 0 rfl) ?_
    refine lv_iconst (v := (-1)) hx hb dX12_goesBy_198 (by decide) ?_
    obtain ⟨D2, e3, h⟩ := lt_some h
    refine h_puti O hH ly_281 rfl fl_X12_141 e3 dX12_goesBy_199 (fun H locs hH => ?_)
    exact w_X12_goesBy_202 O hr hlk _ _ h _ _ _ hH (lv_sub hl [0, 1] rfl)
set_option maxHeartbeats 4000000 in
theorem w_X12_goesBy_181 {G : va_G} {tA : Nat → ClassId} {z : Nat} {E : Ex} {p : Program} {l : Launch} {e : Env} {s : State} {m : MethodId} {args : Array Value} {below : List Frame} {meth : Method} {c : Code} {D' : Dm} (O : Ok G tA z E cX12_goesBy RX12 9 p s m args c) (hr : meth.sig.returnType = none) (hlk : meth.locks = false) (x6 : Int32) (x8 : Int32) (D : Dm) (h : f_X12_goesBy_181 x6 x8 D = some D') : BV G tA z E p l e (rmC 3 0 0) s m args below meth c LAY D D' 9 181 [(0, .ref (z + 281)), (6, .int x6), (8, .int x8)] [] := by
  obtain ⟨hx, hb, -, hown, hts, -⟩ := id O
  unfold f_X12_goesBy_181 at h
  intro H locs ls hH hl
  refine lv_iload hx hb dX12_goesBy_181 (lv_at hl 2 rfl) ?_
  refine lv_if_ne (tgt := 191) hx hb dX12_goesBy_183 (by decide) (fun c1 => ?_) (fun c1 => ?_)
  · have h := it_neg h c1
    exact w_X12_goesBy_191 O hr hlk _ _ _ h _ _ _ hH (lv_sub hl [0, 1, 2] rfl)
  · have h := it_pos h c1
    refine lv_aload_n hx hb dX12_goesBy_186 rfl (lv_at hl 0 rfl) ?_
    refine lv_iconst (v := (-1)) hx hb dX12_goesBy_187 (by decide) ?_
    obtain ⟨D2, e3, h⟩ := lt_some h
    refine h_puti O hH ly_281 rfl fl_X12_138 e3 dX12_goesBy_188 (fun H locs hH => ?_)
    exact w_X12_goesBy_191 O hr hlk _ _ _ h _ _ _ hH (lv_sub hl [0, 1, 2] rfl)
set_option maxHeartbeats 4000000 in
theorem w_X12_goesBy_170 {G : va_G} {tA : Nat → ClassId} {z : Nat} {E : Ex} {p : Program} {l : Launch} {e : Env} {s : State} {m : MethodId} {args : Array Value} {below : List Frame} {meth : Method} {c : Code} {D' : Dm} (O : Ok G tA z E cX12_goesBy RX12 9 p s m args c) (hr : meth.sig.returnType = none) (hlk : meth.locks = false) (x3 : Int32) (x6 : Int32) (x7 : Int32) (x8 : Int32) (D : Dm) (h : f_X12_goesBy_170 x3 x6 x7 x8 D = some D') : BV G tA z E p l e (rmC 3 0 0) s m args below meth c LAY D D' 9 170 [(0, .ref (z + 281)), (3, .int x3), (6, .int x6), (7, .int x7), (8, .int x8)] [] := by
  obtain ⟨hx, hb, -, hown, hts, -⟩ := id O
  unfold f_X12_goesBy_170 at h
  intro H locs ls hH hl
  refine lv_iload hx hb dX12_goesBy_170 (lv_at hl 3 rfl) ?_
  refine lv_iconst (v := 1) hx hb dX12_goesBy_172 (by decide) ?_
  refine lv_icmp_ne (tgt := 181) hx hb dX12_goesBy_173 (by decide) (fun c1 => ?_) (fun c1 => ?_)
  · have h := it_neg h c1
    exact w_X12_goesBy_181 O hr hlk _ _ _ h _ _ _ hH (lv_sub hl [0, 2, 4] rfl)
  · have h := it_pos h c1
    refine lv_aload_n hx hb dX12_goesBy_176 rfl (lv_at hl 0 rfl) ?_
    refine lv_iload_n hx hb dX12_goesBy_177 rfl (lv_at hl 1 rfl) ?_
    obtain ⟨D2, e3, h⟩ := lt_some h
    refine h_puti O hH ly_281 rfl fl_X12_141 e3 dX12_goesBy_178 (fun H locs hH => ?_)
    exact w_X12_goesBy_181 O hr hlk _ _ _ h _ _ _ hH (lv_sub hl [0, 2, 4] rfl)
set_option maxHeartbeats 4000000 in
theorem w_X12_goesBy_112 {G : va_G} {tA : Nat → ClassId} {z : Nat} {E : Ex} {p : Program} {l : Launch} {e : Env} {s : State} {m : MethodId} {args : Array Value} {below : List Frame} {meth : Method} {c : Code} {D' : Dm} (O : Ok G tA z E cX12_goesBy RX12 9 p s m args c) (hr : meth.sig.returnType = none) (hlk : meth.locks = false) (x2 : Int32) (x3 : Int32) (x4 : Int32) (x5 : Int32) (D : Dm) (h : f_X12_goesBy_112 x2 x3 x4 x5 D = some D') : BV G tA z E p l e (rmC 3 0 0) s m args below meth c LAY D D' 9 112 [(0, .ref (z + 281)), (2, .int x2), (3, .int x3), (4, .int x4), (5, .int x5)] [] := by
  obtain ⟨hx, hb, -, hown, hts, -⟩ := id O
  unfold f_X12_goesBy_112 at h
  intro H locs ls hH hl
  refine lv_iload hx hb dX12_goesBy_112 (lv_at hl 4 rfl) ?_
  refine lv_iconst (v := (-1)) hx hb dX12_goesBy_114 (by decide) ?_
  refine lv_icmp_ne (tgt := 123) hx hb dX12_goesBy_115 (by decide) (fun c1 => ?_) (fun c1 => ?_)
  · have h := it_neg h c1
    refine lv_iload hx hb dX12_goesBy_123 (lv_at hl 3 rfl) ?_
    refine lv_aload_n hx hb dX12_goesBy_125 rfl (lv_at hl 0 rfl) ?_
    refine h_geti O hH ly_281 rfl fl_X12_135 dX12_goesBy_126 ?_
    refine lv_iload_n hx hb dX12_goesBy_129 rfl (lv_at hl 1 rfl) ?_
    refine lv_iload hx hb dX12_goesBy_130 (lv_at hl 4 rfl) ?_
    obtain ⟨y4, D2, hc3, h⟩ := bI_some h
    refine h_callSi (As := [.int (D 281 3), .int x2, .int x5]) (rest := [.int x4]) O hH (c_X12_moveAt hc3) ml_X12_148 rfl hl.1 rfl ⟨Nat.le_of_ble_eq_true rfl, Nat.le_of_ble_eq_true rfl⟩ (Nat.le_of_ble_eq_true rfl) dX12_goesBy_132 (fun H locs hH => ?_)
    refine lv_iadd hx hb dX12_goesBy_135 ?_
    refine lv_topi (fun y5 e6 => ?_)
    have h := lt_at e6 h
    refine lv_istore (lv' := [(6, .int y5), (0, .ref (z + 281)), (2, .int x2), (3, .int x3), (4, .int x4), (5, .int x5)]) hx hb dX12_goesBy_136 hl (by decide) rfl (fun ls hl => ?_)
    refine lv_aload_n hx hb dX12_goesBy_138 rfl (lv_at hl 1 rfl) ?_
    refine h_getr O hH ly_281 rfl fl_X12_13 dX12_goesBy_139 ?_
    refine lv_iload hx hb dX12_goesBy_142 (lv_at hl 0 rfl) ?_
    refine lv_iconst (v := 1) hx hb dX12_goesBy_144 (by decide) ?_
    refine lv_iadd hx hb dX12_goesBy_145 ?_
    obtain ⟨g7, h⟩ := gd_some h
    refine h_iald O hH ly_282 g7 dX12_goesBy_146 ?_
    refine lv_topi (fun y8 e9 => ?_)
    have h := lt_at e9 h
    refine lv_istore (lv' := [(7, .int y8), (6, .int y5), (0, .ref (z + 281)), (2, .int x2), (3, .int x3), (4, .int x4), (5, .int x5)]) hx hb dX12_goesBy_147 hl (by decide) rfl (fun ls hl => ?_)
    refine lv_aload_n hx hb dX12_goesBy_149 rfl (lv_at hl 2 rfl) ?_
    refine h_getr O hH ly_281 rfl fl_X12_13 dX12_goesBy_150 ?_
    refine lv_iload hx hb dX12_goesBy_153 (lv_at hl 1 rfl) ?_
    refine lv_iconst (v := 2) hx hb dX12_goesBy_155 (by decide) ?_
    refine lv_iadd hx hb dX12_goesBy_156 ?_
    obtain ⟨g10, h⟩ := gd_some h
    refine h_iald O hH ly_282 g10 dX12_goesBy_157 ?_
    refine lv_topi (fun y11 e12 => ?_)
    have h := lt_at e12 h
    refine lv_istore (lv' := [(8, .int y11), (7, .int y8), (6, .int y5), (0, .ref (z + 281)), (2, .int x2), (3, .int x3), (4, .int x4), (5, .int x5)]) hx hb dX12_goesBy_158 hl (by decide) rfl (fun ls hl => ?_)
    refine lv_iload hx hb dX12_goesBy_160 (lv_at hl 1 rfl) ?_
    refine lv_if_ne (tgt := 170) hx hb dX12_goesBy_162 (by decide) (fun c13 => ?_) (fun c13 => ?_)
    · have h := it_neg h c13
      exact w_X12_goesBy_170 O hr hlk _ _ _ _ _ h _ _ _ hH (lv_sub hl [3, 5, 2, 1, 0] rfl)
    · have h := it_pos h c13
      refine lv_aload_n hx hb dX12_goesBy_165 rfl (lv_at hl 3 rfl) ?_
      refine lv_iload_n hx hb dX12_goesBy_166 rfl (lv_at hl 5 rfl) ?_
      obtain ⟨D14, e15, h⟩ := lt_some h
      refine h_puti O hH ly_281 rfl fl_X12_138 e15 dX12_goesBy_167 (fun H locs hH => ?_)
      exact w_X12_goesBy_170 O hr hlk _ _ _ _ _ h _ _ _ hH (lv_sub hl [3, 5, 2, 1, 0] rfl)
  · have h := it_pos h c1
    refine lv_aload_n hx hb dX12_goesBy_118 rfl (lv_at hl 0 rfl) ?_
    obtain ⟨D16, hc17, h⟩ := bV_some h
    refine h_callVv (As := []) (rest := []) O hH (c_X12_loses hc17) ml_X12_152 ly_281 rfl rfl hl.1 rfl ⟨Nat.le_of_ble_eq_true rfl, Nat.le_of_ble_eq_true rfl⟩ (Nat.le_of_ble_eq_true rfl) dX12_goesBy_119 (fun H locs hH => ?_)
    obtain rfl := ret_v h
    exact h_vret O hr hlk hH dX12_goesBy_122
set_option maxHeartbeats 4000000 in
theorem w_X12_goesBy_88 {G : va_G} {tA : Nat → ClassId} {z : Nat} {E : Ex} {p : Program} {l : Launch} {e : Env} {s : State} {m : MethodId} {args : Array Value} {below : List Frame} {meth : Method} {c : Code} {D' : Dm} (O : Ok G tA z E cX12_goesBy RX12 9 p s m args c) (hr : meth.sig.returnType = none) (hlk : meth.locks = false) (x2 : Int32) (x3 : Int32) (x4 : Int32) (x5 : Int32) (D : Dm) (h : f_X12_goesBy_88 x2 x3 x4 x5 D = some D') : BV G tA z E p l e (rmC 3 0 0) s m args below meth c LAY D D' 9 88 [(0, .ref (z + 281)), (2, .int x2), (3, .int x3), (4, .int x4), (5, .int x5)] [] := by
  obtain ⟨hx, hb, -, hown, hts, -⟩ := id O
  unfold f_X12_goesBy_88 at h
  intro H locs ls hH hl
  refine lv_aload_n hx hb dX12_goesBy_88 rfl (lv_at hl 0 rfl) ?_
  refine h_getr O hH ly_281 rfl fl_X12_13 dX12_goesBy_89 ?_
  refine lv_iload hx hb dX12_goesBy_92 (lv_at hl 3 rfl) ?_
  refine lv_aload_n hx hb dX12_goesBy_94 rfl (lv_at hl 0 rfl) ?_
  refine h_geti O hH ly_281 rfl fl_X12_135 dX12_goesBy_95 ?_
  refine lv_iload_n hx hb dX12_goesBy_98 rfl (lv_at hl 1 rfl) ?_
  refine lv_iconst (v := 2) hx hb dX12_goesBy_99 (by decide) ?_
  obtain ⟨y3, D1, hc2, h⟩ := bI_some h
  refine h_callSi (As := [.int (D 281 3), .int x2, .int 2]) (rest := [.int x4, .ref (z + 282)]) O hH (c_X12_moveAt hc2) ml_X12_148 rfl hl.1 rfl ⟨Nat.le_of_ble_eq_true rfl, Nat.le_of_ble_eq_true rfl⟩ (Nat.le_of_ble_eq_true rfl) dX12_goesBy_100 (fun H locs hH => ?_)
  refine lv_iadd hx hb dX12_goesBy_103 ?_
  obtain ⟨g4, h⟩ := gd_some h
  refine h_iald O hH ly_282 g4 dX12_goesBy_104 ?_
  refine lv_iconst (v := (-1)) hx hb dX12_goesBy_105 (by decide) ?_
  refine lv_icmp_eq (tgt := 112) hx hb dX12_goesBy_106 (by decide) (fun c5 => ?_) (fun c5 => ?_)
  · have h := it_pos h c5
    exact w_X12_goesBy_112 O hr hlk _ _ _ _ _ h _ _ _ hH (lv_sub hl [0, 1, 2, 3, 4] rfl)
  · have h := it_neg h c5
    refine lv_iconst (v := 2) hx hb dX12_goesBy_109 (by decide) ?_
    refine lv_istore (lv' := [(5, .int 2), (0, .ref (z + 281)), (2, .int x2), (3, .int x3), (4, .int x4)]) hx hb dX12_goesBy_110 hl (by decide) rfl (fun ls hl => ?_)
    exact w_X12_goesBy_112 O hr hlk _ _ _ _ _ h _ _ _ hH (lv_sub hl [1, 2, 3, 4, 0] rfl)
set_option maxHeartbeats 4000000 in
theorem w_X12_goesBy_53 {G : va_G} {tA : Nat → ClassId} {z : Nat} {E : Ex} {p : Program} {l : Launch} {e : Env} {s : State} {m : MethodId} {args : Array Value} {below : List Frame} {meth : Method} {c : Code} {D' : Dm} (O : Ok G tA z E cX12_goesBy RX12 9 p s m args c) (hr : meth.sig.returnType = none) (hlk : meth.locks = false) (x2 : Int32) (x3 : Int32) (x4 : Int32) (x5 : Int32) (D : Dm) (h : f_X12_goesBy_53 x2 x3 x4 x5 D = some D') : BV G tA z E p l e (rmC 3 0 0) s m args below meth c LAY D D' 9 53 [(0, .ref (z + 281)), (2, .int x2), (3, .int x3), (4, .int x4), (5, .int x5)] [] := by
  obtain ⟨hx, hb, -, hown, hts, -⟩ := id O
  unfold f_X12_goesBy_53 at h
  intro H locs ls hH hl
  refine lv_aload_n hx hb dX12_goesBy_53 rfl (lv_at hl 0 rfl) ?_
  refine h_geti O hH ly_281 rfl fl_X12_141 dX12_goesBy_54 ?_
  refine lv_iload_n hx hb dX12_goesBy_57 rfl (lv_at hl 2 rfl) ?_
  refine lv_icmp_ne (tgt := 88) hx hb dX12_goesBy_58 (by decide) (fun c1 => ?_) (fun c1 => ?_)
  · have h := it_neg h c1
    exact w_X12_goesBy_88 O hr hlk _ _ _ _ _ h _ _ _ hH (lv_sub hl [0, 1, 2, 3, 4] rfl)
  · have h := it_pos h c1
    refine lv_aload_n hx hb dX12_goesBy_61 rfl (lv_at hl 0 rfl) ?_
    refine h_getr O hH ly_281 rfl fl_X12_13 dX12_goesBy_62 ?_
    refine lv_iload hx hb dX12_goesBy_65 (lv_at hl 3 rfl) ?_
    refine lv_aload_n hx hb dX12_goesBy_67 rfl (lv_at hl 0 rfl) ?_
    refine h_geti O hH ly_281 rfl fl_X12_135 dX12_goesBy_68 ?_
    refine lv_iload_n hx hb dX12_goesBy_71 rfl (lv_at hl 1 rfl) ?_
    refine lv_iconst (v := 1) hx hb dX12_goesBy_72 (by decide) ?_
    obtain ⟨y4, D2, hc3, h⟩ := bI_some h
    refine h_callSi (As := [.int (D 281 3), .int x2, .int 1]) (rest := [.int x4, .ref (z + 282)]) O hH (c_X12_moveAt hc3) ml_X12_148 rfl hl.1 rfl ⟨Nat.le_of_ble_eq_true rfl, Nat.le_of_ble_eq_true rfl⟩ (Nat.le_of_ble_eq_true rfl) dX12_goesBy_73 (fun H locs hH => ?_)
    refine lv_iadd hx hb dX12_goesBy_76 ?_
    obtain ⟨g5, h⟩ := gd_some h
    refine h_iald O hH ly_282 g5 dX12_goesBy_77 ?_
    refine lv_iconst (v := (-1)) hx hb dX12_goesBy_78 (by decide) ?_
    refine lv_icmp_eq (tgt := 88) hx hb dX12_goesBy_79 (by decide) (fun c6 => ?_) (fun c6 => ?_)
    · have h := it_pos h c6
      exact w_X12_goesBy_88 O hr hlk _ _ _ _ _ h _ _ _ hH (lv_sub hl [0, 1, 2, 3, 4] rfl)
    · have h := it_neg h c6
      refine lv_iconst (v := 1) hx hb dX12_goesBy_82 (by decide) ?_
      refine lv_istore (lv' := [(5, .int 1), (0, .ref (z + 281)), (2, .int x2), (3, .int x3), (4, .int x4)]) hx hb dX12_goesBy_83 hl (by decide) rfl (fun ls hl => ?_)
      refine lv_goto (tgt := 112) hx hb dX12_goesBy_85 (by decide) ?_
      exact w_X12_goesBy_112 O hr hlk _ _ _ _ _ h _ _ _ hH (lv_sub hl [1, 2, 3, 4, 0] rfl)
set_option maxHeartbeats 4000000 in
theorem w_X12_goesBy {G : va_G} {tA : Nat → ClassId} {z : Nat} {E : Ex} {p : Program} {l : Launch} {e : Env} {s : State} {m : MethodId} {args : Array Value} {below : List Frame} {meth : Method} {c : Code} {D' : Dm} (O : Ok G tA z E cX12_goesBy RX12 9 p s m args c) (hr : meth.sig.returnType = none) (hlk : meth.locks = false) (x1 : Int32) (x2 : Int32) (x3 : Int32) (D : Dm) (h : f_X12_goesBy x1 x2 x3 D = some D') : BV G tA z E p l e (rmC 3 0 0) s m args below meth c LAY D D' 9 0 [(0, .ref (z + 281)), (1, .int x1), (2, .int x2), (3, .int x3)] [] := by
  obtain ⟨hx, hb, -, hown, hts, -⟩ := id O
  unfold f_X12_goesBy at h
  intro H locs ls hH hl
  refine lv_aload_n hx hb dX12_goesBy_0 rfl (lv_at hl 0 rfl) ?_
  refine h_geti O hH ly_281 rfl fl_X12_135 dX12_goesBy_1 ?_
  refine lv_iconst (v := (-1)) hx hb dX12_goesBy_4 (by decide) ?_
  refine lv_icmp_ne (tgt := 9) hx hb dX12_goesBy_5 (by decide) (fun c1 => ?_) (fun c1 => ?_)
  · have h := it_neg h c1
    refine lv_bipush (v := 94) hx hb dX12_goesBy_9 (by decide) ?_
    refine lv_iload_n hx hb dX12_goesBy_11 rfl (lv_at hl 1 rfl) ?_
    refine lv_imul hx hb dX12_goesBy_12 ?_
    refine lv_topi (fun y2 e3 => ?_)
    have h := lt_at e3 h
    refine lv_istore (lv' := [(4, .int y2), (0, .ref (z + 281)), (1, .int x1), (2, .int x2), (3, .int x3)]) hx hb dX12_goesBy_13 hl (by decide) rfl (fun ls hl => ?_)
    refine lv_iconst (v := (-1)) hx hb dX12_goesBy_15 (by decide) ?_
    refine lv_istore (lv' := [(5, .int (-1)), (4, .int y2), (0, .ref (z + 281)), (1, .int x1), (2, .int x2), (3, .int x3)]) hx hb dX12_goesBy_16 hl (by decide) rfl (fun ls hl => ?_)
    refine lv_aload_n hx hb dX12_goesBy_18 rfl (lv_at hl 2 rfl) ?_
    refine h_geti O hH ly_281 rfl fl_X12_138 dX12_goesBy_19 ?_
    refine lv_iload_n hx hb dX12_goesBy_22 rfl (lv_at hl 5 rfl) ?_
    refine lv_icmp_ne (tgt := 53) hx hb dX12_goesBy_23 (by decide) (fun c4 => ?_) (fun c4 => ?_)
    · have h := it_neg h c4
      exact w_X12_goesBy_53 O hr hlk _ _ _ _ _ h _ _ _ hH (lv_sub hl [2, 4, 5, 1, 0] rfl)
    · have h := it_pos h c4
      refine lv_aload_n hx hb dX12_goesBy_26 rfl (lv_at hl 2 rfl) ?_
      refine h_getr O hH ly_281 rfl fl_X12_13 dX12_goesBy_27 ?_
      refine lv_iload hx hb dX12_goesBy_30 (lv_at hl 1 rfl) ?_
      refine lv_aload_n hx hb dX12_goesBy_32 rfl (lv_at hl 2 rfl) ?_
      refine h_geti O hH ly_281 rfl fl_X12_135 dX12_goesBy_33 ?_
      refine lv_iload_n hx hb dX12_goesBy_36 rfl (lv_at hl 4 rfl) ?_
      refine lv_iconst (v := 0) hx hb dX12_goesBy_37 (by decide) ?_
      obtain ⟨y7, D5, hc6, h⟩ := bI_some h
      refine h_callSi (As := [.int (D 281 3), .int x2, .int 0]) (rest := [.int y2, .ref (z + 282)]) O hH (c_X12_moveAt hc6) ml_X12_148 rfl hl.1 rfl ⟨Nat.le_of_ble_eq_true rfl, Nat.le_of_ble_eq_true rfl⟩ (Nat.le_of_ble_eq_true rfl) dX12_goesBy_38 (fun H locs hH => ?_)
      refine lv_iadd hx hb dX12_goesBy_41 ?_
      obtain ⟨g8, h⟩ := gd_some h
      refine h_iald O hH ly_282 g8 dX12_goesBy_42 ?_
      refine lv_iconst (v := (-1)) hx hb dX12_goesBy_43 (by decide) ?_
      refine lv_icmp_eq (tgt := 53) hx hb dX12_goesBy_44 (by decide) (fun c9 => ?_) (fun c9 => ?_)
      · have h := it_pos h c9
        exact w_X12_goesBy_53 O hr hlk _ _ _ _ _ h _ _ _ hH (lv_sub hl [2, 4, 5, 1, 0] rfl)
      · have h := it_neg h c9
        refine lv_iconst (v := 0) hx hb dX12_goesBy_47 (by decide) ?_
        refine lv_istore (lv' := [(5, .int 0), (4, .int y2), (0, .ref (z + 281)), (1, .int x1), (2, .int x2), (3, .int x3)]) hx hb dX12_goesBy_48 hl (by decide) rfl (fun ls hl => ?_)
        refine lv_goto (tgt := 112) hx hb dX12_goesBy_50 (by decide) ?_
        exact w_X12_goesBy_112 O hr hlk _ _ _ _ _ h _ _ _ hH (lv_sub hl [2, 4, 5, 1, 0] rfl)
  · have h := it_pos h c1
    obtain rfl := ret_v h
    exact h_vret O hr hlk hH dX12_goesBy_8
set_option maxHeartbeats 4000000 in
theorem c_X12_goesBy {l : Launch} {G : va_G} {tA : Nat → ClassId} {z : Nat} {E : Ex} {x1 : Int32} {x2 : Int32} {x3 : Int32} {D D' : Dm} (h : f_X12_goesBy x1 x2 x3 D = some D') : CtV l yX12_goesBy cX12_goesBy 9 G tA z E 3 0 0 [.ref (z + 281), .int x1, .int x2, .int x3] LAY D LAY D' :=
  ct_BV (by decide +kernel) (Nat.le_of_ble_eq_true rfl) (fun _ _ _ _ _ _ _ _ O hr hlk => w_X12_goesBy O hr hlk _ _ _ _ h)
set_option maxHeartbeats 4000000 in
theorem w_X12_accepts {G : va_G} {tA : Nat → ClassId} {z : Nat} {E : Ex} {p : Program} {l : Launch} {e : Env} {s : State} {m : MethodId} {args : Array Value} {below : List Frame} {meth : Method} {c : Code} {r : Int32} {D' : Dm} (O : Ok G tA z E cX12_accepts RX12 2 p s m args c) (hr : meth.sig.returnType = some .boolean) (hlk : meth.locks = false) (x1 : Int32) (D : Dm) (h : f_X12_accepts x1 D = some (r, D')) : BI G tA z E p l e (rmC 2 0 0) s m args below meth c LAY D r D' 2 0 [(0, .ref (z + 281)), (1, .int x1)] [] := by
  obtain ⟨hx, hb, -, hown, hts, -⟩ := id O
  unfold f_X12_accepts at h
  intro H locs ls hH hl
  refine lv_aload_n hx hb dX12_accepts_0 rfl (lv_at hl 0 rfl) ?_
  refine h_geti O hH ly_281 rfl fl_X12_135 dX12_accepts_1 ?_
  refine lv_iconst (v := (-1)) hx hb dX12_accepts_4 (by decide) ?_
  refine lv_icmp_eq (tgt := 29) hx hb dX12_accepts_5 (by decide) (fun c1 => ?_) (fun c1 => ?_)
  · have h := it_pos h c1
    refine lv_iconst (v := 0) hx hb dX12_accepts_29 (by decide) ?_
    obtain ⟨rfl, rfl⟩ := ret_i h
    exact h_zret O hr hlk zb_0 hH dX12_accepts_30
  · have h := it_neg h c1
    refine lv_aload_n hx hb dX12_accepts_8 rfl (lv_at hl 0 rfl) ?_
    refine lv_iload_n hx hb dX12_accepts_9 rfl (lv_at hl 1 rfl) ?_
    refine lv_iconst (v := 3) hx hb dX12_accepts_10 (by decide) ?_
    obtain ⟨y4, D2, hc3, h⟩ := bI_some h
    refine h_callVi (As := [.int x1, .int 3]) (rest := []) O hH (c_X12_its hc3) ml_X12_155 ly_281 rfl rfl hl.1 rfl ⟨Nat.le_of_ble_eq_true rfl, Nat.le_of_ble_eq_true rfl⟩ (Nat.le_of_ble_eq_true rfl) dX12_accepts_11 (fun H locs hH => ?_)
    refine lv_aload_n hx hb dX12_accepts_14 rfl (lv_at hl 0 rfl) ?_
    refine h_geti O hH ly_281 rfl fl_X12_135 dX12_accepts_15 ?_
    refine lv_ishr hx hb dX12_accepts_18 ?_
    refine lv_iconst (v := 1) hx hb dX12_accepts_19 (by decide) ?_
    refine lv_iand hx hb dX12_accepts_20 ?_
    refine lv_iconst (v := 1) hx hb dX12_accepts_21 (by decide) ?_
    refine lv_icmp_ne (tgt := 29) hx hb dX12_accepts_22 (by decide) (fun c5 => ?_) (fun c5 => ?_)
    · have h := it_neg h c5
      refine lv_iconst (v := 0) hx hb dX12_accepts_29 (by decide) ?_
      obtain ⟨rfl, rfl⟩ := ret_i h
      exact h_zret O hr hlk zb_0 hH dX12_accepts_30
    · have h := it_pos h c5
      refine lv_iconst (v := 1) hx hb dX12_accepts_25 (by decide) ?_
      refine lv_goto (tgt := 30) hx hb dX12_accepts_26 (by decide) ?_
      obtain ⟨rfl, rfl⟩ := ret_i h
      exact h_zret O hr hlk zb_1 hH dX12_accepts_30
set_option maxHeartbeats 4000000 in
theorem c_X12_accepts {l : Launch} {G : va_G} {tA : Nat → ClassId} {z : Nat} {E : Ex} {x1 : Int32} {D D' : Dm} {r : Int32} (h : f_X12_accepts x1 D = some (r, D')) : CtI l yX12_accepts cX12_accepts 2 (some .boolean) G tA z E 2 0 0 [.ref (z + 281), .int x1] LAY D r LAY D' :=
  ct_BI (by decide +kernel) (Nat.le_of_ble_eq_true rfl) (fun _ _ _ _ _ _ _ _ O hr hlk => w_X12_accepts O hr hlk _ _ h)
set_option maxHeartbeats 4000000 in
theorem w_X12_feed_77 {G : va_G} {tA : Nat → ClassId} {z : Nat} {E : Ex} {p : Program} {l : Launch} {e : Env} {s : State} {m : MethodId} {args : Array Value} {below : List Frame} {meth : Method} {c : Code} {r : Int32} {D' : Dm} (O : Ok G tA z E cX12_feed RX12 8 p s m args c) (hr : meth.sig.returnType = some .int) (hlk : meth.locks = false) {k24 : Int32 → Int32 → Int32 → Int32 → Int32 → Int32 → Dm → Option (Int32 × Dm)} (hk24 : ∀ (x1 : Int32) (x2 : Int32) (x3 : Int32) (x4 : Int32) (x5 : Int32) (x6 : Int32) (D : Dm), k24 x1 x2 x3 x4 x5 x6 D = some (r, D') → BI G tA z E p l e (rmC 1 0 0) s m args below meth c LAY D r D' 8 24 [(0, .ref (z + 281)), (1, .int x1), (2, .int x2), (3, .int x3), (4, .int x4), (5, .int x5), (6, .int x6)] []) (x1 : Int32) (x2 : Int32) (x3 : Int32) (x4 : Int32) (x5 : Int32) (x6 : Int32) (xs0 : Int32) (D : Dm) (h : f_X12_feed_77 k24 x1 x2 x3 x4 x5 x6 xs0 D = some (r, D')) : BI G tA z E p l e (rmC 1 0 0) s m args below meth c LAY D r D' 8 77 [(0, .ref (z + 281)), (1, .int x1), (2, .int x2), (3, .int x3), (4, .int x4), (5, .int x5), (6, .int x6)] [.int xs0] := by
  obtain ⟨hx, hb, -, hown, hts, -⟩ := id O
  unfold f_X12_feed_77 at h
  intro H locs ls hH hl
  refine lv_istore (lv' := [(7, .int xs0), (0, .ref (z + 281)), (1, .int x1), (2, .int x2), (3, .int x3), (4, .int x4), (5, .int x5), (6, .int x6)]) hx hb dX12_feed_77 hl (by decide) rfl (fun ls hl => ?_)
  refine lv_aload_n hx hb dX12_feed_79 rfl (lv_at hl 1 rfl) ?_
  refine h_getr O hH ly_281 rfl fl_X12_20 dX12_feed_80 ?_
  refine lv_aload_n hx hb dX12_feed_83 rfl (lv_at hl 1 rfl) ?_
  refine h_geti O hH ly_281 rfl fl_X12_159 dX12_feed_84 ?_
  refine lv_iload hx hb dX12_feed_87 (lv_at hl 0 rfl) ?_
  refine lv_bipush (v := 24) hx hb dX12_feed_89 (by decide) ?_
  refine lv_bipush (v := 8) hx hb dX12_feed_91 (by decide) ?_
  refine lv_iload hx hb dX12_feed_93 (lv_at hl 7 rfl) ?_
  refine lv_iconst (v := 4) hx hb dX12_feed_95 (by decide) ?_
  refine lv_irem hx hb dX12_feed_96 (by decide) ?_
  refine lv_imul hx hb dX12_feed_97 ?_
  refine lv_isub hx hb dX12_feed_98 ?_
  refine lv_ishr hx hb dX12_feed_99 ?_
  refine lv_i2b hx hb dX12_feed_100 rfl ?_
  obtain ⟨g1, h⟩ := gd_some h
  obtain ⟨D2, e3, h⟩ := lt_some h
  refine h_bast O hH ly_284 g1 e3 dX12_feed_101 (fun H locs hH => ?_)
  refine lv_aload_n hx hb dX12_feed_102 rfl (lv_at hl 1 rfl) ?_
  refine lv_dup hx hb dX12_feed_103 rfl ?_
  refine h_geti O hH ly_281 rfl fl_X12_159 dX12_feed_104 ?_
  refine lv_iconst (v := 1) hx hb dX12_feed_107 (by decide) ?_
  refine lv_iadd hx hb dX12_feed_108 ?_
  obtain ⟨D4, e5, h⟩ := lt_some h
  refine h_puti O hH ly_281 rfl fl_X12_159 e5 dX12_feed_109 (fun H locs hH => ?_)
  obtain ⟨y6, e7, h⟩ := lt_some h
  refine lv_iinc (v := y6) (lv' := [(6, .int y6), (7, .int xs0), (0, .ref (z + 281)), (1, .int x1), (2, .int x2), (3, .int x3), (4, .int x4), (5, .int x5)]) hx hb dX12_feed_112 hl (k := 7) rfl (by rw [e7]; rfl) (by decide) rfl (fun ls hl => ?_)
  refine lv_goto (tgt := 24) hx hb dX12_feed_115 (by decide) ?_
  exact hk24 _ _ _ _ _ _ _ h _ _ _ hH (lv_sub hl [2, 3, 4, 5, 6, 7, 0] rfl)
set_option maxHeartbeats 4000000 in
theorem w_X12_feed_24_b {G : va_G} {tA : Nat → ClassId} {z : Nat} {E : Ex} {p : Program} {l : Launch} {e : Env} {s : State} {m : MethodId} {args : Array Value} {below : List Frame} {meth : Method} {c : Code} {r : Int32} {D' : Dm} (O : Ok G tA z E cX12_feed RX12 8 p s m args c) (hr : meth.sig.returnType = some .int) (hlk : meth.locks = false) {k24 : Int32 → Int32 → Int32 → Int32 → Int32 → Int32 → Dm → Option (Int32 × Dm)} (hk24 : ∀ (x1 : Int32) (x2 : Int32) (x3 : Int32) (x4 : Int32) (x5 : Int32) (x6 : Int32) (D : Dm), k24 x1 x2 x3 x4 x5 x6 D = some (r, D') → BI G tA z E p l e (rmC 1 0 0) s m args below meth c LAY D r D' 8 24 [(0, .ref (z + 281)), (1, .int x1), (2, .int x2), (3, .int x3), (4, .int x4), (5, .int x5), (6, .int x6)] []) (x1 : Int32) (x2 : Int32) (x3 : Int32) (x4 : Int32) (x5 : Int32) (x6 : Int32) (D : Dm) (h : f_X12_feed_24_b k24 x1 x2 x3 x4 x5 x6 D = some (r, D')) : BI G tA z E p l e (rmC 1 0 0) s m args below meth c LAY D r D' 8 24 [(0, .ref (z + 281)), (1, .int x1), (2, .int x2), (3, .int x3), (4, .int x4), (5, .int x5), (6, .int x6)] [] := by
  obtain ⟨hx, hb, -, hown, hts, -⟩ := id O
  unfold f_X12_feed_24_b at h
  intro H locs ls hH hl
  refine lv_iload hx hb dX12_feed_24 (lv_at hl 6 rfl) ?_
  refine lv_bipush (v := 20) hx hb dX12_feed_26 (by decide) ?_
  refine lv_icmp_ge (tgt := 118) hx hb dX12_feed_28 (by decide) (fun c1 => ?_) (fun c1 => ?_)
  · have h := it_pos h c1
    refine lv_aload_n hx hb dX12_feed_118 rfl (lv_at hl 0 rfl) ?_
    refine h_geti O hH ly_281 rfl fl_X12_159 dX12_feed_119 ?_
    obtain ⟨rfl, rfl⟩ := ret_i h
    exact h_iret O hr hlk hH dX12_feed_122
  · have h := it_neg h c1
    refine lv_iload hx hb dX12_feed_31 (lv_at hl 6 rfl) ?_
    refine lv_iconst (v := 4) hx hb dX12_feed_33 (by decide) ?_
    refine lv_icmp_ge (tgt := 41) hx hb dX12_feed_34 (by decide) (fun c2 => ?_) (fun c2 => ?_)
    · have h := it_pos h c2
      refine lv_iload hx hb dX12_feed_41 (lv_at hl 6 rfl) ?_
      refine lv_bipush (v := 8) hx hb dX12_feed_43 (by decide) ?_
      refine lv_icmp_ge (tgt := 52) hx hb dX12_feed_45 (by decide) (fun c3 => ?_) (fun c3 => ?_)
      · have h := it_pos h c3
        refine lv_iload hx hb dX12_feed_52 (lv_at hl 6 rfl) ?_
        refine lv_bipush (v := 12) hx hb dX12_feed_54 (by decide) ?_
        refine lv_icmp_ge (tgt := 63) hx hb dX12_feed_56 (by decide) (fun c4 => ?_) (fun c4 => ?_)
        · have h := it_pos h c4
          refine lv_iload hx hb dX12_feed_63 (lv_at hl 6 rfl) ?_
          refine lv_bipush (v := 16) hx hb dX12_feed_65 (by decide) ?_
          refine lv_icmp_ge (tgt := 75) hx hb dX12_feed_67 (by decide) (fun c5 => ?_) (fun c5 => ?_)
          · have h := it_pos h c5
            refine lv_iload hx hb dX12_feed_75 (lv_at hl 5 rfl) ?_
            exact w_X12_feed_77 O hr hlk hk24 _ _ _ _ _ _ _ _ h _ _ _ hH (lv_sub hl [0, 1, 2, 3, 4, 5, 6] rfl)
          · have h := it_neg h c5
            refine lv_iload hx hb dX12_feed_70 (lv_at hl 4 rfl) ?_
            refine lv_goto (tgt := 77) hx hb dX12_feed_72 (by decide) ?_
            exact w_X12_feed_77 O hr hlk hk24 _ _ _ _ _ _ _ _ h _ _ _ hH (lv_sub hl [0, 1, 2, 3, 4, 5, 6] rfl)
        · have h := it_neg h c4
          refine lv_iload_n hx hb dX12_feed_59 rfl (lv_at hl 3 rfl) ?_
          refine lv_goto (tgt := 77) hx hb dX12_feed_60 (by decide) ?_
          exact w_X12_feed_77 O hr hlk hk24 _ _ _ _ _ _ _ _ h _ _ _ hH (lv_sub hl [0, 1, 2, 3, 4, 5, 6] rfl)
      · have h := it_neg h c3
        refine lv_iload_n hx hb dX12_feed_48 rfl (lv_at hl 2 rfl) ?_
        refine lv_goto (tgt := 77) hx hb dX12_feed_49 (by decide) ?_
        exact w_X12_feed_77 O hr hlk hk24 _ _ _ _ _ _ _ _ h _ _ _ hH (lv_sub hl [0, 1, 2, 3, 4, 5, 6] rfl)
    · have h := it_neg h c2
      refine lv_iload_n hx hb dX12_feed_37 rfl (lv_at hl 1 rfl) ?_
      refine lv_goto (tgt := 77) hx hb dX12_feed_38 (by decide) ?_
      exact w_X12_feed_77 O hr hlk hk24 _ _ _ _ _ _ _ _ h _ _ _ hH (lv_sub hl [0, 1, 2, 3, 4, 5, 6] rfl)
set_option maxHeartbeats 4000000 in
theorem w_X12_feed_24 {G : va_G} {tA : Nat → ClassId} {z : Nat} {E : Ex} {p : Program} {l : Launch} {e : Env} {s : State} {m : MethodId} {args : Array Value} {below : List Frame} {meth : Method} {c : Code} {r : Int32} {D' : Dm} (O : Ok G tA z E cX12_feed RX12 8 p s m args c) (hr : meth.sig.returnType = some .int) (hlk : meth.locks = false) : ∀ (n : Nat) (x1 : Int32) (x2 : Int32) (x3 : Int32) (x4 : Int32) (x5 : Int32) (x6 : Int32) (D : Dm) (h : f_X12_feed_24 n x1 x2 x3 x4 x5 x6 D = some (r, D')), BI G tA z E p l e (rmC 1 0 0) s m args below meth c LAY D r D' 8 24 [(0, .ref (z + 281)), (1, .int x1), (2, .int x2), (3, .int x3), (4, .int x4), (5, .int x5), (6, .int x6)] [] := by
  intro n
  induction n with
  | zero => intro x1 x2 x3 x4 x5 x6 D h; exact no_some h
  | succ n ih => intro x1 x2 x3 x4 x5 x6 D h; exact w_X12_feed_24_b O hr hlk (fun x1 x2 x3 x4 x5 x6 D h => ih x1 x2 x3 x4 x5 x6 D h) x1 x2 x3 x4 x5 x6 D h
set_option maxHeartbeats 4000000 in
theorem w_X12_feed {G : va_G} {tA : Nat → ClassId} {z : Nat} {E : Ex} {p : Program} {l : Launch} {e : Env} {s : State} {m : MethodId} {args : Array Value} {below : List Frame} {meth : Method} {c : Code} {r : Int32} {D' : Dm} (O : Ok G tA z E cX12_feed RX12 8 p s m args c) (hr : meth.sig.returnType = some .int) (hlk : meth.locks = false) (x1 : Int32) (x2 : Int32) (x3 : Int32) (x4 : Int32) (x5 : Int32) (D : Dm) (h : f_X12_feed x1 x2 x3 x4 x5 D = some (r, D')) : BI G tA z E p l e (rmC 1 0 0) s m args below meth c LAY D r D' 8 0 [(0, .ref (z + 281)), (1, .int x1), (2, .int x2), (3, .int x3), (4, .int x4), (5, .int x5)] [] := by
  obtain ⟨hx, hb, -, hown, hts, -⟩ := id O
  unfold f_X12_feed at h
  intro H locs ls hH hl
  refine lv_aload_n hx hb dX12_feed_0 rfl (lv_at hl 0 rfl) ?_
  refine lv_iconst (v := 0) hx hb dX12_feed_1 (by decide) ?_
  obtain ⟨D1, e2, h⟩ := lt_some h
  refine h_puti O hH ly_281 rfl fl_X12_1 e2 dX12_feed_2 (fun H locs hH => ?_)
  refine lv_aload_n hx hb dX12_feed_5 rfl (lv_at hl 0 rfl) ?_
  refine h_geti O hH ly_281 rfl fl_X12_159 dX12_feed_6 ?_
  refine lv_bipush (v := 20) hx hb dX12_feed_9 (by decide) ?_
  refine lv_iadd hx hb dX12_feed_11 ?_
  refine lv_sipush (v := 500) hx hb dX12_feed_12 (by decide) ?_
  refine lv_icmp_le (tgt := 21) hx hb dX12_feed_15 (by decide) (fun c3 => ?_) (fun c3 => ?_)
  · have h := it_pos h c3
    refine lv_iconst (v := 0) hx hb dX12_feed_21 (by decide) ?_
    refine lv_istore (lv' := [(6, .int 0), (0, .ref (z + 281)), (1, .int x1), (2, .int x2), (3, .int x3), (4, .int x4), (5, .int x5)]) hx hb dX12_feed_22 hl (by decide) rfl (fun ls hl => ?_)
    exact w_X12_feed_24 O hr hlk FU _ _ _ _ _ _ _ h _ _ _ hH (lv_sub hl [1, 2, 3, 4, 5, 6, 0] rfl)
  · have h := it_neg h c3
    refine lv_bipush (v := (-4)) hx hb dX12_feed_18 (by decide) ?_
    obtain ⟨rfl, rfl⟩ := ret_i h
    exact h_iret O hr hlk hH dX12_feed_20
set_option maxHeartbeats 4000000 in
theorem c_X12_feed {l : Launch} {G : va_G} {tA : Nat → ClassId} {z : Nat} {E : Ex} {x1 : Int32} {x2 : Int32} {x3 : Int32} {x4 : Int32} {x5 : Int32} {D D' : Dm} {r : Int32} (h : f_X12_feed x1 x2 x3 x4 x5 D = some (r, D')) : CtI l yX12_feed cX12_feed 8 (some .int) G tA z E 1 0 0 [.ref (z + 281), .int x1, .int x2, .int x3, .int x4, .int x5] LAY D r LAY D' :=
  ct_BI (by decide +kernel) (Nat.le_of_ble_eq_true rfl) (fun _ _ _ _ _ _ _ _ O hr hlk => w_X12_feed O hr hlk _ _ _ _ _ _ h)
set_option maxHeartbeats 4000000 in
theorem w_X12_peek {G : va_G} {tA : Nat → ClassId} {z : Nat} {E : Ex} {p : Program} {l : Launch} {e : Env} {s : State} {m : MethodId} {args : Array Value} {below : List Frame} {meth : Method} {c : Code} {r : Int32} {D' : Dm} (O : Ok G tA z E cX12_peek RX12 1 p s m args c) (hr : meth.sig.returnType = some .int) (hlk : meth.locks = false)  (D : Dm) (h : f_X12_peek  D = some (r, D')) : BI G tA z E p l e (rmC 1 0 0) s m args below meth c LAY D r D' 1 0 [(0, .ref (z + 281))] [] := by
  obtain ⟨hx, hb, -, hown, hts, -⟩ := id O
  unfold f_X12_peek at h
  intro H locs ls hH hl
  refine lv_aload_n hx hb dX12_peek_0 rfl (lv_at hl 0 rfl) ?_
  refine h_geti O hH ly_281 rfl fl_X12_162 dX12_peek_1 ?_
  refine lv_aload_n hx hb dX12_peek_4 rfl (lv_at hl 0 rfl) ?_
  refine h_geti O hH ly_281 rfl fl_X12_165 dX12_peek_5 ?_
  refine lv_icmp_ge (tgt := 27) hx hb dX12_peek_8 (by decide) (fun c1 => ?_) (fun c1 => ?_)
  · have h := it_pos h c1
    refine lv_iconst (v := (-1)) hx hb dX12_peek_27 (by decide) ?_
    obtain ⟨rfl, rfl⟩ := ret_i h
    exact h_iret O hr hlk hH dX12_peek_28
  · have h := it_neg h c1
    refine lv_aload_n hx hb dX12_peek_11 rfl (lv_at hl 0 rfl) ?_
    refine h_getr O hH ly_281 rfl fl_X12_20 dX12_peek_12 ?_
    refine lv_aload_n hx hb dX12_peek_15 rfl (lv_at hl 0 rfl) ?_
    refine h_geti O hH ly_281 rfl fl_X12_162 dX12_peek_16 ?_
    obtain ⟨g2, h⟩ := gd_some h
    refine h_bald O hH ly_284 g2 dX12_peek_19 ?_
    refine lv_sipush (v := 255) hx hb dX12_peek_20 (by decide) ?_
    refine lv_iand hx hb dX12_peek_23 ?_
    refine lv_goto (tgt := 28) hx hb dX12_peek_24 (by decide) ?_
    obtain ⟨rfl, rfl⟩ := ret_i h
    exact h_iret O hr hlk hH dX12_peek_28
set_option maxHeartbeats 4000000 in
theorem c_X12_peek {l : Launch} {G : va_G} {tA : Nat → ClassId} {z : Nat} {E : Ex}  {D D' : Dm} {r : Int32} (h : f_X12_peek  D = some (r, D')) : CtI l yX12_peek cX12_peek 1 (some .int) G tA z E 1 0 0 [.ref (z + 281)] LAY D r LAY D' :=
  ct_BI (by decide +kernel) (Nat.le_of_ble_eq_true rfl) (fun _ _ _ _ _ _ _ _ O hr hlk => w_X12_peek O hr hlk  _ h)
set_option maxHeartbeats 4000000 in
theorem w_X12_fails {G : va_G} {tA : Nat → ClassId} {z : Nat} {E : Ex} {p : Program} {l : Launch} {e : Env} {s : State} {m : MethodId} {args : Array Value} {below : List Frame} {meth : Method} {c : Code} {D' : Dm} (O : Ok G tA z E cX12_fails RX12 3 p s m args c) (hr : meth.sig.returnType = none) (hlk : meth.locks = false) (x1 : Int32) (x2 : Int32) (D : Dm) (h : f_X12_fails x1 x2 D = some D') : BV G tA z E p l e (rmC 1 0 0) s m args below meth c LAY D D' 3 0 [(0, .ref (z + 281)), (1, .int x1), (2, .int x2)] [] := by
  obtain ⟨hx, hb, -, hown, hts, -⟩ := id O
  unfold f_X12_fails at h
  intro H locs ls hH hl
  refine lv_aload_n hx hb dX12_fails_0 rfl (lv_at hl 0 rfl) ?_
  refine h_geti O hH ly_281 rfl fl_X12_168 dX12_fails_1 ?_
  refine lv_if_eq (tgt := 8) hx hb dX12_fails_4 (by decide) (fun c1 => ?_) (fun c1 => ?_)
  · have h := it_pos h c1
    refine lv_aload_n hx hb dX12_fails_8 rfl (lv_at hl 0 rfl) ?_
    refine lv_iload_n hx hb dX12_fails_9 rfl (lv_at hl 1 rfl) ?_
    obtain ⟨D2, e3, h⟩ := lt_some h
    refine h_puti O hH ly_281 rfl fl_X12_168 e3 dX12_fails_10 (fun H locs hH => ?_)
    refine lv_aload_n hx hb dX12_fails_13 rfl (lv_at hl 0 rfl) ?_
    refine lv_iload_n hx hb dX12_fails_14 rfl (lv_at hl 2 rfl) ?_
    obtain ⟨D4, e5, h⟩ := lt_some h
    refine h_puti O hH ly_281 rfl fl_X12_24 e5 dX12_fails_15 (fun H locs hH => ?_)
    obtain rfl := ret_v h
    exact h_vret O hr hlk hH dX12_fails_18
  · have h := it_neg h c1
    obtain rfl := ret_v h
    exact h_vret O hr hlk hH dX12_fails_7
set_option maxHeartbeats 4000000 in
theorem c_X12_fails {l : Launch} {G : va_G} {tA : Nat → ClassId} {z : Nat} {E : Ex} {x1 : Int32} {x2 : Int32} {D D' : Dm} (h : f_X12_fails x1 x2 D = some D') : CtV l yX12_fails cX12_fails 3 G tA z E 1 0 0 [.ref (z + 281), .int x1, .int x2] LAY D LAY D' :=
  ct_BV (by decide +kernel) (Nat.le_of_ble_eq_true rfl) (fun _ _ _ _ _ _ _ _ O hr hlk => w_X12_fails O hr hlk _ _ _ h)
set_option maxHeartbeats 4000000 in
theorem w_X12_blanks_0_b {G : va_G} {tA : Nat → ClassId} {z : Nat} {E : Ex} {p : Program} {l : Launch} {e : Env} {s : State} {m : MethodId} {args : Array Value} {below : List Frame} {meth : Method} {c : Code} {D' : Dm} (O : Ok G tA z E cX12_blanks RX12 1 p s m args c) (hr : meth.sig.returnType = none) (hlk : meth.locks = false) {k0 : Dm → Option Dm} (hk0 : ∀  (D : Dm), k0  D = some D' → BV G tA z E p l e (rmC 2 0 0) s m args below meth c LAY D D' 1 0 [(0, .ref (z + 281))] [])  (D : Dm) (h : f_X12_blanks_0_b k0  D = some D') : BV G tA z E p l e (rmC 2 0 0) s m args below meth c LAY D D' 1 0 [(0, .ref (z + 281))] [] := by
  obtain ⟨hx, hb, -, hown, hts, -⟩ := id O
  unfold f_X12_blanks_0_b at h
  intro H locs ls hH hl
  refine lv_aload_n hx hb dX12_blanks_0 rfl (lv_at hl 0 rfl) ?_
  obtain ⟨y3, D1, hc2, h⟩ := bI_some h
  refine h_callVi (As := []) (rest := []) O hH (c_X12_peek hc2) ml_X12_171 ly_281 rfl rfl hl.1 rfl ⟨Nat.le_of_ble_eq_true rfl, Nat.le_of_ble_eq_true rfl⟩ (Nat.le_of_ble_eq_true rfl) dX12_blanks_1 (fun H locs hH => ?_)
  refine lv_bipush (v := 32) hx hb dX12_blanks_4 (by decide) ?_
  refine lv_icmp_ne (tgt := 22) hx hb dX12_blanks_6 (by decide) (fun c4 => ?_) (fun c4 => ?_)
  · have h := it_neg h c4
    obtain rfl := ret_v h
    exact h_vret O hr hlk hH dX12_blanks_22
  · have h := it_pos h c4
    refine lv_aload_n hx hb dX12_blanks_9 rfl (lv_at hl 0 rfl) ?_
    refine lv_dup hx hb dX12_blanks_10 rfl ?_
    refine h_geti O hH ly_281 rfl fl_X12_162 dX12_blanks_11 ?_
    refine lv_iconst (v := 1) hx hb dX12_blanks_14 (by decide) ?_
    refine lv_iadd hx hb dX12_blanks_15 ?_
    obtain ⟨D5, e6, h⟩ := lt_some h
    refine h_puti O hH ly_281 rfl fl_X12_162 e6 dX12_blanks_16 (fun H locs hH => ?_)
    refine lv_goto (tgt := 0) hx hb dX12_blanks_19 (by decide) ?_
    exact hk0 _ h _ _ _ hH (lv_sub hl [0] rfl)
set_option maxHeartbeats 4000000 in
theorem w_X12_blanks_0 {G : va_G} {tA : Nat → ClassId} {z : Nat} {E : Ex} {p : Program} {l : Launch} {e : Env} {s : State} {m : MethodId} {args : Array Value} {below : List Frame} {meth : Method} {c : Code} {D' : Dm} (O : Ok G tA z E cX12_blanks RX12 1 p s m args c) (hr : meth.sig.returnType = none) (hlk : meth.locks = false) : ∀ (n : Nat)  (D : Dm) (h : f_X12_blanks_0 n  D = some D'), BV G tA z E p l e (rmC 2 0 0) s m args below meth c LAY D D' 1 0 [(0, .ref (z + 281))] [] := by
  intro n
  induction n with
  | zero => intro  D h; exact no_some h
  | succ n ih => intro  D h; exact w_X12_blanks_0_b O hr hlk (fun  D h => ih  D h)  D h
set_option maxHeartbeats 4000000 in
theorem w_X12_blanks {G : va_G} {tA : Nat → ClassId} {z : Nat} {E : Ex} {p : Program} {l : Launch} {e : Env} {s : State} {m : MethodId} {args : Array Value} {below : List Frame} {meth : Method} {c : Code} {D' : Dm} (O : Ok G tA z E cX12_blanks RX12 1 p s m args c) (hr : meth.sig.returnType = none) (hlk : meth.locks = false)  (D : Dm) (h : f_X12_blanks  D = some D') : BV G tA z E p l e (rmC 2 0 0) s m args below meth c LAY D D' 1 0 [(0, .ref (z + 281))] [] := by
  obtain ⟨hx, hb, -, hown, hts, -⟩ := id O
  unfold f_X12_blanks at h
  intro H locs ls hH hl
  exact w_X12_blanks_0 O hr hlk FU _ h _ _ _ hH (lv_sub hl [0] rfl)
set_option maxHeartbeats 4000000 in
theorem c_X12_blanks {l : Launch} {G : va_G} {tA : Nat → ClassId} {z : Nat} {E : Ex}  {D D' : Dm} (h : f_X12_blanks  D = some D') : CtV l yX12_blanks cX12_blanks 1 G tA z E 2 0 0 [.ref (z + 281)] LAY D LAY D' :=
  ct_BV (by decide +kernel) (Nat.le_of_ble_eq_true rfl) (fun _ _ _ _ _ _ _ _ O hr hlk => w_X12_blanks O hr hlk  _ h)
set_option maxHeartbeats 4000000 in
theorem w_X12_isOver_19 {G : va_G} {tA : Nat → ClassId} {z : Nat} {E : Ex} {p : Program} {l : Launch} {e : Env} {s : State} {m : MethodId} {args : Array Value} {below : List Frame} {meth : Method} {c : Code} {r : Int32} {D' : Dm} (O : Ok G tA z E cX12_isOver RX12 1 p s m args c) (hr : meth.sig.returnType = some .boolean) (hlk : meth.locks = false)  (D : Dm) (h : f_X12_isOver_19  D = some (r, D')) : BI G tA z E p l e (rmC 3 0 0) s m args below meth c LAY D r D' 1 19 [] [] := by
  obtain ⟨hx, hb, -, hown, hts, -⟩ := id O
  unfold f_X12_isOver_19 at h
  intro H locs ls hH hl
  refine lv_iconst (v := 1) hx hb dX12_isOver_19 (by decide) ?_
  refine lv_goto (tgt := 24) hx hb dX12_isOver_20 (by decide) ?_
  obtain ⟨rfl, rfl⟩ := ret_i h
  exact h_zret O hr hlk zb_1 hH dX12_isOver_24
set_option maxHeartbeats 4000000 in
theorem w_X12_isOver {G : va_G} {tA : Nat → ClassId} {z : Nat} {E : Ex} {p : Program} {l : Launch} {e : Env} {s : State} {m : MethodId} {args : Array Value} {below : List Frame} {meth : Method} {c : Code} {r : Int32} {D' : Dm} (O : Ok G tA z E cX12_isOver RX12 1 p s m args c) (hr : meth.sig.returnType = some .boolean) (hlk : meth.locks = false)  (D : Dm) (h : f_X12_isOver  D = some (r, D')) : BI G tA z E p l e (rmC 3 0 0) s m args below meth c LAY D r D' 1 0 [(0, .ref (z + 281))] [] := by
  obtain ⟨hx, hb, -, hown, hts, -⟩ := id O
  unfold f_X12_isOver at h
  intro H locs ls hH hl
  refine lv_aload_n hx hb dX12_isOver_0 rfl (lv_at hl 0 rfl) ?_
  obtain ⟨D1, hc2, h⟩ := bV_some h
  refine h_callVv (As := []) (rest := []) O hH (c_X12_blanks hc2) ml_X12_175 ly_281 rfl rfl hl.1 rfl ⟨Nat.le_of_ble_eq_true rfl, Nat.le_of_ble_eq_true rfl⟩ (Nat.le_of_ble_eq_true rfl) dX12_isOver_1 (fun H locs hH => ?_)
  refine lv_aload_n hx hb dX12_isOver_4 rfl (lv_at hl 0 rfl) ?_
  refine h_geti O hH ly_281 rfl fl_X12_168 dX12_isOver_5 ?_
  refine lv_if_ne (tgt := 19) hx hb dX12_isOver_8 (by decide) (fun c3 => ?_) (fun c3 => ?_)
  · have h := it_neg h c3
    exact w_X12_isOver_19 O hr hlk _ h _ _ _ hH (lv_sub hl [] rfl)
  · have h := it_pos h c3
    refine lv_aload_n hx hb dX12_isOver_11 rfl (lv_at hl 0 rfl) ?_
    obtain ⟨y6, D4, hc5, h⟩ := bI_some h
    refine h_callVi (As := []) (rest := []) O hH (c_X12_peek hc5) ml_X12_171 ly_281 rfl rfl hl.1 rfl ⟨Nat.le_of_ble_eq_true rfl, Nat.le_of_ble_eq_true rfl⟩ (Nat.le_of_ble_eq_true rfl) dX12_isOver_12 (fun H locs hH => ?_)
    refine lv_iconst (v := (-1)) hx hb dX12_isOver_15 (by decide) ?_
    refine lv_icmp_ne (tgt := 23) hx hb dX12_isOver_16 (by decide) (fun c7 => ?_) (fun c7 => ?_)
    · have h := it_neg h c7
      refine lv_iconst (v := 0) hx hb dX12_isOver_23 (by decide) ?_
      obtain ⟨rfl, rfl⟩ := ret_i h
      exact h_zret O hr hlk zb_0 hH dX12_isOver_24
    · have h := it_pos h c7
      exact w_X12_isOver_19 O hr hlk _ h _ _ _ hH (lv_sub hl [] rfl)
set_option maxHeartbeats 4000000 in
theorem c_X12_isOver {l : Launch} {G : va_G} {tA : Nat → ClassId} {z : Nat} {E : Ex}  {D D' : Dm} {r : Int32} (h : f_X12_isOver  D = some (r, D')) : CtI l yX12_isOver cX12_isOver 1 (some .boolean) G tA z E 3 0 0 [.ref (z + 281)] LAY D r LAY D' :=
  ct_BI (by decide +kernel) (Nat.le_of_ble_eq_true rfl) (fun _ _ _ _ _ _ _ _ O hr hlk => w_X12_isOver O hr hlk  _ h)
set_option maxHeartbeats 4000000 in
theorem w_X12_wordNext_148 {G : va_G} {tA : Nat → ClassId} {z : Nat} {E : Ex} {p : Program} {l : Launch} {e : Env} {s : State} {m : MethodId} {args : Array Value} {below : List Frame} {meth : Method} {c : Code} {r : Int32} {D' : Dm} (O : Ok G tA z E cX12_wordNext RX12 7 p s m args c) (hr : meth.sig.returnType = some .int) (hlk : meth.locks = false) {k46 : Int32 → Int32 → Int32 → Dm → Option (Int32 × Dm)} (hk46 : ∀ (x1 : Int32) (x2 : Int32) (x3 : Int32) (D : Dm), k46 x1 x2 x3 D = some (r, D') → BI G tA z E p l e (rmC 5 0 0) s m args below meth c LAY D r D' 7 46 [(0, .ref (z + 281)), (1, .int x1), (2, .int x2), (3, .int x3)] []) (x1 : Int32) (x2 : Int32) (x3 : Int32) (x4 : Int32) (x5 : Int32) (D : Dm) (h : f_X12_wordNext_148 k46 x1 x2 x3 x4 x5 D = some (r, D')) : BI G tA z E p l e (rmC 5 0 0) s m args below meth c LAY D r D' 7 148 [(0, .ref (z + 281)), (1, .int x1), (2, .int x2), (3, .int x3), (4, .int x4), (5, .int x5)] [] := by
  obtain ⟨hx, hb, -, hown, hts, -⟩ := id O
  unfold f_X12_wordNext_148 at h
  intro H locs ls hH hl
  refine lv_iload hx hb dX12_wordNext_148 (lv_at hl 5 rfl) ?_
  refine lv_if_eq (tgt := 155) hx hb dX12_wordNext_150 (by decide) (fun c1 => ?_) (fun c1 => ?_)
  · have h := it_pos h c1
    refine lv_iload_n hx hb dX12_wordNext_155 rfl (lv_at hl 3 rfl) ?_
    refine lv_iload hx hb dX12_wordNext_156 (lv_at hl 4 rfl) ?_
    refine lv_iconst (v := 1) hx hb dX12_wordNext_158 (by decide) ?_
    refine lv_iadd hx hb dX12_wordNext_159 ?_
    refine lv_iadd hx hb dX12_wordNext_160 ?_
    refine lv_topi (fun y2 e3 => ?_)
    have h := lt_at e3 h
    refine lv_istore_n (lv' := [(3, .int y2), (0, .ref (z + 281)), (1, .int x1), (2, .int x2), (4, .int x4), (5, .int x5)]) hx hb dX12_wordNext_161 rfl hl (by decide) rfl (fun ls hl => ?_)
    obtain ⟨y4, e5, h⟩ := lt_some h
    refine lv_iinc (v := y4) (lv' := [(2, .int y4), (3, .int y2), (0, .ref (z + 281)), (1, .int x1), (4, .int x4), (5, .int x5)]) hx hb dX12_wordNext_162 hl (k := 3) rfl (by rw [e5]; rfl) (by decide) rfl (fun ls hl => ?_)
    refine lv_goto (tgt := 46) hx hb dX12_wordNext_165 (by decide) ?_
    exact hk46 _ _ _ _ h _ _ _ hH (lv_sub hl [2, 3, 0, 1] rfl)
  · have h := it_neg h c1
    refine lv_iload_n hx hb dX12_wordNext_153 rfl (lv_at hl 2 rfl) ?_
    obtain ⟨rfl, rfl⟩ := ret_i h
    exact h_iret O hr hlk hH dX12_wordNext_154
set_option maxHeartbeats 4000000 in
theorem w_X12_wordNext_140 {G : va_G} {tA : Nat → ClassId} {z : Nat} {E : Ex} {p : Program} {l : Launch} {e : Env} {s : State} {m : MethodId} {args : Array Value} {below : List Frame} {meth : Method} {c : Code} {r : Int32} {D' : Dm} (O : Ok G tA z E cX12_wordNext RX12 7 p s m args c) (hr : meth.sig.returnType = some .int) (hlk : meth.locks = false) {k46 : Int32 → Int32 → Int32 → Dm → Option (Int32 × Dm)} (hk46 : ∀ (x1 : Int32) (x2 : Int32) (x3 : Int32) (D : Dm), k46 x1 x2 x3 D = some (r, D') → BI G tA z E p l e (rmC 5 0 0) s m args below meth c LAY D r D' 7 46 [(0, .ref (z + 281)), (1, .int x1), (2, .int x2), (3, .int x3)] []) {k99 : Int32 → Int32 → Int32 → Int32 → Int32 → Int32 → Dm → Option (Int32 × Dm)} (hk99 : ∀ (x1 : Int32) (x2 : Int32) (x3 : Int32) (x4 : Int32) (x5 : Int32) (x6 : Int32) (D : Dm), k99 x1 x2 x3 x4 x5 x6 D = some (r, D') → BI G tA z E p l e (rmC 5 0 0) s m args below meth c LAY D r D' 7 99 [(0, .ref (z + 281)), (1, .int x1), (2, .int x2), (3, .int x3), (4, .int x4), (5, .int x5), (6, .int x6)] []) (x1 : Int32) (x2 : Int32) (x3 : Int32) (x4 : Int32) (x6 : Int32) (xs0 : Int32) (D : Dm) (h : f_X12_wordNext_140 k46 k99 x1 x2 x3 x4 x6 xs0 D = some (r, D')) : BI G tA z E p l e (rmC 5 0 0) s m args below meth c LAY D r D' 7 140 [(0, .ref (z + 281)), (1, .int x1), (2, .int x2), (3, .int x3), (4, .int x4), (6, .int x6)] [.int xs0] := by
  obtain ⟨hx, hb, -, hown, hts, -⟩ := id O
  unfold f_X12_wordNext_140 at h
  intro H locs ls hH hl
  refine lv_istore (lv' := [(5, .int xs0), (0, .ref (z + 281)), (1, .int x1), (2, .int x2), (3, .int x3), (4, .int x4), (6, .int x6)]) hx hb dX12_wordNext_140 hl (by decide) rfl (fun ls hl => ?_)
  obtain ⟨y1, e2, h⟩ := lt_some h
  refine lv_iinc (v := y1) (lv' := [(6, .int y1), (5, .int xs0), (0, .ref (z + 281)), (1, .int x1), (2, .int x2), (3, .int x3), (4, .int x4)]) hx hb dX12_wordNext_142 hl (k := 6) rfl (by rw [e2]; rfl) (by decide) rfl (fun ls hl => ?_)
  refine lv_goto (tgt := 99) hx hb dX12_wordNext_145 (by decide) ?_
  exact hk99 _ _ _ _ _ _ _ h _ _ _ hH (lv_sub hl [2, 3, 4, 5, 6, 1, 0] rfl)
set_option maxHeartbeats 4000000 in
theorem w_X12_wordNext_99_b {G : va_G} {tA : Nat → ClassId} {z : Nat} {E : Ex} {p : Program} {l : Launch} {e : Env} {s : State} {m : MethodId} {args : Array Value} {below : List Frame} {meth : Method} {c : Code} {r : Int32} {D' : Dm} (O : Ok G tA z E cX12_wordNext RX12 7 p s m args c) (hr : meth.sig.returnType = some .int) (hlk : meth.locks = false) {k46 : Int32 → Int32 → Int32 → Dm → Option (Int32 × Dm)} (hk46 : ∀ (x1 : Int32) (x2 : Int32) (x3 : Int32) (D : Dm), k46 x1 x2 x3 D = some (r, D') → BI G tA z E p l e (rmC 5 0 0) s m args below meth c LAY D r D' 7 46 [(0, .ref (z + 281)), (1, .int x1), (2, .int x2), (3, .int x3)] []) {k99 : Int32 → Int32 → Int32 → Int32 → Int32 → Int32 → Dm → Option (Int32 × Dm)} (hk99 : ∀ (x1 : Int32) (x2 : Int32) (x3 : Int32) (x4 : Int32) (x5 : Int32) (x6 : Int32) (D : Dm), k99 x1 x2 x3 x4 x5 x6 D = some (r, D') → BI G tA z E p l e (rmC 5 0 0) s m args below meth c LAY D r D' 7 99 [(0, .ref (z + 281)), (1, .int x1), (2, .int x2), (3, .int x3), (4, .int x4), (5, .int x5), (6, .int x6)] []) (x1 : Int32) (x2 : Int32) (x3 : Int32) (x4 : Int32) (x5 : Int32) (x6 : Int32) (D : Dm) (h : f_X12_wordNext_99_b k46 k99 x1 x2 x3 x4 x5 x6 D = some (r, D')) : BI G tA z E p l e (rmC 5 0 0) s m args below meth c LAY D r D' 7 99 [(0, .ref (z + 281)), (1, .int x1), (2, .int x2), (3, .int x3), (4, .int x4), (5, .int x5), (6, .int x6)] [] := by
  obtain ⟨hx, hb, -, hown, hts, -⟩ := id O
  unfold f_X12_wordNext_99_b at h
  intro H locs ls hH hl
  refine lv_iload hx hb dX12_wordNext_99 (lv_at hl 6 rfl) ?_
  refine lv_iload hx hb dX12_wordNext_101 (lv_at hl 4 rfl) ?_
  refine lv_icmp_ge (tgt := 148) hx hb dX12_wordNext_103 (by decide) (fun c1 => ?_) (fun c1 => ?_)
  · have h := it_pos h c1
    exact w_X12_wordNext_148 O hr hlk hk46 _ _ _ _ _ _ h _ _ _ hH (lv_sub hl [0, 1, 2, 3, 4, 5] rfl)
  · have h := it_neg h c1
    refine lv_iload hx hb dX12_wordNext_106 (lv_at hl 5 rfl) ?_
    refine lv_if_eq (tgt := 148) hx hb dX12_wordNext_108 (by decide) (fun c2 => ?_) (fun c2 => ?_)
    · have h := it_pos h c2
      exact w_X12_wordNext_148 O hr hlk hk46 _ _ _ _ _ _ h _ _ _ hH (lv_sub hl [0, 1, 2, 3, 4, 5] rfl)
    · have h := it_neg h c2
      refine lv_aload_n hx hb dX12_wordNext_111 rfl (lv_at hl 0 rfl) ?_
      refine h_getr O hH ly_281 rfl fl_X12_20 dX12_wordNext_112 ?_
      refine lv_aload_n hx hb dX12_wordNext_115 rfl (lv_at hl 0 rfl) ?_
      refine h_geti O hH ly_281 rfl fl_X12_162 dX12_wordNext_116 ?_
      refine lv_iload hx hb dX12_wordNext_119 (lv_at hl 6 rfl) ?_
      refine lv_iadd hx hb dX12_wordNext_121 ?_
      obtain ⟨g3, h⟩ := gd_some h
      refine h_bald O hH ly_284 g3 dX12_wordNext_122 ?_
      refine h_ldcs (k := 13) O rfl dX12_wordNext_123 ?_
      refine lv_iload_n hx hb dX12_wordNext_125 rfl (lv_at hl 3 rfl) ?_
      refine lv_iload hx hb dX12_wordNext_126 (lv_at hl 6 rfl) ?_
      refine lv_iadd hx hb dX12_wordNext_128 ?_
      obtain ⟨g4, h⟩ := gd_some h
      refine h_schr (rest := [.int (D 284 (Int32.toNatClampNeg ((D 281 9) + x6)))]) O hH hl.1 (by decide) g4 mj_X12_193 ⟨Nat.le_of_ble_eq_true rfl, Nat.le_of_ble_eq_true rfl⟩ (Nat.le_of_ble_eq_true rfl) dX12_wordNext_129 (fun H locs hH => ?_)
      refine lv_icmp_ne (tgt := 139) hx hb dX12_wordNext_132 (by decide) (fun c5 => ?_) (fun c5 => ?_)
      · have h := it_neg h c5
        refine lv_iconst (v := 0) hx hb dX12_wordNext_139 (by decide) ?_
        exact w_X12_wordNext_140 O hr hlk hk46 hk99 _ _ _ _ _ _ _ h _ _ _ hH (lv_sub hl [0, 1, 2, 3, 4, 6] rfl)
      · have h := it_pos h c5
        refine lv_iconst (v := 1) hx hb dX12_wordNext_135 (by decide) ?_
        refine lv_goto (tgt := 140) hx hb dX12_wordNext_136 (by decide) ?_
        exact w_X12_wordNext_140 O hr hlk hk46 hk99 _ _ _ _ _ _ _ h _ _ _ hH (lv_sub hl [0, 1, 2, 3, 4, 6] rfl)
set_option maxHeartbeats 4000000 in
theorem w_X12_wordNext_99 {G : va_G} {tA : Nat → ClassId} {z : Nat} {E : Ex} {p : Program} {l : Launch} {e : Env} {s : State} {m : MethodId} {args : Array Value} {below : List Frame} {meth : Method} {c : Code} {r : Int32} {D' : Dm} (O : Ok G tA z E cX12_wordNext RX12 7 p s m args c) (hr : meth.sig.returnType = some .int) (hlk : meth.locks = false) {k46 : Int32 → Int32 → Int32 → Dm → Option (Int32 × Dm)} (hk46 : ∀ (x1 : Int32) (x2 : Int32) (x3 : Int32) (D : Dm), k46 x1 x2 x3 D = some (r, D') → BI G tA z E p l e (rmC 5 0 0) s m args below meth c LAY D r D' 7 46 [(0, .ref (z + 281)), (1, .int x1), (2, .int x2), (3, .int x3)] []) : ∀ (n : Nat) (x1 : Int32) (x2 : Int32) (x3 : Int32) (x4 : Int32) (x5 : Int32) (x6 : Int32) (D : Dm) (h : f_X12_wordNext_99 k46 n x1 x2 x3 x4 x5 x6 D = some (r, D')), BI G tA z E p l e (rmC 5 0 0) s m args below meth c LAY D r D' 7 99 [(0, .ref (z + 281)), (1, .int x1), (2, .int x2), (3, .int x3), (4, .int x4), (5, .int x5), (6, .int x6)] [] := by
  intro n
  induction n with
  | zero => intro x1 x2 x3 x4 x5 x6 D h; exact no_some h
  | succ n ih => intro x1 x2 x3 x4 x5 x6 D h; exact w_X12_wordNext_99_b O hr hlk hk46 (fun x1 x2 x3 x4 x5 x6 D h => ih x1 x2 x3 x4 x5 x6 D h) x1 x2 x3 x4 x5 x6 D h
set_option maxHeartbeats 4000000 in
theorem w_X12_wordNext_94 {G : va_G} {tA : Nat → ClassId} {z : Nat} {E : Ex} {p : Program} {l : Launch} {e : Env} {s : State} {m : MethodId} {args : Array Value} {below : List Frame} {meth : Method} {c : Code} {r : Int32} {D' : Dm} (O : Ok G tA z E cX12_wordNext RX12 7 p s m args c) (hr : meth.sig.returnType = some .int) (hlk : meth.locks = false) {k46 : Int32 → Int32 → Int32 → Dm → Option (Int32 × Dm)} (hk46 : ∀ (x1 : Int32) (x2 : Int32) (x3 : Int32) (D : Dm), k46 x1 x2 x3 D = some (r, D') → BI G tA z E p l e (rmC 5 0 0) s m args below meth c LAY D r D' 7 46 [(0, .ref (z + 281)), (1, .int x1), (2, .int x2), (3, .int x3)] []) (x1 : Int32) (x2 : Int32) (x3 : Int32) (x4 : Int32) (xs0 : Int32) (D : Dm) (h : f_X12_wordNext_94 k46 x1 x2 x3 x4 xs0 D = some (r, D')) : BI G tA z E p l e (rmC 5 0 0) s m args below meth c LAY D r D' 7 94 [(0, .ref (z + 281)), (1, .int x1), (2, .int x2), (3, .int x3), (4, .int x4)] [.int xs0] := by
  obtain ⟨hx, hb, -, hown, hts, -⟩ := id O
  unfold f_X12_wordNext_94 at h
  intro H locs ls hH hl
  refine lv_istore (lv' := [(5, .int xs0), (0, .ref (z + 281)), (1, .int x1), (2, .int x2), (3, .int x3), (4, .int x4)]) hx hb dX12_wordNext_94 hl (by decide) rfl (fun ls hl => ?_)
  refine lv_iconst (v := 0) hx hb dX12_wordNext_96 (by decide) ?_
  refine lv_istore (lv' := [(6, .int 0), (5, .int xs0), (0, .ref (z + 281)), (1, .int x1), (2, .int x2), (3, .int x3), (4, .int x4)]) hx hb dX12_wordNext_97 hl (by decide) rfl (fun ls hl => ?_)
  exact w_X12_wordNext_99 O hr hlk hk46 FU _ _ _ _ _ _ _ h _ _ _ hH (lv_sub hl [2, 3, 4, 5, 6, 1, 0] rfl)
set_option maxHeartbeats 4000000 in
theorem w_X12_wordNext_58_b {G : va_G} {tA : Nat → ClassId} {z : Nat} {E : Ex} {p : Program} {l : Launch} {e : Env} {s : State} {m : MethodId} {args : Array Value} {below : List Frame} {meth : Method} {c : Code} {r : Int32} {D' : Dm} (O : Ok G tA z E cX12_wordNext RX12 7 p s m args c) (hr : meth.sig.returnType = some .int) (hlk : meth.locks = false) {k46 : Int32 → Int32 → Int32 → Dm → Option (Int32 × Dm)} (hk46 : ∀ (x1 : Int32) (x2 : Int32) (x3 : Int32) (D : Dm), k46 x1 x2 x3 D = some (r, D') → BI G tA z E p l e (rmC 5 0 0) s m args below meth c LAY D r D' 7 46 [(0, .ref (z + 281)), (1, .int x1), (2, .int x2), (3, .int x3)] []) {k58 : Int32 → Int32 → Int32 → Int32 → Dm → Option (Int32 × Dm)} (hk58 : ∀ (x1 : Int32) (x2 : Int32) (x3 : Int32) (x4 : Int32) (D : Dm), k58 x1 x2 x3 x4 D = some (r, D') → BI G tA z E p l e (rmC 5 0 0) s m args below meth c LAY D r D' 7 58 [(0, .ref (z + 281)), (1, .int x1), (2, .int x2), (3, .int x3), (4, .int x4)] []) (x1 : Int32) (x2 : Int32) (x3 : Int32) (x4 : Int32) (D : Dm) (h : f_X12_wordNext_58_b k46 k58 x1 x2 x3 x4 D = some (r, D')) : BI G tA z E p l e (rmC 5 0 0) s m args below meth c LAY D r D' 7 58 [(0, .ref (z + 281)), (1, .int x1), (2, .int x2), (3, .int x3), (4, .int x4)] [] := by
  obtain ⟨hx, hb, -, hown, hts, -⟩ := id O
  unfold f_X12_wordNext_58_b at h
  intro H locs ls hH hl
  refine h_ldcs (k := 13) O rfl dX12_wordNext_58 ?_
  refine lv_iload_n hx hb dX12_wordNext_60 rfl (lv_at hl 3 rfl) ?_
  refine lv_iload hx hb dX12_wordNext_61 (lv_at hl 4 rfl) ?_
  refine lv_iadd hx hb dX12_wordNext_63 ?_
  obtain ⟨g1, h⟩ := gd_some h
  refine h_schr (rest := []) O hH hl.1 (by decide) g1 mj_X12_193 ⟨Nat.le_of_ble_eq_true rfl, Nat.le_of_ble_eq_true rfl⟩ (Nat.le_of_ble_eq_true rfl) dX12_wordNext_64 (fun H locs hH => ?_)
  refine lv_bipush (v := 32) hx hb dX12_wordNext_67 (by decide) ?_
  refine lv_icmp_eq (tgt := 78) hx hb dX12_wordNext_69 (by decide) (fun c2 => ?_) (fun c2 => ?_)
  · have h := it_pos h c2
    refine lv_iload hx hb dX12_wordNext_78 (lv_at hl 4 rfl) ?_
    refine lv_iload_n hx hb dX12_wordNext_80 rfl (lv_at hl 1 rfl) ?_
    refine lv_aload_n hx hb dX12_wordNext_81 rfl (lv_at hl 0 rfl) ?_
    refine h_geti O hH ly_281 rfl fl_X12_162 dX12_wordNext_82 ?_
    refine lv_isub hx hb dX12_wordNext_85 ?_
    refine lv_icmp_ne (tgt := 93) hx hb dX12_wordNext_86 (by decide) (fun c3 => ?_) (fun c3 => ?_)
    · have h := it_neg h c3
      refine lv_iconst (v := 0) hx hb dX12_wordNext_93 (by decide) ?_
      exact w_X12_wordNext_94 O hr hlk hk46 _ _ _ _ _ _ h _ _ _ hH (lv_sub hl [0, 1, 2, 3, 4] rfl)
    · have h := it_pos h c3
      refine lv_iconst (v := 1) hx hb dX12_wordNext_89 (by decide) ?_
      refine lv_goto (tgt := 94) hx hb dX12_wordNext_90 (by decide) ?_
      exact w_X12_wordNext_94 O hr hlk hk46 _ _ _ _ _ _ h _ _ _ hH (lv_sub hl [0, 1, 2, 3, 4] rfl)
  · have h := it_neg h c2
    obtain ⟨y4, e5, h⟩ := lt_some h
    refine lv_iinc (v := y4) (lv' := [(4, .int y4), (0, .ref (z + 281)), (1, .int x1), (2, .int x2), (3, .int x3)]) hx hb dX12_wordNext_72 hl (k := 4) rfl (by rw [e5]; rfl) (by decide) rfl (fun ls hl => ?_)
    refine lv_goto (tgt := 58) hx hb dX12_wordNext_75 (by decide) ?_
    exact hk58 _ _ _ _ _ h _ _ _ hH (lv_sub hl [1, 2, 3, 4, 0] rfl)
set_option maxHeartbeats 4000000 in
theorem w_X12_wordNext_58 {G : va_G} {tA : Nat → ClassId} {z : Nat} {E : Ex} {p : Program} {l : Launch} {e : Env} {s : State} {m : MethodId} {args : Array Value} {below : List Frame} {meth : Method} {c : Code} {r : Int32} {D' : Dm} (O : Ok G tA z E cX12_wordNext RX12 7 p s m args c) (hr : meth.sig.returnType = some .int) (hlk : meth.locks = false) {k46 : Int32 → Int32 → Int32 → Dm → Option (Int32 × Dm)} (hk46 : ∀ (x1 : Int32) (x2 : Int32) (x3 : Int32) (D : Dm), k46 x1 x2 x3 D = some (r, D') → BI G tA z E p l e (rmC 5 0 0) s m args below meth c LAY D r D' 7 46 [(0, .ref (z + 281)), (1, .int x1), (2, .int x2), (3, .int x3)] []) : ∀ (n : Nat) (x1 : Int32) (x2 : Int32) (x3 : Int32) (x4 : Int32) (D : Dm) (h : f_X12_wordNext_58 k46 n x1 x2 x3 x4 D = some (r, D')), BI G tA z E p l e (rmC 5 0 0) s m args below meth c LAY D r D' 7 58 [(0, .ref (z + 281)), (1, .int x1), (2, .int x2), (3, .int x3), (4, .int x4)] [] := by
  intro n
  induction n with
  | zero => intro x1 x2 x3 x4 D h; exact no_some h
  | succ n ih => intro x1 x2 x3 x4 D h; exact w_X12_wordNext_58_b O hr hlk hk46 (fun x1 x2 x3 x4 D h => ih x1 x2 x3 x4 D h) x1 x2 x3 x4 D h
set_option maxHeartbeats 4000000 in
theorem w_X12_wordNext_46_b {G : va_G} {tA : Nat → ClassId} {z : Nat} {E : Ex} {p : Program} {l : Launch} {e : Env} {s : State} {m : MethodId} {args : Array Value} {below : List Frame} {meth : Method} {c : Code} {r : Int32} {D' : Dm} (O : Ok G tA z E cX12_wordNext RX12 7 p s m args c) (hr : meth.sig.returnType = some .int) (hlk : meth.locks = false) {k46 : Int32 → Int32 → Int32 → Dm → Option (Int32 × Dm)} (hk46 : ∀ (x1 : Int32) (x2 : Int32) (x3 : Int32) (D : Dm), k46 x1 x2 x3 D = some (r, D') → BI G tA z E p l e (rmC 5 0 0) s m args below meth c LAY D r D' 7 46 [(0, .ref (z + 281)), (1, .int x1), (2, .int x2), (3, .int x3)] []) (x1 : Int32) (x2 : Int32) (x3 : Int32) (D : Dm) (h : f_X12_wordNext_46_b k46 x1 x2 x3 D = some (r, D')) : BI G tA z E p l e (rmC 5 0 0) s m args below meth c LAY D r D' 7 46 [(0, .ref (z + 281)), (1, .int x1), (2, .int x2), (3, .int x3)] [] := by
  obtain ⟨hx, hb, -, hown, hts, -⟩ := id O
  unfold f_X12_wordNext_46_b at h
  intro H locs ls hH hl
  refine lv_iload_n hx hb dX12_wordNext_46 rfl (lv_at hl 3 rfl) ?_
  refine h_ldcs (k := 13) O rfl dX12_wordNext_47 ?_
  refine h_slen (rest := [.int x3]) O hH hl.1 (by decide) mj_X12_188 ⟨Nat.le_of_ble_eq_true rfl, Nat.le_of_ble_eq_true rfl⟩ (Nat.le_of_ble_eq_true rfl) dX12_wordNext_49 (fun H locs hH => ?_)
  refine lv_icmp_ge (tgt := 168) hx hb dX12_wordNext_52 (by decide) (fun c1 => ?_) (fun c1 => ?_)
  · have h := it_pos h c1
    refine lv_iconst (v := (-1)) hx hb dX12_wordNext_168 (by decide) ?_
    obtain ⟨rfl, rfl⟩ := ret_i h
    exact h_iret O hr hlk hH dX12_wordNext_169
  · have h := it_neg h c1
    refine lv_iconst (v := 0) hx hb dX12_wordNext_55 (by decide) ?_
    refine lv_istore (lv' := [(4, .int 0), (0, .ref (z + 281)), (1, .int x1), (2, .int x2), (3, .int x3)]) hx hb dX12_wordNext_56 hl (by decide) rfl (fun ls hl => ?_)
    exact w_X12_wordNext_58 O hr hlk hk46 FU _ _ _ _ _ h _ _ _ hH (lv_sub hl [1, 2, 3, 4, 0] rfl)
set_option maxHeartbeats 4000000 in
theorem w_X12_wordNext_46 {G : va_G} {tA : Nat → ClassId} {z : Nat} {E : Ex} {p : Program} {l : Launch} {e : Env} {s : State} {m : MethodId} {args : Array Value} {below : List Frame} {meth : Method} {c : Code} {r : Int32} {D' : Dm} (O : Ok G tA z E cX12_wordNext RX12 7 p s m args c) (hr : meth.sig.returnType = some .int) (hlk : meth.locks = false) : ∀ (n : Nat) (x1 : Int32) (x2 : Int32) (x3 : Int32) (D : Dm) (h : f_X12_wordNext_46 n x1 x2 x3 D = some (r, D')), BI G tA z E p l e (rmC 5 0 0) s m args below meth c LAY D r D' 7 46 [(0, .ref (z + 281)), (1, .int x1), (2, .int x2), (3, .int x3)] [] := by
  intro n
  induction n with
  | zero => intro x1 x2 x3 D h; exact no_some h
  | succ n ih => intro x1 x2 x3 D h; exact w_X12_wordNext_46_b O hr hlk (fun x1 x2 x3 D h => ih x1 x2 x3 D h) x1 x2 x3 D h
set_option maxHeartbeats 4000000 in
theorem w_X12_wordNext_42 {G : va_G} {tA : Nat → ClassId} {z : Nat} {E : Ex} {p : Program} {l : Launch} {e : Env} {s : State} {m : MethodId} {args : Array Value} {below : List Frame} {meth : Method} {c : Code} {r : Int32} {D' : Dm} (O : Ok G tA z E cX12_wordNext RX12 7 p s m args c) (hr : meth.sig.returnType = some .int) (hlk : meth.locks = false) (x1 : Int32) (D : Dm) (h : f_X12_wordNext_42 x1 D = some (r, D')) : BI G tA z E p l e (rmC 5 0 0) s m args below meth c LAY D r D' 7 42 [(0, .ref (z + 281)), (1, .int x1)] [] := by
  obtain ⟨hx, hb, -, hown, hts, -⟩ := id O
  unfold f_X12_wordNext_42 at h
  intro H locs ls hH hl
  refine lv_iconst (v := 0) hx hb dX12_wordNext_42 (by decide) ?_
  refine lv_istore_n (lv' := [(2, .int 0), (0, .ref (z + 281)), (1, .int x1)]) hx hb dX12_wordNext_43 rfl hl (by decide) rfl (fun ls hl => ?_)
  refine lv_iconst (v := 0) hx hb dX12_wordNext_44 (by decide) ?_
  refine lv_istore_n (lv' := [(3, .int 0), (2, .int 0), (0, .ref (z + 281)), (1, .int x1)]) hx hb dX12_wordNext_45 rfl hl (by decide) rfl (fun ls hl => ?_)
  exact w_X12_wordNext_46 O hr hlk FU _ _ _ _ h _ _ _ hH (lv_sub hl [2, 3, 1, 0] rfl)
set_option maxHeartbeats 4000000 in
theorem w_X12_wordNext_9_b {G : va_G} {tA : Nat → ClassId} {z : Nat} {E : Ex} {p : Program} {l : Launch} {e : Env} {s : State} {m : MethodId} {args : Array Value} {below : List Frame} {meth : Method} {c : Code} {r : Int32} {D' : Dm} (O : Ok G tA z E cX12_wordNext RX12 7 p s m args c) (hr : meth.sig.returnType = some .int) (hlk : meth.locks = false) {k9 : Int32 → Dm → Option (Int32 × Dm)} (hk9 : ∀ (x1 : Int32) (D : Dm), k9 x1 D = some (r, D') → BI G tA z E p l e (rmC 5 0 0) s m args below meth c LAY D r D' 7 9 [(0, .ref (z + 281)), (1, .int x1)] []) (x1 : Int32) (D : Dm) (h : f_X12_wordNext_9_b k9 x1 D = some (r, D')) : BI G tA z E p l e (rmC 5 0 0) s m args below meth c LAY D r D' 7 9 [(0, .ref (z + 281)), (1, .int x1)] [] := by
  obtain ⟨hx, hb, -, hown, hts, -⟩ := id O
  unfold f_X12_wordNext_9_b at h
  intro H locs ls hH hl
  refine lv_iload_n hx hb dX12_wordNext_9 rfl (lv_at hl 1 rfl) ?_
  refine lv_aload_n hx hb dX12_wordNext_10 rfl (lv_at hl 0 rfl) ?_
  refine h_geti O hH ly_281 rfl fl_X12_165 dX12_wordNext_11 ?_
  refine lv_icmp_ge (tgt := 42) hx hb dX12_wordNext_14 (by decide) (fun c1 => ?_) (fun c1 => ?_)
  · have h := it_pos h c1
    exact w_X12_wordNext_42 O hr hlk _ _ h _ _ _ hH (lv_sub hl [0, 1] rfl)
  · have h := it_neg h c1
    refine lv_aload_n hx hb dX12_wordNext_17 rfl (lv_at hl 0 rfl) ?_
    refine h_getr O hH ly_281 rfl fl_X12_20 dX12_wordNext_18 ?_
    refine lv_iload_n hx hb dX12_wordNext_21 rfl (lv_at hl 1 rfl) ?_
    obtain ⟨g2, h⟩ := gd_some h
    refine h_bald O hH ly_284 g2 dX12_wordNext_22 ?_
    refine lv_i2l hx hb dX12_wordNext_23 rfl ?_
    refine lv_ldc2 (v := 97) hx hb hown (hts _ ww_1411) dX12_wordNext_24 ?_
    refine lv_ldc2 (v := 122) hx hb hown (hts _ ww_1412) dX12_wordNext_27 ?_
    obtain ⟨y5, D3, hc4, h⟩ := bI_some h
    refine h_callSi (As := [.long (Int32.toInt64 (D 284 (Int32.toNatClampNeg x1))), .long 97, .long 122]) (rest := []) O hH (c_X12_isIn hc4) ml_X12_182 rfl hl.1 rfl ⟨Nat.le_of_ble_eq_true rfl, Nat.le_of_ble_eq_true rfl⟩ (Nat.le_of_ble_eq_true rfl) dX12_wordNext_30 (fun H locs hH => ?_)
    refine lv_if_eq (tgt := 42) hx hb dX12_wordNext_33 (by decide) (fun c6 => ?_) (fun c6 => ?_)
    · have h := it_pos h c6
      exact w_X12_wordNext_42 O hr hlk _ _ h _ _ _ hH (lv_sub hl [0, 1] rfl)
    · have h := it_neg h c6
      obtain ⟨y7, e8, h⟩ := lt_some h
      refine lv_iinc (v := y7) (lv' := [(1, .int y7), (0, .ref (z + 281))]) hx hb dX12_wordNext_36 hl (k := 1) rfl (by rw [e8]; rfl) (by decide) rfl (fun ls hl => ?_)
      refine lv_goto (tgt := 9) hx hb dX12_wordNext_39 (by decide) ?_
      exact hk9 _ _ h _ _ _ hH (lv_sub hl [1, 0] rfl)
set_option maxHeartbeats 4000000 in
theorem w_X12_wordNext_9 {G : va_G} {tA : Nat → ClassId} {z : Nat} {E : Ex} {p : Program} {l : Launch} {e : Env} {s : State} {m : MethodId} {args : Array Value} {below : List Frame} {meth : Method} {c : Code} {r : Int32} {D' : Dm} (O : Ok G tA z E cX12_wordNext RX12 7 p s m args c) (hr : meth.sig.returnType = some .int) (hlk : meth.locks = false) : ∀ (n : Nat) (x1 : Int32) (D : Dm) (h : f_X12_wordNext_9 n x1 D = some (r, D')), BI G tA z E p l e (rmC 5 0 0) s m args below meth c LAY D r D' 7 9 [(0, .ref (z + 281)), (1, .int x1)] [] := by
  intro n
  induction n with
  | zero => intro x1 D h; exact no_some h
  | succ n ih => intro x1 D h; exact w_X12_wordNext_9_b O hr hlk (fun x1 D h => ih x1 D h) x1 D h
set_option maxHeartbeats 4000000 in
theorem w_X12_wordNext {G : va_G} {tA : Nat → ClassId} {z : Nat} {E : Ex} {p : Program} {l : Launch} {e : Env} {s : State} {m : MethodId} {args : Array Value} {below : List Frame} {meth : Method} {c : Code} {r : Int32} {D' : Dm} (O : Ok G tA z E cX12_wordNext RX12 7 p s m args c) (hr : meth.sig.returnType = some .int) (hlk : meth.locks = false)  (D : Dm) (h : f_X12_wordNext  D = some (r, D')) : BI G tA z E p l e (rmC 5 0 0) s m args below meth c LAY D r D' 7 0 [(0, .ref (z + 281))] [] := by
  obtain ⟨hx, hb, -, hown, hts, -⟩ := id O
  unfold f_X12_wordNext at h
  intro H locs ls hH hl
  refine lv_aload_n hx hb dX12_wordNext_0 rfl (lv_at hl 0 rfl) ?_
  obtain ⟨D1, hc2, h⟩ := bV_some h
  refine h_callVv (As := []) (rest := []) O hH (c_X12_blanks hc2) ml_X12_175 ly_281 rfl rfl hl.1 rfl ⟨Nat.le_of_ble_eq_true rfl, Nat.le_of_ble_eq_true rfl⟩ (Nat.le_of_ble_eq_true rfl) dX12_wordNext_1 (fun H locs hH => ?_)
  refine lv_aload_n hx hb dX12_wordNext_4 rfl (lv_at hl 0 rfl) ?_
  refine h_geti O hH ly_281 rfl fl_X12_162 dX12_wordNext_5 ?_
  refine lv_topi (fun y3 e4 => ?_)
  have h := lt_at e4 h
  refine lv_istore_n (lv' := [(1, .int y3), (0, .ref (z + 281))]) hx hb dX12_wordNext_8 rfl hl (by decide) rfl (fun ls hl => ?_)
  exact w_X12_wordNext_9 O hr hlk FU _ _ h _ _ _ hH (lv_sub hl [1, 0] rfl)
set_option maxHeartbeats 4000000 in
theorem c_X12_wordNext {l : Launch} {G : va_G} {tA : Nat → ClassId} {z : Nat} {E : Ex}  {D D' : Dm} {r : Int32} (h : f_X12_wordNext  D = some (r, D')) : CtI l yX12_wordNext cX12_wordNext 7 (some .int) G tA z E 5 0 0 [.ref (z + 281)] LAY D r LAY D' :=
  ct_BI (by decide +kernel) (Nat.le_of_ble_eq_true rfl) (fun _ _ _ _ _ _ _ _ O hr hlk => w_X12_wordNext O hr hlk  _ h)
set_option maxHeartbeats 4000000 in
theorem w_X12_takes_17_b {G : va_G} {tA : Nat → ClassId} {z : Nat} {E : Ex} {p : Program} {l : Launch} {e : Env} {s : State} {m : MethodId} {args : Array Value} {below : List Frame} {meth : Method} {c : Code} {r : Int32} {D' : Dm} (O : Ok G tA z E cX12_takes RX12 2 p s m args c) (hr : meth.sig.returnType = some .boolean) (hlk : meth.locks = false) {k17 : Dm → Option (Int32 × Dm)} (hk17 : ∀  (D : Dm), k17  D = some (r, D') → BI G tA z E p l e (rmC 6 0 0) s m args below meth c LAY D r D' 2 17 [(0, .ref (z + 281))] [])  (D : Dm) (h : f_X12_takes_17_b k17  D = some (r, D')) : BI G tA z E p l e (rmC 6 0 0) s m args below meth c LAY D r D' 2 17 [(0, .ref (z + 281))] [] := by
  obtain ⟨hx, hb, -, hown, hts, -⟩ := id O
  unfold f_X12_takes_17_b at h
  intro H locs ls hH hl
  refine lv_aload_n hx hb dX12_takes_17 rfl (lv_at hl 0 rfl) ?_
  refine h_geti O hH ly_281 rfl fl_X12_162 dX12_takes_18 ?_
  refine lv_aload_n hx hb dX12_takes_21 rfl (lv_at hl 0 rfl) ?_
  refine h_geti O hH ly_281 rfl fl_X12_165 dX12_takes_22 ?_
  refine lv_icmp_ge (tgt := 63) hx hb dX12_takes_25 (by decide) (fun c1 => ?_) (fun c1 => ?_)
  · have h := it_pos h c1
    refine lv_iconst (v := 1) hx hb dX12_takes_63 (by decide) ?_
    obtain ⟨rfl, rfl⟩ := ret_i h
    exact h_zret O hr hlk zb_1 hH dX12_takes_64
  · have h := it_neg h c1
    refine lv_aload_n hx hb dX12_takes_28 rfl (lv_at hl 0 rfl) ?_
    refine h_getr O hH ly_281 rfl fl_X12_20 dX12_takes_29 ?_
    refine lv_aload_n hx hb dX12_takes_32 rfl (lv_at hl 0 rfl) ?_
    refine h_geti O hH ly_281 rfl fl_X12_162 dX12_takes_33 ?_
    obtain ⟨g2, h⟩ := gd_some h
    refine h_bald O hH ly_284 g2 dX12_takes_36 ?_
    refine lv_i2l hx hb dX12_takes_37 rfl ?_
    refine lv_ldc2 (v := 97) hx hb hown (hts _ ww_1411) dX12_takes_38 ?_
    refine lv_ldc2 (v := 122) hx hb hown (hts _ ww_1412) dX12_takes_41 ?_
    obtain ⟨y5, D3, hc4, h⟩ := bI_some h
    refine h_callSi (As := [.long (Int32.toInt64 (D 284 (Int32.toNatClampNeg (D 281 9)))), .long 97, .long 122]) (rest := []) O hH (c_X12_isIn hc4) ml_X12_182 rfl hl.1 rfl ⟨Nat.le_of_ble_eq_true rfl, Nat.le_of_ble_eq_true rfl⟩ (Nat.le_of_ble_eq_true rfl) dX12_takes_44 (fun H locs hH => ?_)
    refine lv_if_eq (tgt := 63) hx hb dX12_takes_47 (by decide) (fun c6 => ?_) (fun c6 => ?_)
    · have h := it_pos h c6
      refine lv_iconst (v := 1) hx hb dX12_takes_63 (by decide) ?_
      obtain ⟨rfl, rfl⟩ := ret_i h
      exact h_zret O hr hlk zb_1 hH dX12_takes_64
    · have h := it_neg h c6
      refine lv_aload_n hx hb dX12_takes_50 rfl (lv_at hl 0 rfl) ?_
      refine lv_dup hx hb dX12_takes_51 rfl ?_
      refine h_geti O hH ly_281 rfl fl_X12_162 dX12_takes_52 ?_
      refine lv_iconst (v := 1) hx hb dX12_takes_55 (by decide) ?_
      refine lv_iadd hx hb dX12_takes_56 ?_
      obtain ⟨D7, e8, h⟩ := lt_some h
      refine h_puti O hH ly_281 rfl fl_X12_162 e8 dX12_takes_57 (fun H locs hH => ?_)
      refine lv_goto (tgt := 17) hx hb dX12_takes_60 (by decide) ?_
      exact hk17 _ h _ _ _ hH (lv_sub hl [0] rfl)
set_option maxHeartbeats 4000000 in
theorem w_X12_takes_17 {G : va_G} {tA : Nat → ClassId} {z : Nat} {E : Ex} {p : Program} {l : Launch} {e : Env} {s : State} {m : MethodId} {args : Array Value} {below : List Frame} {meth : Method} {c : Code} {r : Int32} {D' : Dm} (O : Ok G tA z E cX12_takes RX12 2 p s m args c) (hr : meth.sig.returnType = some .boolean) (hlk : meth.locks = false) : ∀ (n : Nat)  (D : Dm) (h : f_X12_takes_17 n  D = some (r, D')), BI G tA z E p l e (rmC 6 0 0) s m args below meth c LAY D r D' 2 17 [(0, .ref (z + 281))] [] := by
  intro n
  induction n with
  | zero => intro  D h; exact no_some h
  | succ n ih => intro  D h; exact w_X12_takes_17_b O hr hlk (fun  D h => ih  D h)  D h
set_option maxHeartbeats 4000000 in
theorem w_X12_takes {G : va_G} {tA : Nat → ClassId} {z : Nat} {E : Ex} {p : Program} {l : Launch} {e : Env} {s : State} {m : MethodId} {args : Array Value} {below : List Frame} {meth : Method} {c : Code} {r : Int32} {D' : Dm} (O : Ok G tA z E cX12_takes RX12 2 p s m args c) (hr : meth.sig.returnType = some .boolean) (hlk : meth.locks = false) (x1 : Int32) (D : Dm) (h : f_X12_takes x1 D = some (r, D')) : BI G tA z E p l e (rmC 6 0 0) s m args below meth c LAY D r D' 2 0 [(0, .ref (z + 281)), (1, .int x1)] [] := by
  obtain ⟨hx, hb, -, hown, hts, -⟩ := id O
  unfold f_X12_takes at h
  intro H locs ls hH hl
  refine lv_aload_n hx hb dX12_takes_0 rfl (lv_at hl 0 rfl) ?_
  refine h_geti O hH ly_281 rfl fl_X12_168 dX12_takes_1 ?_
  refine lv_if_ne (tgt := 15) hx hb dX12_takes_4 (by decide) (fun c1 => ?_) (fun c1 => ?_)
  · have h := it_neg h c1
    refine lv_iconst (v := 0) hx hb dX12_takes_15 (by decide) ?_
    obtain ⟨rfl, rfl⟩ := ret_i h
    exact h_zret O hr hlk zb_0 hH dX12_takes_16
  · have h := it_pos h c1
    refine lv_aload_n hx hb dX12_takes_7 rfl (lv_at hl 0 rfl) ?_
    obtain ⟨y4, D2, hc3, h⟩ := bI_some h
    refine h_callVi (As := []) (rest := []) O hH (c_X12_wordNext hc3) ml_X12_197 ly_281 rfl rfl hl.1 rfl ⟨Nat.le_of_ble_eq_true rfl, Nat.le_of_ble_eq_true rfl⟩ (Nat.le_of_ble_eq_true rfl) dX12_takes_8 (fun H locs hH => ?_)
    refine lv_iload_n hx hb dX12_takes_11 rfl (lv_at hl 1 rfl) ?_
    refine lv_icmp_eq (tgt := 17) hx hb dX12_takes_12 (by decide) (fun c5 => ?_) (fun c5 => ?_)
    · have h := it_pos h c5
      exact w_X12_takes_17 O hr hlk FU _ h _ _ _ hH (lv_sub hl [0] rfl)
    · have h := it_neg h c5
      refine lv_iconst (v := 0) hx hb dX12_takes_15 (by decide) ?_
      obtain ⟨rfl, rfl⟩ := ret_i h
      exact h_zret O hr hlk zb_0 hH dX12_takes_16
set_option maxHeartbeats 4000000 in
theorem c_X12_takes {l : Launch} {G : va_G} {tA : Nat → ClassId} {z : Nat} {E : Ex} {x1 : Int32} {D D' : Dm} {r : Int32} (h : f_X12_takes x1 D = some (r, D')) : CtI l yX12_takes cX12_takes 2 (some .boolean) G tA z E 6 0 0 [.ref (z + 281), .int x1] LAY D r LAY D' :=
  ct_BI (by decide +kernel) (Nat.le_of_ble_eq_true rfl) (fun _ _ _ _ _ _ _ _ O hr hlk => w_X12_takes O hr hlk _ _ h)
set_option maxHeartbeats 4000000 in
theorem w_X12_must {G : va_G} {tA : Nat → ClassId} {z : Nat} {E : Ex} {p : Program} {l : Launch} {e : Env} {s : State} {m : MethodId} {args : Array Value} {below : List Frame} {meth : Method} {c : Code} {D' : Dm} (O : Ok G tA z E cX12_must RX12 2 p s m args c) (hr : meth.sig.returnType = none) (hlk : meth.locks = false) (x1 : Int32) (D : Dm) (h : f_X12_must x1 D = some D') : BV G tA z E p l e (rmC 7 0 0) s m args below meth c LAY D D' 2 0 [(0, .ref (z + 281)), (1, .int x1)] [] := by
  obtain ⟨hx, hb, -, hown, hts, -⟩ := id O
  unfold f_X12_must at h
  intro H locs ls hH hl
  refine lv_aload_n hx hb dX12_must_0 rfl (lv_at hl 0 rfl) ?_
  refine h_geti O hH ly_281 rfl fl_X12_168 dX12_must_1 ?_
  refine lv_if_ne (tgt := 24) hx hb dX12_must_4 (by decide) (fun c1 => ?_) (fun c1 => ?_)
  · have h := it_neg h c1
    obtain rfl := ret_v h
    exact h_vret O hr hlk hH dX12_must_24
  · have h := it_pos h c1
    refine lv_aload_n hx hb dX12_must_7 rfl (lv_at hl 0 rfl) ?_
    refine lv_iload_n hx hb dX12_must_8 rfl (lv_at hl 1 rfl) ?_
    obtain ⟨y4, D2, hc3, h⟩ := bI_some h
    refine h_callVi (As := [.int x1]) (rest := []) O hH (c_X12_takes hc3) ml_X12_200 ly_281 rfl rfl hl.1 rfl ⟨Nat.le_of_ble_eq_true rfl, Nat.le_of_ble_eq_true rfl⟩ (Nat.le_of_ble_eq_true rfl) dX12_must_9 (fun H locs hH => ?_)
    refine lv_if_ne (tgt := 24) hx hb dX12_must_12 (by decide) (fun c5 => ?_) (fun c5 => ?_)
    · have h := it_neg h c5
      obtain rfl := ret_v h
      exact h_vret O hr hlk hH dX12_must_24
    · have h := it_pos h c5
      refine lv_aload_n hx hb dX12_must_15 rfl (lv_at hl 0 rfl) ?_
      refine lv_iconst (v := 1) hx hb dX12_must_16 (by decide) ?_
      refine lv_aload_n hx hb dX12_must_17 rfl (lv_at hl 0 rfl) ?_
      refine h_geti O hH ly_281 rfl fl_X12_162 dX12_must_18 ?_
      obtain ⟨D6, hc7, h⟩ := bV_some h
      refine h_callVv (As := [.int 1, .int (D2 281 9)]) (rest := []) O hH (c_X12_fails hc7) ml_X12_204 ly_281 rfl rfl hl.1 rfl ⟨Nat.le_of_ble_eq_true rfl, Nat.le_of_ble_eq_true rfl⟩ (Nat.le_of_ble_eq_true rfl) dX12_must_21 (fun H locs hH => ?_)
      obtain rfl := ret_v h
      exact h_vret O hr hlk hH dX12_must_24
set_option maxHeartbeats 4000000 in
theorem c_X12_must {l : Launch} {G : va_G} {tA : Nat → ClassId} {z : Nat} {E : Ex} {x1 : Int32} {D D' : Dm} (h : f_X12_must x1 D = some D') : CtV l yX12_must cX12_must 2 G tA z E 7 0 0 [.ref (z + 281), .int x1] LAY D LAY D' :=
  ct_BV (by decide +kernel) (Nat.le_of_ble_eq_true rfl) (fun _ _ _ _ _ _ _ _ O hr hlk => w_X12_must O hr hlk _ _ h)
set_option maxHeartbeats 4000000 in
theorem w_X12_number_115 {G : va_G} {tA : Nat → ClassId} {z : Nat} {E : Ex} {p : Program} {l : Launch} {e : Env} {s : State} {m : MethodId} {args : Array Value} {below : List Frame} {meth : Method} {c : Code} {r : Int32} {D' : Dm} (O : Ok G tA z E cX12_number RX12 5 p s m args c) (hr : meth.sig.returnType = some .int) (hlk : meth.locks = false) (x3 : Int32) (x4 : Int32) (D : Dm) (h : f_X12_number_115 x3 x4 D = some (r, D')) : BI G tA z E p l e (rmC 3 0 0) s m args below meth c LAY D r D' 5 115 [(0, .ref (z + 281)), (3, .int x3), (4, .int x4)] [] := by
  obtain ⟨hx, hb, -, hown, hts, -⟩ := id O
  unfold f_X12_number_115 at h
  intro H locs ls hH hl
  refine lv_aload_n hx hb dX12_number_115 rfl (lv_at hl 0 rfl) ?_
  refine lv_iconst (v := 2) hx hb dX12_number_116 (by decide) ?_
  refine lv_iload_n hx hb dX12_number_117 rfl (lv_at hl 1 rfl) ?_
  obtain ⟨D1, hc2, h⟩ := bV_some h
  refine h_callVv (As := [.int 2, .int x3]) (rest := []) O hH (c_X12_fails hc2) ml_X12_204 ly_281 rfl rfl hl.1 rfl ⟨Nat.le_of_ble_eq_true rfl, Nat.le_of_ble_eq_true rfl⟩ (Nat.le_of_ble_eq_true rfl) dX12_number_118 (fun H locs hH => ?_)
  refine lv_iload hx hb dX12_number_121 (lv_at hl 2 rfl) ?_
  obtain ⟨rfl, rfl⟩ := ret_i h
  exact h_iret O hr hlk hH dX12_number_123
set_option maxHeartbeats 4000000 in
theorem w_X12_number_63 {G : va_G} {tA : Nat → ClassId} {z : Nat} {E : Ex} {p : Program} {l : Launch} {e : Env} {s : State} {m : MethodId} {args : Array Value} {below : List Frame} {meth : Method} {c : Code} {r : Int32} {D' : Dm} (O : Ok G tA z E cX12_number RX12 5 p s m args c) (hr : meth.sig.returnType = some .int) (hlk : meth.locks = false) {k21 : Int32 → Int32 → Int32 → Int32 → Dm → Option (Int32 × Dm)} (hk21 : ∀ (x1 : Int32) (x2 : Int32) (x3 : Int32) (x4 : Int32) (D : Dm), k21 x1 x2 x3 x4 D = some (r, D') → BI G tA z E p l e (rmC 3 0 0) s m args below meth c LAY D r D' 5 21 [(0, .ref (z + 281)), (1, .int x1), (2, .int x2), (3, .int x3), (4, .int x4)] []) (x1 : Int32) (x2 : Int32) (x3 : Int32) (x4 : Int32) (D : Dm) (h : f_X12_number_63 k21 x1 x2 x3 x4 D = some (r, D')) : BI G tA z E p l e (rmC 3 0 0) s m args below meth c LAY D r D' 5 63 [(0, .ref (z + 281)), (1, .int x1), (2, .int x2), (3, .int x3), (4, .int x4)] [] := by
  obtain ⟨hx, hb, -, hown, hts, -⟩ := id O
  unfold f_X12_number_63 at h
  intro H locs ls hH hl
  refine lv_aload_n hx hb dX12_number_63 rfl (lv_at hl 0 rfl) ?_
  refine lv_dup hx hb dX12_number_64 rfl ?_
  refine h_geti O hH ly_281 rfl fl_X12_162 dX12_number_65 ?_
  refine lv_iconst (v := 1) hx hb dX12_number_68 (by decide) ?_
  refine lv_iadd hx hb dX12_number_69 ?_
  obtain ⟨D1, e2, h⟩ := lt_some h
  refine h_puti O hH ly_281 rfl fl_X12_162 e2 dX12_number_70 (fun H locs hH => ?_)
  refine lv_goto (tgt := 21) hx hb dX12_number_73 (by decide) ?_
  exact hk21 _ _ _ _ _ h _ _ _ hH (lv_sub hl [0, 1, 2, 3, 4] rfl)
set_option maxHeartbeats 4000000 in
theorem w_X12_number_21_b {G : va_G} {tA : Nat → ClassId} {z : Nat} {E : Ex} {p : Program} {l : Launch} {e : Env} {s : State} {m : MethodId} {args : Array Value} {below : List Frame} {meth : Method} {c : Code} {r : Int32} {D' : Dm} (O : Ok G tA z E cX12_number RX12 5 p s m args c) (hr : meth.sig.returnType = some .int) (hlk : meth.locks = false) {k21 : Int32 → Int32 → Int32 → Int32 → Dm → Option (Int32 × Dm)} (hk21 : ∀ (x1 : Int32) (x2 : Int32) (x3 : Int32) (x4 : Int32) (D : Dm), k21 x1 x2 x3 x4 D = some (r, D') → BI G tA z E p l e (rmC 3 0 0) s m args below meth c LAY D r D' 5 21 [(0, .ref (z + 281)), (1, .int x1), (2, .int x2), (3, .int x3), (4, .int x4)] []) (x1 : Int32) (x2 : Int32) (x3 : Int32) (x4 : Int32) (D : Dm) (h : f_X12_number_21_b k21 x1 x2 x3 x4 D = some (r, D')) : BI G tA z E p l e (rmC 3 0 0) s m args below meth c LAY D r D' 5 21 [(0, .ref (z + 281)), (1, .int x1), (2, .int x2), (3, .int x3), (4, .int x4)] [] := by
  obtain ⟨hx, hb, -, hown, hts, -⟩ := id O
  unfold f_X12_number_21_b at h
  intro H locs ls hH hl
  refine lv_aload_n hx hb dX12_number_21 rfl (lv_at hl 0 rfl) ?_
  obtain ⟨y3, D1, hc2, h⟩ := bI_some h
  refine h_callVi (As := []) (rest := []) O hH (c_X12_peek hc2) ml_X12_171 ly_281 rfl rfl hl.1 rfl ⟨Nat.le_of_ble_eq_true rfl, Nat.le_of_ble_eq_true rfl⟩ (Nat.le_of_ble_eq_true rfl) dX12_number_22 (fun H locs hH => ?_)
  refine lv_i2l hx hb dX12_number_25 rfl ?_
  refine lv_ldc2 (v := 48) hx hb hown (hts _ ww_1424) dX12_number_26 ?_
  refine lv_ldc2 (v := 57) hx hb hown (hts _ ww_1425) dX12_number_29 ?_
  obtain ⟨y6, D4, hc5, h⟩ := bI_some h
  refine h_callSi (As := [.long (Int32.toInt64 y3), .long 48, .long 57]) (rest := []) O hH (c_X12_isIn hc5) ml_X12_182 rfl hl.1 rfl ⟨Nat.le_of_ble_eq_true rfl, Nat.le_of_ble_eq_true rfl⟩ (Nat.le_of_ble_eq_true rfl) dX12_number_32 (fun H locs hH => ?_)
  refine lv_if_eq (tgt := 76) hx hb dX12_number_35 (by decide) (fun c7 => ?_) (fun c7 => ?_)
  · have h := it_pos h c7
    refine lv_aload_n hx hb dX12_number_76 rfl (lv_at hl 0 rfl) ?_
    refine h_geti O hH ly_281 rfl fl_X12_162 dX12_number_77 ?_
    refine lv_iload_n hx hb dX12_number_80 rfl (lv_at hl 3 rfl) ?_
    refine lv_icmp_ne (tgt := 93) hx hb dX12_number_81 (by decide) (fun c8 => ?_) (fun c8 => ?_)
    · have h := it_neg h c8
      refine lv_aload_n hx hb dX12_number_93 rfl (lv_at hl 0 rfl) ?_
      refine h_geti O hH ly_281 rfl fl_X12_162 dX12_number_94 ?_
      refine lv_iload_n hx hb dX12_number_97 rfl (lv_at hl 3 rfl) ?_
      refine lv_isub hx hb dX12_number_98 ?_
      refine lv_iconst (v := 2) hx hb dX12_number_99 (by decide) ?_
      refine lv_icmp_gt (tgt := 115) hx hb dX12_number_100 (by decide) (fun c9 => ?_) (fun c9 => ?_)
      · have h := it_pos h c9
        exact w_X12_number_115 O hr hlk _ _ _ h _ _ _ hH (lv_sub hl [0, 3, 4] rfl)
      · have h := it_neg h c9
        refine lv_iload hx hb dX12_number_103 (lv_at hl 4 rfl) ?_
        refine lv_iload_n hx hb dX12_number_105 rfl (lv_at hl 1 rfl) ?_
        refine lv_icmp_lt (tgt := 115) hx hb dX12_number_106 (by decide) (fun c10 => ?_) (fun c10 => ?_)
        · have h := it_pos h c10
          exact w_X12_number_115 O hr hlk _ _ _ h _ _ _ hH (lv_sub hl [0, 3, 4] rfl)
        · have h := it_neg h c10
          refine lv_iload hx hb dX12_number_109 (lv_at hl 4 rfl) ?_
          refine lv_iload_n hx hb dX12_number_111 rfl (lv_at hl 2 rfl) ?_
          refine lv_icmp_le (tgt := 121) hx hb dX12_number_112 (by decide) (fun c11 => ?_) (fun c11 => ?_)
          · have h := it_pos h c11
            refine lv_iload hx hb dX12_number_121 (lv_at hl 4 rfl) ?_
            obtain ⟨rfl, rfl⟩ := ret_i h
            exact h_iret O hr hlk hH dX12_number_123
          · have h := it_neg h c11
            exact w_X12_number_115 O hr hlk _ _ _ h _ _ _ hH (lv_sub hl [0, 3, 4] rfl)
    · have h := it_pos h c8
      refine lv_aload_n hx hb dX12_number_84 rfl (lv_at hl 0 rfl) ?_
      refine lv_iconst (v := 1) hx hb dX12_number_85 (by decide) ?_
      refine lv_iload_n hx hb dX12_number_86 rfl (lv_at hl 3 rfl) ?_
      obtain ⟨D12, hc13, h⟩ := bV_some h
      refine h_callVv (As := [.int 1, .int x3]) (rest := []) O hH (c_X12_fails hc13) ml_X12_204 ly_281 rfl rfl hl.1 rfl ⟨Nat.le_of_ble_eq_true rfl, Nat.le_of_ble_eq_true rfl⟩ (Nat.le_of_ble_eq_true rfl) dX12_number_87 (fun H locs hH => ?_)
      refine lv_goto (tgt := 121) hx hb dX12_number_90 (by decide) ?_
      refine lv_iload hx hb dX12_number_121 (lv_at hl 4 rfl) ?_
      obtain ⟨rfl, rfl⟩ := ret_i h
      exact h_iret O hr hlk hH dX12_number_123
  · have h := it_neg h c7
    refine lv_aload_n hx hb dX12_number_38 rfl (lv_at hl 0 rfl) ?_
    refine h_geti O hH ly_281 rfl fl_X12_162 dX12_number_39 ?_
    refine lv_iload_n hx hb dX12_number_42 rfl (lv_at hl 3 rfl) ?_
    refine lv_isub hx hb dX12_number_43 ?_
    refine lv_iconst (v := 2) hx hb dX12_number_44 (by decide) ?_
    refine lv_icmp_ge (tgt := 63) hx hb dX12_number_45 (by decide) (fun c14 => ?_) (fun c14 => ?_)
    · have h := it_pos h c14
      exact w_X12_number_63 O hr hlk hk21 _ _ _ _ _ h _ _ _ hH (lv_sub hl [0, 1, 2, 3, 4] rfl)
    · have h := it_neg h c14
      refine lv_bipush (v := 10) hx hb dX12_number_48 (by decide) ?_
      refine lv_iload hx hb dX12_number_50 (lv_at hl 4 rfl) ?_
      refine lv_imul hx hb dX12_number_52 ?_
      refine lv_aload_n hx hb dX12_number_53 rfl (lv_at hl 0 rfl) ?_
      obtain ⟨y17, D15, hc16, h⟩ := bI_some h
      refine h_callVi (As := []) (rest := [.int (10 * x4)]) O hH (c_X12_peek hc16) ml_X12_171 ly_281 rfl rfl hl.1 rfl ⟨Nat.le_of_ble_eq_true rfl, Nat.le_of_ble_eq_true rfl⟩ (Nat.le_of_ble_eq_true rfl) dX12_number_54 (fun H locs hH => ?_)
      refine lv_iadd hx hb dX12_number_57 ?_
      refine lv_bipush (v := 48) hx hb dX12_number_58 (by decide) ?_
      refine lv_isub hx hb dX12_number_60 ?_
      refine lv_topi (fun y18 e19 => ?_)
      have h := lt_at e19 h
      refine lv_istore (lv' := [(4, .int y18), (0, .ref (z + 281)), (1, .int x1), (2, .int x2), (3, .int x3)]) hx hb dX12_number_61 hl (by decide) rfl (fun ls hl => ?_)
      exact w_X12_number_63 O hr hlk hk21 _ _ _ _ _ h _ _ _ hH (lv_sub hl [1, 2, 3, 4, 0] rfl)
set_option maxHeartbeats 4000000 in
theorem w_X12_number_21 {G : va_G} {tA : Nat → ClassId} {z : Nat} {E : Ex} {p : Program} {l : Launch} {e : Env} {s : State} {m : MethodId} {args : Array Value} {below : List Frame} {meth : Method} {c : Code} {r : Int32} {D' : Dm} (O : Ok G tA z E cX12_number RX12 5 p s m args c) (hr : meth.sig.returnType = some .int) (hlk : meth.locks = false) : ∀ (n : Nat) (x1 : Int32) (x2 : Int32) (x3 : Int32) (x4 : Int32) (D : Dm) (h : f_X12_number_21 n x1 x2 x3 x4 D = some (r, D')), BI G tA z E p l e (rmC 3 0 0) s m args below meth c LAY D r D' 5 21 [(0, .ref (z + 281)), (1, .int x1), (2, .int x2), (3, .int x3), (4, .int x4)] [] := by
  intro n
  induction n with
  | zero => intro x1 x2 x3 x4 D h; exact no_some h
  | succ n ih => intro x1 x2 x3 x4 D h; exact w_X12_number_21_b O hr hlk (fun x1 x2 x3 x4 D h => ih x1 x2 x3 x4 D h) x1 x2 x3 x4 D h
set_option maxHeartbeats 4000000 in
theorem w_X12_number {G : va_G} {tA : Nat → ClassId} {z : Nat} {E : Ex} {p : Program} {l : Launch} {e : Env} {s : State} {m : MethodId} {args : Array Value} {below : List Frame} {meth : Method} {c : Code} {r : Int32} {D' : Dm} (O : Ok G tA z E cX12_number RX12 5 p s m args c) (hr : meth.sig.returnType = some .int) (hlk : meth.locks = false) (x1 : Int32) (x2 : Int32) (D : Dm) (h : f_X12_number x1 x2 D = some (r, D')) : BI G tA z E p l e (rmC 3 0 0) s m args below meth c LAY D r D' 5 0 [(0, .ref (z + 281)), (1, .int x1), (2, .int x2)] [] := by
  obtain ⟨hx, hb, -, hown, hts, -⟩ := id O
  unfold f_X12_number at h
  intro H locs ls hH hl
  refine lv_aload_n hx hb dX12_number_0 rfl (lv_at hl 0 rfl) ?_
  refine h_geti O hH ly_281 rfl fl_X12_168 dX12_number_1 ?_
  refine lv_if_eq (tgt := 9) hx hb dX12_number_4 (by decide) (fun c1 => ?_) (fun c1 => ?_)
  · have h := it_pos h c1
    refine lv_aload_n hx hb dX12_number_9 rfl (lv_at hl 0 rfl) ?_
    obtain ⟨D2, hc3, h⟩ := bV_some h
    refine h_callVv (As := []) (rest := []) O hH (c_X12_blanks hc3) ml_X12_175 ly_281 rfl rfl hl.1 rfl ⟨Nat.le_of_ble_eq_true rfl, Nat.le_of_ble_eq_true rfl⟩ (Nat.le_of_ble_eq_true rfl) dX12_number_10 (fun H locs hH => ?_)
    refine lv_aload_n hx hb dX12_number_13 rfl (lv_at hl 0 rfl) ?_
    refine h_geti O hH ly_281 rfl fl_X12_162 dX12_number_14 ?_
    refine lv_topi (fun y4 e5 => ?_)
    have h := lt_at e5 h
    refine lv_istore_n (lv' := [(3, .int y4), (0, .ref (z + 281)), (1, .int x1), (2, .int x2)]) hx hb dX12_number_17 rfl hl (by decide) rfl (fun ls hl => ?_)
    refine lv_iconst (v := 0) hx hb dX12_number_18 (by decide) ?_
    refine lv_istore (lv' := [(4, .int 0), (3, .int y4), (0, .ref (z + 281)), (1, .int x1), (2, .int x2)]) hx hb dX12_number_19 hl (by decide) rfl (fun ls hl => ?_)
    exact w_X12_number_21 O hr hlk FU _ _ _ _ _ h _ _ _ hH (lv_sub hl [2, 3, 4, 1, 0] rfl)
  · have h := it_neg h c1
    refine lv_iload_n hx hb dX12_number_7 rfl (lv_at hl 1 rfl) ?_
    obtain ⟨rfl, rfl⟩ := ret_i h
    exact h_iret O hr hlk hH dX12_number_8
set_option maxHeartbeats 4000000 in
theorem c_X12_number {l : Launch} {G : va_G} {tA : Nat → ClassId} {z : Nat} {E : Ex} {x1 : Int32} {x2 : Int32} {D D' : Dm} {r : Int32} (h : f_X12_number x1 x2 D = some (r, D')) : CtI l yX12_number cX12_number 5 (some .int) G tA z E 3 0 0 [.ref (z + 281), .int x1, .int x2] LAY D r LAY D' :=
  ct_BI (by decide +kernel) (Nat.le_of_ble_eq_true rfl) (fun _ _ _ _ _ _ _ _ O hr hlk => w_X12_number O hr hlk _ _ _ h)
set_option maxHeartbeats 4000000 in
theorem w_X12_symbol_27 {G : va_G} {tA : Nat → ClassId} {z : Nat} {E : Ex} {p : Program} {l : Launch} {e : Env} {s : State} {m : MethodId} {args : Array Value} {below : List Frame} {meth : Method} {c : Code} {r : Int32} {D' : Dm} (O : Ok G tA z E cX12_symbol RX12 2 p s m args c) (hr : meth.sig.returnType = some .int) (hlk : meth.locks = false)  (D : Dm) (h : f_X12_symbol_27  D = some (r, D')) : BI G tA z E p l e (rmC 7 0 0) s m args below meth c LAY D r D' 2 27 [(0, .ref (z + 281))] [] := by
  obtain ⟨hx, hb, -, hown, hts, -⟩ := id O
  unfold f_X12_symbol_27 at h
  intro H locs ls hH hl
  refine lv_aload_n hx hb dX12_symbol_27 rfl (lv_at hl 0 rfl) ?_
  obtain ⟨D1, hc2, h⟩ := bV_some h
  refine h_callVv (As := []) (rest := []) O hH (c_X12_blanks hc2) ml_X12_175 ly_281 rfl rfl hl.1 rfl ⟨Nat.le_of_ble_eq_true rfl, Nat.le_of_ble_eq_true rfl⟩ (Nat.le_of_ble_eq_true rfl) dX12_symbol_28 (fun H locs hH => ?_)
  refine lv_aload_n hx hb dX12_symbol_31 rfl (lv_at hl 0 rfl) ?_
  refine lv_iconst (v := 1) hx hb dX12_symbol_32 (by decide) ?_
  refine lv_aload_n hx hb dX12_symbol_33 rfl (lv_at hl 0 rfl) ?_
  refine h_geti O hH ly_281 rfl fl_X12_162 dX12_symbol_34 ?_
  obtain ⟨D3, hc4, h⟩ := bV_some h
  refine h_callVv (As := [.int 1, .int (D1 281 9)]) (rest := []) O hH (c_X12_fails hc4) ml_X12_204 ly_281 rfl rfl hl.1 rfl ⟨Nat.le_of_ble_eq_true rfl, Nat.le_of_ble_eq_true rfl⟩ (Nat.le_of_ble_eq_true rfl) dX12_symbol_37 (fun H locs hH => ?_)
  refine lv_iconst (v := 0) hx hb dX12_symbol_40 (by decide) ?_
  obtain ⟨rfl, rfl⟩ := ret_i h
  exact h_iret O hr hlk hH dX12_symbol_41
set_option maxHeartbeats 4000000 in
theorem w_X12_symbol {G : va_G} {tA : Nat → ClassId} {z : Nat} {E : Ex} {p : Program} {l : Launch} {e : Env} {s : State} {m : MethodId} {args : Array Value} {below : List Frame} {meth : Method} {c : Code} {r : Int32} {D' : Dm} (O : Ok G tA z E cX12_symbol RX12 2 p s m args c) (hr : meth.sig.returnType = some .int) (hlk : meth.locks = false) (x1 : Int32) (D : Dm) (h : f_X12_symbol x1 D = some (r, D')) : BI G tA z E p l e (rmC 7 0 0) s m args below meth c LAY D r D' 2 0 [(0, .ref (z + 281)), (1, .int x1)] [] := by
  obtain ⟨hx, hb, -, hown, hts, -⟩ := id O
  unfold f_X12_symbol at h
  intro H locs ls hH hl
  refine lv_aload_n hx hb dX12_symbol_0 rfl (lv_at hl 0 rfl) ?_
  refine lv_bipush (v := 10) hx hb dX12_symbol_1 (by decide) ?_
  obtain ⟨y3, D1, hc2, h⟩ := bI_some h
  refine h_callVi (As := [.int 10]) (rest := []) O hH (c_X12_takes hc2) ml_X12_200 ly_281 rfl rfl hl.1 rfl ⟨Nat.le_of_ble_eq_true rfl, Nat.le_of_ble_eq_true rfl⟩ (Nat.le_of_ble_eq_true rfl) dX12_symbol_3 (fun H locs hH => ?_)
  refine lv_if_eq (tgt := 11) hx hb dX12_symbol_6 (by decide) (fun c4 => ?_) (fun c4 => ?_)
  · have h := it_pos h c4
    refine lv_iload_n hx hb dX12_symbol_11 rfl (lv_at hl 1 rfl) ?_
    refine lv_iconst (v := 1) hx hb dX12_symbol_12 (by decide) ?_
    refine lv_icmp_le (tgt := 27) hx hb dX12_symbol_13 (by decide) (fun c5 => ?_) (fun c5 => ?_)
    · have h := it_pos h c5
      exact w_X12_symbol_27 O hr hlk _ h _ _ _ hH (lv_sub hl [0] rfl)
    · have h := it_neg h c5
      refine lv_aload_n hx hb dX12_symbol_16 rfl (lv_at hl 0 rfl) ?_
      refine lv_bipush (v := 11) hx hb dX12_symbol_17 (by decide) ?_
      obtain ⟨y8, D6, hc7, h⟩ := bI_some h
      refine h_callVi (As := [.int 11]) (rest := []) O hH (c_X12_takes hc7) ml_X12_200 ly_281 rfl rfl hl.1 rfl ⟨Nat.le_of_ble_eq_true rfl, Nat.le_of_ble_eq_true rfl⟩ (Nat.le_of_ble_eq_true rfl) dX12_symbol_19 (fun H locs hH => ?_)
      refine lv_if_eq (tgt := 27) hx hb dX12_symbol_22 (by decide) (fun c9 => ?_) (fun c9 => ?_)
      · have h := it_pos h c9
        exact w_X12_symbol_27 O hr hlk _ h _ _ _ hH (lv_sub hl [0] rfl)
      · have h := it_neg h c9
        refine lv_iconst (v := 1) hx hb dX12_symbol_25 (by decide) ?_
        obtain ⟨rfl, rfl⟩ := ret_i h
        exact h_iret O hr hlk hH dX12_symbol_26
  · have h := it_neg h c4
    refine lv_iconst (v := 0) hx hb dX12_symbol_9 (by decide) ?_
    obtain ⟨rfl, rfl⟩ := ret_i h
    exact h_iret O hr hlk hH dX12_symbol_10
set_option maxHeartbeats 4000000 in
theorem c_X12_symbol {l : Launch} {G : va_G} {tA : Nat → ClassId} {z : Nat} {E : Ex} {x1 : Int32} {D D' : Dm} {r : Int32} (h : f_X12_symbol x1 D = some (r, D')) : CtI l yX12_symbol cX12_symbol 2 (some .int) G tA z E 7 0 0 [.ref (z + 281), .int x1] LAY D r LAY D' :=
  ct_BI (by decide +kernel) (Nat.le_of_ble_eq_true rfl) (fun _ _ _ _ _ _ _ _ O hr hlk => w_X12_symbol O hr hlk _ _ h)
set_option maxHeartbeats 4000000 in
theorem w_X12_ends_29 {G : va_G} {tA : Nat → ClassId} {z : Nat} {E : Ex} {p : Program} {l : Launch} {e : Env} {s : State} {m : MethodId} {args : Array Value} {below : List Frame} {meth : Method} {c : Code} {D' : Dm} (O : Ok G tA z E cX12_ends RX12 1 p s m args c) (hr : meth.sig.returnType = none) (hlk : meth.locks = false)  (D : Dm) (h : f_X12_ends_29  D = some D') : BV G tA z E p l e (rmC 3 0 0) s m args below meth c LAY D D' 1 29 [(0, .ref (z + 281))] [] := by
  obtain ⟨hx, hb, -, hown, hts, -⟩ := id O
  unfold f_X12_ends_29 at h
  intro H locs ls hH hl
  refine lv_aload_n hx hb dX12_ends_29 rfl (lv_at hl 0 rfl) ?_
  refine lv_dup hx hb dX12_ends_30 rfl ?_
  refine h_geti O hH ly_281 rfl fl_X12_162 dX12_ends_31 ?_
  refine lv_iconst (v := 1) hx hb dX12_ends_34 (by decide) ?_
  refine lv_iadd hx hb dX12_ends_35 ?_
  obtain ⟨D1, e2, h⟩ := lt_some h
  refine h_puti O hH ly_281 rfl fl_X12_162 e2 dX12_ends_36 (fun H locs hH => ?_)
  obtain rfl := ret_v h
  exact h_vret O hr hlk hH dX12_ends_39
set_option maxHeartbeats 4000000 in
theorem w_X12_ends {G : va_G} {tA : Nat → ClassId} {z : Nat} {E : Ex} {p : Program} {l : Launch} {e : Env} {s : State} {m : MethodId} {args : Array Value} {below : List Frame} {meth : Method} {c : Code} {D' : Dm} (O : Ok G tA z E cX12_ends RX12 1 p s m args c) (hr : meth.sig.returnType = none) (hlk : meth.locks = false)  (D : Dm) (h : f_X12_ends  D = some D') : BV G tA z E p l e (rmC 3 0 0) s m args below meth c LAY D D' 1 0 [(0, .ref (z + 281))] [] := by
  obtain ⟨hx, hb, -, hown, hts, -⟩ := id O
  unfold f_X12_ends at h
  intro H locs ls hH hl
  refine lv_aload_n hx hb dX12_ends_0 rfl (lv_at hl 0 rfl) ?_
  obtain ⟨D1, hc2, h⟩ := bV_some h
  refine h_callVv (As := []) (rest := []) O hH (c_X12_blanks hc2) ml_X12_175 ly_281 rfl rfl hl.1 rfl ⟨Nat.le_of_ble_eq_true rfl, Nat.le_of_ble_eq_true rfl⟩ (Nat.le_of_ble_eq_true rfl) dX12_ends_1 (fun H locs hH => ?_)
  refine lv_aload_n hx hb dX12_ends_4 rfl (lv_at hl 0 rfl) ?_
  refine h_geti O hH ly_281 rfl fl_X12_168 dX12_ends_5 ?_
  refine lv_if_ne (tgt := 29) hx hb dX12_ends_8 (by decide) (fun c3 => ?_) (fun c3 => ?_)
  · have h := it_neg h c3
    exact w_X12_ends_29 O hr hlk _ h _ _ _ hH (lv_sub hl [0] rfl)
  · have h := it_pos h c3
    refine lv_aload_n hx hb dX12_ends_11 rfl (lv_at hl 0 rfl) ?_
    obtain ⟨y6, D4, hc5, h⟩ := bI_some h
    refine h_callVi (As := []) (rest := []) O hH (c_X12_peek hc5) ml_X12_171 ly_281 rfl rfl hl.1 rfl ⟨Nat.le_of_ble_eq_true rfl, Nat.le_of_ble_eq_true rfl⟩ (Nat.le_of_ble_eq_true rfl) dX12_ends_12 (fun H locs hH => ?_)
    refine lv_bipush (v := 59) hx hb dX12_ends_15 (by decide) ?_
    refine lv_icmp_eq (tgt := 29) hx hb dX12_ends_17 (by decide) (fun c7 => ?_) (fun c7 => ?_)
    · have h := it_pos h c7
      exact w_X12_ends_29 O hr hlk _ h _ _ _ hH (lv_sub hl [0] rfl)
    · have h := it_neg h c7
      refine lv_aload_n hx hb dX12_ends_20 rfl (lv_at hl 0 rfl) ?_
      refine lv_iconst (v := 1) hx hb dX12_ends_21 (by decide) ?_
      refine lv_aload_n hx hb dX12_ends_22 rfl (lv_at hl 0 rfl) ?_
      refine h_geti O hH ly_281 rfl fl_X12_162 dX12_ends_23 ?_
      obtain ⟨D8, hc9, h⟩ := bV_some h
      refine h_callVv (As := [.int 1, .int (D4 281 9)]) (rest := []) O hH (c_X12_fails hc9) ml_X12_204 ly_281 rfl rfl hl.1 rfl ⟨Nat.le_of_ble_eq_true rfl, Nat.le_of_ble_eq_true rfl⟩ (Nat.le_of_ble_eq_true rfl) dX12_ends_26 (fun H locs hH => ?_)
      exact w_X12_ends_29 O hr hlk _ h _ _ _ hH (lv_sub hl [0] rfl)
set_option maxHeartbeats 4000000 in
theorem c_X12_ends {l : Launch} {G : va_G} {tA : Nat → ClassId} {z : Nat} {E : Ex}  {D D' : Dm} (h : f_X12_ends  D = some D') : CtV l yX12_ends cX12_ends 1 G tA z E 3 0 0 [.ref (z + 281)] LAY D LAY D' :=
  ct_BV (by decide +kernel) (Nat.le_of_ble_eq_true rfl) (fun _ _ _ _ _ _ _ _ O hr hlk => w_X12_ends O hr hlk  _ h)
set_option maxHeartbeats 4000000 in
theorem w_X12_manyLine_35 {G : va_G} {tA : Nat → ClassId} {z : Nat} {E : Ex} {p : Program} {l : Launch} {e : Env} {s : State} {m : MethodId} {args : Array Value} {below : List Frame} {meth : Method} {c : Code} {D' : Dm} (O : Ok G tA z E cX12_manyLine RX12 6 p s m args c) (hr : meth.sig.returnType = none) (hlk : meth.locks = false) (x4 : Int32) (D : Dm) (h : f_X12_manyLine_35 x4 D = some D') : BV G tA z E p l e (rmC 4 0 0) s m args below meth c LAY D D' 6 35 [(0, .ref (z + 281)), (4, .int x4)] [] := by
  obtain ⟨hx, hb, -, hown, hts, -⟩ := id O
  unfold f_X12_manyLine_35 at h
  intro H locs ls hH hl
  refine lv_aload_n hx hb dX12_manyLine_35 rfl (lv_at hl 0 rfl) ?_
  refine lv_iconst (v := 3) hx hb dX12_manyLine_36 (by decide) ?_
  refine lv_iload hx hb dX12_manyLine_37 (lv_at hl 1 rfl) ?_
  obtain ⟨D1, hc2, h⟩ := bV_some h
  refine h_callVv (As := [.int 3, .int x4]) (rest := []) O hH (c_X12_fails hc2) ml_X12_204 ly_281 rfl rfl hl.1 rfl ⟨Nat.le_of_ble_eq_true rfl, Nat.le_of_ble_eq_true rfl⟩ (Nat.le_of_ble_eq_true rfl) dX12_manyLine_39 (fun H locs hH => ?_)
  obtain rfl := ret_v h
  exact h_vret O hr hlk hH dX12_manyLine_42
set_option maxHeartbeats 4000000 in
theorem w_X12_manyLine {G : va_G} {tA : Nat → ClassId} {z : Nat} {E : Ex} {p : Program} {l : Launch} {e : Env} {s : State} {m : MethodId} {args : Array Value} {below : List Frame} {meth : Method} {c : Code} {D' : Dm} (O : Ok G tA z E cX12_manyLine RX12 6 p s m args c) (hr : meth.sig.returnType = none) (hlk : meth.locks = false) (x1 : Int32) (x2 : Int32) (x3 : Int32) (x4 : Int32) (D : Dm) (h : f_X12_manyLine x1 x2 x3 x4 D = some D') : BV G tA z E p l e (rmC 4 0 0) s m args below meth c LAY D D' 6 0 [(0, .ref (z + 281)), (1, .int x1), (2, .int x2), (3, .int x3), (4, .int x4)] [] := by
  obtain ⟨hx, hb, -, hown, hts, -⟩ := id O
  unfold f_X12_manyLine at h
  intro H locs ls hH hl
  refine lv_aload_n hx hb dX12_manyLine_0 rfl (lv_at hl 0 rfl) ?_
  refine lv_iload_n hx hb dX12_manyLine_1 rfl (lv_at hl 2 rfl) ?_
  refine lv_iload_n hx hb dX12_manyLine_2 rfl (lv_at hl 3 rfl) ?_
  obtain ⟨y3, D1, hc2, h⟩ := bI_some h
  refine h_callVi (As := [.int x2, .int x3]) (rest := []) O hH (c_X12_number hc2) ml_X12_212 ly_281 rfl rfl hl.1 rfl ⟨Nat.le_of_ble_eq_true rfl, Nat.le_of_ble_eq_true rfl⟩ (Nat.le_of_ble_eq_true rfl) dX12_manyLine_3 (fun H locs hH => ?_)
  refine lv_istore (lv' := [(5, .int y3), (0, .ref (z + 281)), (1, .int x1), (2, .int x2), (3, .int x3), (4, .int x4)]) hx hb dX12_manyLine_6 hl (by decide) rfl (fun ls hl => ?_)
  refine lv_aload_n hx hb dX12_manyLine_8 rfl (lv_at hl 1 rfl) ?_
  refine h_geti O hH ly_281 rfl fl_X12_168 dX12_manyLine_9 ?_
  refine lv_if_eq (tgt := 16) hx hb dX12_manyLine_12 (by decide) (fun c4 => ?_) (fun c4 => ?_)
  · have h := it_pos h c4
    refine lv_aload_n hx hb dX12_manyLine_16 rfl (lv_at hl 1 rfl) ?_
    refine h_geti O hH ly_281 rfl fl_X12_215 dX12_manyLine_17 ?_
    refine lv_if_ne (tgt := 35) hx hb dX12_manyLine_20 (by decide) (fun c5 => ?_) (fun c5 => ?_)
    · have h := it_neg h c5
      exact w_X12_manyLine_35 O hr hlk _ _ h _ _ _ hH (lv_sub hl [1, 5] rfl)
    · have h := it_pos h c5
      refine lv_aload_n hx hb dX12_manyLine_23 rfl (lv_at hl 1 rfl) ?_
      refine h_geti O hH ly_281 rfl fl_X12_219 dX12_manyLine_24 ?_
      refine lv_iload_n hx hb dX12_manyLine_27 rfl (lv_at hl 2 rfl) ?_
      refine lv_ishr hx hb dX12_manyLine_28 ?_
      refine lv_iconst (v := 1) hx hb dX12_manyLine_29 (by decide) ?_
      refine lv_iand hx hb dX12_manyLine_30 ?_
      refine lv_iconst (v := 1) hx hb dX12_manyLine_31 (by decide) ?_
      refine lv_icmp_ne (tgt := 43) hx hb dX12_manyLine_32 (by decide) (fun c6 => ?_) (fun c6 => ?_)
      · have h := it_neg h c6
        refine lv_aload_n hx hb dX12_manyLine_43 rfl (lv_at hl 1 rfl) ?_
        refine lv_dup hx hb dX12_manyLine_44 rfl ?_
        refine h_geti O hH ly_281 rfl fl_X12_219 dX12_manyLine_45 ?_
        refine lv_iconst (v := 1) hx hb dX12_manyLine_48 (by decide) ?_
        refine lv_iload_n hx hb dX12_manyLine_49 rfl (lv_at hl 2 rfl) ?_
        refine lv_ishl hx hb dX12_manyLine_50 ?_
        refine lv_ior hx hb dX12_manyLine_51 ?_
        obtain ⟨D7, e8, h⟩ := lt_some h
        refine h_puti O hH ly_281 rfl fl_X12_219 e8 dX12_manyLine_52 (fun H locs hH => ?_)
        refine lv_aload_n hx hb dX12_manyLine_55 rfl (lv_at hl 1 rfl) ?_
        refine h_getr O hH ly_281 rfl fl_X12_17 dX12_manyLine_56 ?_
        refine lv_iload_n hx hb dX12_manyLine_59 rfl (lv_at hl 2 rfl) ?_
        refine lv_iload hx hb dX12_manyLine_60 (lv_at hl 0 rfl) ?_
        obtain ⟨g9, h⟩ := gd_some h
        obtain ⟨D10, e11, h⟩ := lt_some h
        refine h_iast O hH ly_283 g9 e11 dX12_manyLine_62 (fun H locs hH => ?_)
        obtain rfl := ret_v h
        exact h_vret O hr hlk hH dX12_manyLine_63
      · have h := it_pos h c6
        exact w_X12_manyLine_35 O hr hlk _ _ h _ _ _ hH (lv_sub hl [1, 5] rfl)
  · have h := it_neg h c4
    obtain rfl := ret_v h
    exact h_vret O hr hlk hH dX12_manyLine_15
set_option maxHeartbeats 4000000 in
theorem c_X12_manyLine {l : Launch} {G : va_G} {tA : Nat → ClassId} {z : Nat} {E : Ex} {x1 : Int32} {x2 : Int32} {x3 : Int32} {x4 : Int32} {D D' : Dm} (h : f_X12_manyLine x1 x2 x3 x4 D = some D') : CtV l yX12_manyLine cX12_manyLine 6 G tA z E 4 0 0 [.ref (z + 281), .int x1, .int x2, .int x3, .int x4] LAY D LAY D' :=
  ct_BV (by decide +kernel) (Nat.le_of_ble_eq_true rfl) (fun _ _ _ _ _ _ _ _ O hr hlk => w_X12_manyLine O hr hlk _ _ _ _ _ h)
set_option maxHeartbeats 4000000 in
theorem w_X12_acceptLine_42 {G : va_G} {tA : Nat → ClassId} {z : Nat} {E : Ex} {p : Program} {l : Launch} {e : Env} {s : State} {m : MethodId} {args : Array Value} {below : List Frame} {meth : Method} {c : Code} {D' : Dm} (O : Ok G tA z E cX12_acceptLine RX12 3 p s m args c) (hr : meth.sig.returnType = none) (hlk : meth.locks = false) (x2 : Int32) (D : Dm) (h : f_X12_acceptLine_42 x2 D = some D') : BV G tA z E p l e (rmC 4 0 0) s m args below meth c LAY D D' 3 42 [(0, .ref (z + 281)), (2, .int x2)] [] := by
  obtain ⟨hx, hb, -, hown, hts, -⟩ := id O
  unfold f_X12_acceptLine_42 at h
  intro H locs ls hH hl
  refine lv_aload_n hx hb dX12_acceptLine_42 rfl (lv_at hl 0 rfl) ?_
  refine h_getr O hH ly_281 rfl fl_X12_17 dX12_acceptLine_43 ?_
  refine lv_iconst (v := 3) hx hb dX12_acceptLine_46 (by decide) ?_
  refine lv_dup2_11 hx hb dX12_acceptLine_47 rfl rfl ?_
  refine h_ialdk (k := 3) O hH ly_283 (by decide) (by decide) (by decide) dX12_acceptLine_48 ?_
  refine lv_iconst (v := 1) hx hb dX12_acceptLine_49 (by decide) ?_
  refine lv_iload_n hx hb dX12_acceptLine_50 rfl (lv_at hl 1 rfl) ?_
  refine lv_ishl hx hb dX12_acceptLine_51 ?_
  refine lv_ior hx hb dX12_acceptLine_52 ?_
  obtain ⟨D3, e4, h⟩ := lt_some h
  refine h_iastk (k := 3) O hH ly_283 (by decide) (by decide) (by decide) e4 dX12_acceptLine_53 (fun H locs hH => ?_)
  refine lv_aload_n hx hb dX12_acceptLine_54 rfl (lv_at hl 0 rfl) ?_
  refine lv_iconst (v := 1) hx hb dX12_acceptLine_55 (by decide) ?_
  obtain ⟨D5, e6, h⟩ := lt_some h
  refine h_putz O hH ly_281 rfl fl_X12_215 zb_1 e6 dX12_acceptLine_56 (fun H locs hH => ?_)
  obtain rfl := ret_v h
  exact h_vret O hr hlk hH dX12_acceptLine_59
set_option maxHeartbeats 4000000 in
theorem w_X12_acceptLine {G : va_G} {tA : Nat → ClassId} {z : Nat} {E : Ex} {p : Program} {l : Launch} {e : Env} {s : State} {m : MethodId} {args : Array Value} {below : List Frame} {meth : Method} {c : Code} {D' : Dm} (O : Ok G tA z E cX12_acceptLine RX12 3 p s m args c) (hr : meth.sig.returnType = none) (hlk : meth.locks = false) (x1 : Int32) (D : Dm) (h : f_X12_acceptLine x1 D = some D') : BV G tA z E p l e (rmC 4 0 0) s m args below meth c LAY D D' 3 0 [(0, .ref (z + 281)), (1, .int x1)] [] := by
  obtain ⟨hx, hb, -, hown, hts, -⟩ := id O
  unfold f_X12_acceptLine at h
  intro H locs ls hH hl
  refine lv_aload_n hx hb dX12_acceptLine_0 rfl (lv_at hl 0 rfl) ?_
  refine lv_iconst (v := 0) hx hb dX12_acceptLine_1 (by decide) ?_
  refine lv_aload_n hx hb dX12_acceptLine_2 rfl (lv_at hl 0 rfl) ?_
  refine h_getr O hH ly_281 rfl fl_X12_17 dX12_acceptLine_3 ?_
  refine lv_iconst (v := 0) hx hb dX12_acceptLine_6 (by decide) ?_
  refine h_ialdk (k := 0) O hH ly_283 (by decide) (by decide) (by decide) dX12_acceptLine_7 ?_
  refine lv_iconst (v := 1) hx hb dX12_acceptLine_8 (by decide) ?_
  refine lv_isub hx hb dX12_acceptLine_9 ?_
  obtain ⟨y4, D2, hc3, h⟩ := bI_some h
  refine h_callVi (As := [.int 0, .int ((D 283 0) - 1)]) (rest := []) O hH (c_X12_number hc3) ml_X12_212 ly_281 rfl rfl hl.1 rfl ⟨Nat.le_of_ble_eq_true rfl, Nat.le_of_ble_eq_true rfl⟩ (Nat.le_of_ble_eq_true rfl) dX12_acceptLine_10 (fun H locs hH => ?_)
  refine lv_istore_n (lv' := [(2, .int y4), (0, .ref (z + 281)), (1, .int x1)]) hx hb dX12_acceptLine_13 rfl hl (by decide) rfl (fun ls hl => ?_)
  refine lv_aload_n hx hb dX12_acceptLine_14 rfl (lv_at hl 1 rfl) ?_
  refine h_geti O hH ly_281 rfl fl_X12_168 dX12_acceptLine_15 ?_
  refine lv_if_eq (tgt := 22) hx hb dX12_acceptLine_18 (by decide) (fun c5 => ?_) (fun c5 => ?_)
  · have h := it_pos h c5
    refine lv_aload_n hx hb dX12_acceptLine_22 rfl (lv_at hl 1 rfl) ?_
    refine h_getr O hH ly_281 rfl fl_X12_17 dX12_acceptLine_23 ?_
    refine lv_iconst (v := 3) hx hb dX12_acceptLine_26 (by decide) ?_
    refine h_ialdk (k := 3) O hH ly_283 (by decide) (by decide) (by decide) dX12_acceptLine_27 ?_
    refine lv_iload_n hx hb dX12_acceptLine_28 rfl (lv_at hl 0 rfl) ?_
    refine lv_ishr hx hb dX12_acceptLine_29 ?_
    refine lv_iconst (v := 1) hx hb dX12_acceptLine_30 (by decide) ?_
    refine lv_iand hx hb dX12_acceptLine_31 ?_
    refine lv_iconst (v := 1) hx hb dX12_acceptLine_32 (by decide) ?_
    refine lv_icmp_ne (tgt := 42) hx hb dX12_acceptLine_33 (by decide) (fun c7 => ?_) (fun c7 => ?_)
    · have h := it_neg h c7
      exact w_X12_acceptLine_42 O hr hlk _ _ h _ _ _ hH (lv_sub hl [1, 0] rfl)
    · have h := it_pos h c7
      refine lv_aload_n hx hb dX12_acceptLine_36 rfl (lv_at hl 1 rfl) ?_
      refine lv_iconst (v := 3) hx hb dX12_acceptLine_37 (by decide) ?_
      refine lv_iload_n hx hb dX12_acceptLine_38 rfl (lv_at hl 2 rfl) ?_
      obtain ⟨D8, hc9, h⟩ := bV_some h
      refine h_callVv (As := [.int 3, .int x1]) (rest := []) O hH (c_X12_fails hc9) ml_X12_204 ly_281 rfl rfl hl.1 rfl ⟨Nat.le_of_ble_eq_true rfl, Nat.le_of_ble_eq_true rfl⟩ (Nat.le_of_ble_eq_true rfl) dX12_acceptLine_39 (fun H locs hH => ?_)
      exact w_X12_acceptLine_42 O hr hlk _ _ h _ _ _ hH (lv_sub hl [1, 0] rfl)
  · have h := it_neg h c5
    obtain rfl := ret_v h
    exact h_vret O hr hlk hH dX12_acceptLine_21
set_option maxHeartbeats 4000000 in
theorem c_X12_acceptLine {l : Launch} {G : va_G} {tA : Nat → ClassId} {z : Nat} {E : Ex} {x1 : Int32} {D D' : Dm} (h : f_X12_acceptLine x1 D = some D') : CtV l yX12_acceptLine cX12_acceptLine 3 G tA z E 4 0 0 [.ref (z + 281), .int x1] LAY D LAY D' :=
  ct_BV (by decide +kernel) (Nat.le_of_ble_eq_true rfl) (fun _ _ _ _ _ _ _ _ O hr hlk => w_X12_acceptLine O hr hlk _ _ h)
set_option maxHeartbeats 4000000 in
theorem w_X12_moveLine_182 {G : va_G} {tA : Nat → ClassId} {z : Nat} {E : Ex} {p : Program} {l : Launch} {e : Env} {s : State} {m : MethodId} {args : Array Value} {below : List Frame} {meth : Method} {c : Code} {D' : Dm} (O : Ok G tA z E cX12_moveLine RX12 9 p s m args c) (hr : meth.sig.returnType = none) (hlk : meth.locks = false) (x5 : Int32) (x6 : Int32) (x7 : Int32) (x8 : Int32) (D : Dm) (h : f_X12_moveLine_182 x5 x6 x7 x8 D = some D') : BV G tA z E p l e (rmC 8 0 0) s m args below meth c LAY D D' 9 182 [(0, .ref (z + 281)), (5, .int x5), (6, .int x6), (7, .int x7), (8, .int x8)] [] := by
  obtain ⟨hx, hb, -, hown, hts, -⟩ := id O
  unfold f_X12_moveLine_182 at h
  intro H locs ls hH hl
  refine lv_aload_n hx hb dX12_moveLine_182 rfl (lv_at hl 0 rfl) ?_
  refine h_getr O hH ly_281 rfl fl_X12_17 dX12_moveLine_183 ?_
  refine lv_iload hx hb dX12_moveLine_186 (lv_at hl 4 rfl) ?_
  refine lv_iload hx hb dX12_moveLine_188 (lv_at hl 1 rfl) ?_
  obtain ⟨g1, h⟩ := gd_some h
  obtain ⟨D2, e3, h⟩ := lt_some h
  refine h_iast O hH ly_283 g1 e3 dX12_moveLine_190 (fun H locs hH => ?_)
  refine lv_aload_n hx hb dX12_moveLine_191 rfl (lv_at hl 0 rfl) ?_
  refine h_getr O hH ly_281 rfl fl_X12_17 dX12_moveLine_192 ?_
  refine lv_iload hx hb dX12_moveLine_195 (lv_at hl 4 rfl) ?_
  refine lv_iconst (v := 1) hx hb dX12_moveLine_197 (by decide) ?_
  refine lv_iadd hx hb dX12_moveLine_198 ?_
  refine lv_iload hx hb dX12_moveLine_199 (lv_at hl 2 rfl) ?_
  obtain ⟨g4, h⟩ := gd_some h
  obtain ⟨D5, e6, h⟩ := lt_some h
  refine h_iast O hH ly_283 g4 e6 dX12_moveLine_201 (fun H locs hH => ?_)
  refine lv_aload_n hx hb dX12_moveLine_202 rfl (lv_at hl 0 rfl) ?_
  refine h_getr O hH ly_281 rfl fl_X12_17 dX12_moveLine_203 ?_
  refine lv_iload hx hb dX12_moveLine_206 (lv_at hl 4 rfl) ?_
  refine lv_iconst (v := 2) hx hb dX12_moveLine_208 (by decide) ?_
  refine lv_iadd hx hb dX12_moveLine_209 ?_
  refine lv_iload hx hb dX12_moveLine_210 (lv_at hl 3 rfl) ?_
  obtain ⟨g7, h⟩ := gd_some h
  obtain ⟨D8, e9, h⟩ := lt_some h
  refine h_iast O hH ly_283 g7 e9 dX12_moveLine_212 (fun H locs hH => ?_)
  refine lv_aload_n hx hb dX12_moveLine_213 rfl (lv_at hl 0 rfl) ?_
  refine lv_iconst (v := 1) hx hb dX12_moveLine_214 (by decide) ?_
  obtain ⟨D10, e11, h⟩ := lt_some h
  refine h_putz O hH ly_281 rfl fl_X12_215 zb_1 e11 dX12_moveLine_215 (fun H locs hH => ?_)
  obtain rfl := ret_v h
  exact h_vret O hr hlk hH dX12_moveLine_218
set_option maxHeartbeats 4000000 in
theorem w_X12_moveLine_146 {G : va_G} {tA : Nat → ClassId} {z : Nat} {E : Ex} {p : Program} {l : Launch} {e : Env} {s : State} {m : MethodId} {args : Array Value} {below : List Frame} {meth : Method} {c : Code} {D' : Dm} (O : Ok G tA z E cX12_moveLine RX12 9 p s m args c) (hr : meth.sig.returnType = none) (hlk : meth.locks = false) (x1 : Int32) (x2 : Int32) (x3 : Int32) (x4 : Int32) (x5 : Int32) (x6 : Int32) (xs0 : Int32) (D : Dm) (h : f_X12_moveLine_146 x1 x2 x3 x4 x5 x6 xs0 D = some D') : BV G tA z E p l e (rmC 8 0 0) s m args below meth c LAY D D' 9 146 [(0, .ref (z + 281)), (1, .int x1), (2, .int x2), (3, .int x3), (4, .int x4), (5, .int x5), (6, .int x6)] [.int xs0] := by
  obtain ⟨hx, hb, -, hown, hts, -⟩ := id O
  unfold f_X12_moveLine_146 at h
  intro H locs ls hH hl
  refine lv_istore (lv' := [(7, .int xs0), (0, .ref (z + 281)), (1, .int x1), (2, .int x2), (3, .int x3), (4, .int x4), (5, .int x5), (6, .int x6)]) hx hb dX12_moveLine_146 hl (by decide) rfl (fun ls hl => ?_)
  refine lv_aload_n hx hb dX12_moveLine_148 rfl (lv_at hl 1 rfl) ?_
  refine h_geti O hH ly_281 rfl fl_X12_168 dX12_moveLine_149 ?_
  refine lv_if_eq (tgt := 156) hx hb dX12_moveLine_152 (by decide) (fun c1 => ?_) (fun c1 => ?_)
  · have h := it_pos h c1
    refine lv_iload_n hx hb dX12_moveLine_156 rfl (lv_at hl 3 rfl) ?_
    refine lv_iload_n hx hb dX12_moveLine_157 rfl (lv_at hl 4 rfl) ?_
    refine lv_iload hx hb dX12_moveLine_158 (lv_at hl 5 rfl) ?_
    obtain ⟨y4, D2, hc3, h⟩ := bI_some h
    refine h_callSi (As := [.int x2, .int x3, .int x4]) (rest := []) O hH (c_X12_moveAt hc3) ml_X12_148 rfl hl.1 rfl ⟨Nat.le_of_ble_eq_true rfl, Nat.le_of_ble_eq_true rfl⟩ (Nat.le_of_ble_eq_true rfl) dX12_moveLine_160 (fun H locs hH => ?_)
    refine lv_istore (lv' := [(8, .int y4), (7, .int xs0), (0, .ref (z + 281)), (1, .int x1), (2, .int x2), (3, .int x3), (4, .int x4), (5, .int x5), (6, .int x6)]) hx hb dX12_moveLine_163 hl (by decide) rfl (fun ls hl => ?_)
    refine lv_aload_n hx hb dX12_moveLine_165 rfl (lv_at hl 2 rfl) ?_
    refine h_getr O hH ly_281 rfl fl_X12_17 dX12_moveLine_166 ?_
    refine lv_iload hx hb dX12_moveLine_169 (lv_at hl 0 rfl) ?_
    obtain ⟨g5, h⟩ := gd_some h
    refine h_iald O hH ly_283 g5 dX12_moveLine_171 ?_
    refine lv_iconst (v := (-1)) hx hb dX12_moveLine_172 (by decide) ?_
    refine lv_icmp_eq (tgt := 182) hx hb dX12_moveLine_173 (by decide) (fun c6 => ?_) (fun c6 => ?_)
    · have h := it_pos h c6
      exact w_X12_moveLine_182 O hr hlk _ _ _ _ _ h _ _ _ hH (lv_sub hl [2, 7, 8, 1, 0] rfl)
    · have h := it_neg h c6
      refine lv_aload_n hx hb dX12_moveLine_176 rfl (lv_at hl 2 rfl) ?_
      refine lv_iconst (v := 3) hx hb dX12_moveLine_177 (by decide) ?_
      refine lv_iload_n hx hb dX12_moveLine_178 rfl (lv_at hl 3 rfl) ?_
      obtain ⟨D7, hc8, h⟩ := bV_some h
      refine h_callVv (As := [.int 3, .int x1]) (rest := []) O hH (c_X12_fails hc8) ml_X12_204 ly_281 rfl rfl hl.1 rfl ⟨Nat.le_of_ble_eq_true rfl, Nat.le_of_ble_eq_true rfl⟩ (Nat.le_of_ble_eq_true rfl) dX12_moveLine_179 (fun H locs hH => ?_)
      exact w_X12_moveLine_182 O hr hlk _ _ _ _ _ h _ _ _ hH (lv_sub hl [2, 7, 8, 1, 0] rfl)
  · have h := it_neg h c1
    obtain rfl := ret_v h
    exact h_vret O hr hlk hH dX12_moveLine_155
set_option maxHeartbeats 4000000 in
theorem w_X12_moveLine_118 {G : va_G} {tA : Nat → ClassId} {z : Nat} {E : Ex} {p : Program} {l : Launch} {e : Env} {s : State} {m : MethodId} {args : Array Value} {below : List Frame} {meth : Method} {c : Code} {D' : Dm} (O : Ok G tA z E cX12_moveLine RX12 9 p s m args c) (hr : meth.sig.returnType = none) (hlk : meth.locks = false) (x1 : Int32) (x2 : Int32) (x3 : Int32) (x4 : Int32) (x5 : Int32) (xs0 : Int32) (D : Dm) (h : f_X12_moveLine_118 x1 x2 x3 x4 x5 xs0 D = some D') : BV G tA z E p l e (rmC 8 0 0) s m args below meth c LAY D D' 9 118 [(0, .ref (z + 281)), (1, .int x1), (2, .int x2), (3, .int x3), (4, .int x4), (5, .int x5)] [.int xs0] := by
  obtain ⟨hx, hb, -, hown, hts, -⟩ := id O
  unfold f_X12_moveLine_118 at h
  intro H locs ls hH hl
  refine lv_istore (lv' := [(6, .int xs0), (0, .ref (z + 281)), (1, .int x1), (2, .int x2), (3, .int x3), (4, .int x4), (5, .int x5)]) hx hb dX12_moveLine_118 hl (by decide) rfl (fun ls hl => ?_)
  refine lv_aload_n hx hb dX12_moveLine_120 rfl (lv_at hl 1 rfl) ?_
  refine lv_bipush (v := 9) hx hb dX12_moveLine_121 (by decide) ?_
  obtain ⟨y3, D1, hc2, h⟩ := bI_some h
  refine h_callVi (As := [.int 9]) (rest := []) O hH (c_X12_takes hc2) ml_X12_200 ly_281 rfl rfl hl.1 rfl ⟨Nat.le_of_ble_eq_true rfl, Nat.le_of_ble_eq_true rfl⟩ (Nat.le_of_ble_eq_true rfl) dX12_moveLine_123 (fun H locs hH => ?_)
  refine lv_if_eq (tgt := 145) hx hb dX12_moveLine_126 (by decide) (fun c4 => ?_) (fun c4 => ?_)
  · have h := it_pos h c4
    refine lv_iconst (v := (-1)) hx hb dX12_moveLine_145 (by decide) ?_
    exact w_X12_moveLine_146 O hr hlk _ _ _ _ _ _ _ _ h _ _ _ hH (lv_sub hl [1, 2, 3, 4, 5, 6, 0] rfl)
  · have h := it_neg h c4
    refine lv_aload_n hx hb dX12_moveLine_129 rfl (lv_at hl 1 rfl) ?_
    refine lv_iconst (v := 0) hx hb dX12_moveLine_130 (by decide) ?_
    refine lv_aload_n hx hb dX12_moveLine_131 rfl (lv_at hl 1 rfl) ?_
    refine h_getr O hH ly_281 rfl fl_X12_17 dX12_moveLine_132 ?_
    refine lv_iconst (v := 1) hx hb dX12_moveLine_135 (by decide) ?_
    refine h_ialdk (k := 1) O hH ly_283 (by decide) (by decide) (by decide) dX12_moveLine_136 ?_
    refine lv_iconst (v := 1) hx hb dX12_moveLine_137 (by decide) ?_
    refine lv_isub hx hb dX12_moveLine_138 ?_
    obtain ⟨y8, D6, hc7, h⟩ := bI_some h
    refine h_callVi (As := [.int 0, .int ((D1 283 1) - 1)]) (rest := []) O hH (c_X12_number hc7) ml_X12_212 ly_281 rfl rfl hl.1 rfl ⟨Nat.le_of_ble_eq_true rfl, Nat.le_of_ble_eq_true rfl⟩ (Nat.le_of_ble_eq_true rfl) dX12_moveLine_139 (fun H locs hH => ?_)
    refine lv_goto (tgt := 146) hx hb dX12_moveLine_142 (by decide) ?_
    exact w_X12_moveLine_146 O hr hlk _ _ _ _ _ _ _ _ h _ _ _ hH (lv_sub hl [1, 2, 3, 4, 5, 6, 0] rfl)
set_option maxHeartbeats 4000000 in
theorem w_X12_moveLine_71 {G : va_G} {tA : Nat → ClassId} {z : Nat} {E : Ex} {p : Program} {l : Launch} {e : Env} {s : State} {m : MethodId} {args : Array Value} {below : List Frame} {meth : Method} {c : Code} {D' : Dm} (O : Ok G tA z E cX12_moveLine RX12 9 p s m args c) (hr : meth.sig.returnType = none) (hlk : meth.locks = false) (x1 : Int32) (x2 : Int32) (x3 : Int32) (x4 : Int32) (D : Dm) (h : f_X12_moveLine_71 x1 x2 x3 x4 D = some D') : BV G tA z E p l e (rmC 8 0 0) s m args below meth c LAY D D' 9 71 [(0, .ref (z + 281)), (1, .int x1), (2, .int x2), (3, .int x3), (4, .int x4)] [] := by
  obtain ⟨hx, hb, -, hown, hts, -⟩ := id O
  unfold f_X12_moveLine_71 at h
  intro H locs ls hH hl
  refine lv_aload_n hx hb dX12_moveLine_71 rfl (lv_at hl 0 rfl) ?_
  refine lv_bipush (v := 7) hx hb dX12_moveLine_72 (by decide) ?_
  obtain ⟨D1, hc2, h⟩ := bV_some h
  refine h_callVv (As := [.int 7]) (rest := []) O hH (c_X12_must hc2) ml_X12_226 ly_281 rfl rfl hl.1 rfl ⟨Nat.le_of_ble_eq_true rfl, Nat.le_of_ble_eq_true rfl⟩ (Nat.le_of_ble_eq_true rfl) dX12_moveLine_74 (fun H locs hH => ?_)
  refine lv_aload_n hx hb dX12_moveLine_77 rfl (lv_at hl 0 rfl) ?_
  refine lv_iconst (v := 0) hx hb dX12_moveLine_78 (by decide) ?_
  refine lv_aload_n hx hb dX12_moveLine_79 rfl (lv_at hl 0 rfl) ?_
  refine h_getr O hH ly_281 rfl fl_X12_17 dX12_moveLine_80 ?_
  refine lv_iconst (v := 0) hx hb dX12_moveLine_83 (by decide) ?_
  refine h_ialdk (k := 0) O hH ly_283 (by decide) (by decide) (by decide) dX12_moveLine_84 ?_
  refine lv_iconst (v := 1) hx hb dX12_moveLine_85 (by decide) ?_
  refine lv_isub hx hb dX12_moveLine_86 ?_
  obtain ⟨y6, D4, hc5, h⟩ := bI_some h
  refine h_callVi (As := [.int 0, .int ((D1 283 0) - 1)]) (rest := []) O hH (c_X12_number hc5) ml_X12_212 ly_281 rfl rfl hl.1 rfl ⟨Nat.le_of_ble_eq_true rfl, Nat.le_of_ble_eq_true rfl⟩ (Nat.le_of_ble_eq_true rfl) dX12_moveLine_87 (fun H locs hH => ?_)
  refine lv_istore (lv' := [(5, .int y6), (0, .ref (z + 281)), (1, .int x1), (2, .int x2), (3, .int x3), (4, .int x4)]) hx hb dX12_moveLine_90 hl (by decide) rfl (fun ls hl => ?_)
  refine lv_aload_n hx hb dX12_moveLine_92 rfl (lv_at hl 1 rfl) ?_
  refine lv_bipush (v := 8) hx hb dX12_moveLine_93 (by decide) ?_
  obtain ⟨y9, D7, hc8, h⟩ := bI_some h
  refine h_callVi (As := [.int 8]) (rest := []) O hH (c_X12_takes hc8) ml_X12_200 ly_281 rfl rfl hl.1 rfl ⟨Nat.le_of_ble_eq_true rfl, Nat.le_of_ble_eq_true rfl⟩ (Nat.le_of_ble_eq_true rfl) dX12_moveLine_95 (fun H locs hH => ?_)
  refine lv_if_eq (tgt := 117) hx hb dX12_moveLine_98 (by decide) (fun c10 => ?_) (fun c10 => ?_)
  · have h := it_pos h c10
    refine lv_iconst (v := (-1)) hx hb dX12_moveLine_117 (by decide) ?_
    exact w_X12_moveLine_118 O hr hlk _ _ _ _ _ _ _ h _ _ _ hH (lv_sub hl [1, 2, 3, 4, 5, 0] rfl)
  · have h := it_neg h c10
    refine lv_aload_n hx hb dX12_moveLine_101 rfl (lv_at hl 1 rfl) ?_
    refine lv_iconst (v := 0) hx hb dX12_moveLine_102 (by decide) ?_
    refine lv_aload_n hx hb dX12_moveLine_103 rfl (lv_at hl 1 rfl) ?_
    refine h_getr O hH ly_281 rfl fl_X12_17 dX12_moveLine_104 ?_
    refine lv_iconst (v := 1) hx hb dX12_moveLine_107 (by decide) ?_
    refine h_ialdk (k := 1) O hH ly_283 (by decide) (by decide) (by decide) dX12_moveLine_108 ?_
    refine lv_iconst (v := 1) hx hb dX12_moveLine_109 (by decide) ?_
    refine lv_isub hx hb dX12_moveLine_110 ?_
    obtain ⟨y14, D12, hc13, h⟩ := bI_some h
    refine h_callVi (As := [.int 0, .int ((D7 283 1) - 1)]) (rest := []) O hH (c_X12_number hc13) ml_X12_212 ly_281 rfl rfl hl.1 rfl ⟨Nat.le_of_ble_eq_true rfl, Nat.le_of_ble_eq_true rfl⟩ (Nat.le_of_ble_eq_true rfl) dX12_moveLine_111 (fun H locs hH => ?_)
    refine lv_goto (tgt := 118) hx hb dX12_moveLine_114 (by decide) ?_
    exact w_X12_moveLine_118 O hr hlk _ _ _ _ _ _ _ h _ _ _ hH (lv_sub hl [1, 2, 3, 4, 5, 0] rfl)
set_option maxHeartbeats 4000000 in
theorem w_X12_moveLine_35 {G : va_G} {tA : Nat → ClassId} {z : Nat} {E : Ex} {p : Program} {l : Launch} {e : Env} {s : State} {m : MethodId} {args : Array Value} {below : List Frame} {meth : Method} {c : Code} {D' : Dm} (O : Ok G tA z E cX12_moveLine RX12 9 p s m args c) (hr : meth.sig.returnType = none) (hlk : meth.locks = false) (x1 : Int32) (x2 : Int32) (xs0 : Int32) (D : Dm) (h : f_X12_moveLine_35 x1 x2 xs0 D = some D') : BV G tA z E p l e (rmC 8 0 0) s m args below meth c LAY D D' 9 35 [(0, .ref (z + 281)), (1, .int x1), (2, .int x2)] [.int xs0] := by
  obtain ⟨hx, hb, -, hown, hts, -⟩ := id O
  unfold f_X12_moveLine_35 at h
  intro H locs ls hH hl
  refine lv_istore_n (lv' := [(3, .int xs0), (0, .ref (z + 281)), (1, .int x1), (2, .int x2)]) hx hb dX12_moveLine_35 rfl hl (by decide) rfl (fun ls hl => ?_)
  refine lv_iconst (v := 2) hx hb dX12_moveLine_36 (by decide) ?_
  refine lv_istore (lv' := [(4, .int 2), (3, .int xs0), (0, .ref (z + 281)), (1, .int x1), (2, .int x2)]) hx hb dX12_moveLine_37 hl (by decide) rfl (fun ls hl => ?_)
  refine lv_aload_n hx hb dX12_moveLine_39 rfl (lv_at hl 2 rfl) ?_
  refine lv_iconst (v := 5) hx hb dX12_moveLine_40 (by decide) ?_
  obtain ⟨y3, D1, hc2, h⟩ := bI_some h
  refine h_callVi (As := [.int 5]) (rest := []) O hH (c_X12_takes hc2) ml_X12_200 ly_281 rfl rfl hl.1 rfl ⟨Nat.le_of_ble_eq_true rfl, Nat.le_of_ble_eq_true rfl⟩ (Nat.le_of_ble_eq_true rfl) dX12_moveLine_41 (fun H locs hH => ?_)
  refine lv_if_eq (tgt := 65) hx hb dX12_moveLine_44 (by decide) (fun c4 => ?_) (fun c4 => ?_)
  · have h := it_pos h c4
    refine lv_aload_n hx hb dX12_moveLine_65 rfl (lv_at hl 2 rfl) ?_
    refine lv_bipush (v := 6) hx hb dX12_moveLine_66 (by decide) ?_
    obtain ⟨D5, hc6, h⟩ := bV_some h
    refine h_callVv (As := [.int 6]) (rest := []) O hH (c_X12_must hc6) ml_X12_226 ly_281 rfl rfl hl.1 rfl ⟨Nat.le_of_ble_eq_true rfl, Nat.le_of_ble_eq_true rfl⟩ (Nat.le_of_ble_eq_true rfl) dX12_moveLine_68 (fun H locs hH => ?_)
    exact w_X12_moveLine_71 O hr hlk _ _ _ _ _ h _ _ _ hH (lv_sub hl [2, 3, 4, 1, 0] rfl)
  · have h := it_neg h c4
    refine lv_aload_n hx hb dX12_moveLine_47 rfl (lv_at hl 2 rfl) ?_
    refine lv_iconst (v := 0) hx hb dX12_moveLine_48 (by decide) ?_
    refine lv_aload_n hx hb dX12_moveLine_49 rfl (lv_at hl 2 rfl) ?_
    refine h_getr O hH ly_281 rfl fl_X12_17 dX12_moveLine_50 ?_
    refine lv_iconst (v := 1) hx hb dX12_moveLine_53 (by decide) ?_
    refine h_ialdk (k := 1) O hH ly_283 (by decide) (by decide) (by decide) dX12_moveLine_54 ?_
    refine lv_iconst (v := 1) hx hb dX12_moveLine_55 (by decide) ?_
    refine lv_isub hx hb dX12_moveLine_56 ?_
    obtain ⟨y10, D8, hc9, h⟩ := bI_some h
    refine h_callVi (As := [.int 0, .int ((D1 283 1) - 1)]) (rest := []) O hH (c_X12_number hc9) ml_X12_212 ly_281 rfl rfl hl.1 rfl ⟨Nat.le_of_ble_eq_true rfl, Nat.le_of_ble_eq_true rfl⟩ (Nat.le_of_ble_eq_true rfl) dX12_moveLine_57 (fun H locs hH => ?_)
    refine lv_istore (lv' := [(4, .int y10), (3, .int xs0), (0, .ref (z + 281)), (1, .int x1), (2, .int x2)]) hx hb dX12_moveLine_60 hl (by decide) rfl (fun ls hl => ?_)
    refine lv_goto (tgt := 71) hx hb dX12_moveLine_62 (by decide) ?_
    exact w_X12_moveLine_71 O hr hlk _ _ _ _ _ h _ _ _ hH (lv_sub hl [2, 3, 4, 1, 0] rfl)
set_option maxHeartbeats 4000000 in
theorem w_X12_moveLine {G : va_G} {tA : Nat → ClassId} {z : Nat} {E : Ex} {p : Program} {l : Launch} {e : Env} {s : State} {m : MethodId} {args : Array Value} {below : List Frame} {meth : Method} {c : Code} {D' : Dm} (O : Ok G tA z E cX12_moveLine RX12 9 p s m args c) (hr : meth.sig.returnType = none) (hlk : meth.locks = false) (x1 : Int32) (D : Dm) (h : f_X12_moveLine x1 D = some D') : BV G tA z E p l e (rmC 8 0 0) s m args below meth c LAY D D' 9 0 [(0, .ref (z + 281)), (1, .int x1)] [] := by
  obtain ⟨hx, hb, -, hown, hts, -⟩ := id O
  unfold f_X12_moveLine at h
  intro H locs ls hH hl
  refine lv_aload_n hx hb dX12_moveLine_0 rfl (lv_at hl 0 rfl) ?_
  refine lv_iconst (v := 0) hx hb dX12_moveLine_1 (by decide) ?_
  refine lv_aload_n hx hb dX12_moveLine_2 rfl (lv_at hl 0 rfl) ?_
  refine h_getr O hH ly_281 rfl fl_X12_17 dX12_moveLine_3 ?_
  refine lv_iconst (v := 0) hx hb dX12_moveLine_6 (by decide) ?_
  refine h_ialdk (k := 0) O hH ly_283 (by decide) (by decide) (by decide) dX12_moveLine_7 ?_
  refine lv_iconst (v := 1) hx hb dX12_moveLine_8 (by decide) ?_
  refine lv_isub hx hb dX12_moveLine_9 ?_
  obtain ⟨y4, D2, hc3, h⟩ := bI_some h
  refine h_callVi (As := [.int 0, .int ((D 283 0) - 1)]) (rest := []) O hH (c_X12_number hc3) ml_X12_212 ly_281 rfl rfl hl.1 rfl ⟨Nat.le_of_ble_eq_true rfl, Nat.le_of_ble_eq_true rfl⟩ (Nat.le_of_ble_eq_true rfl) dX12_moveLine_10 (fun H locs hH => ?_)
  refine lv_istore_n (lv' := [(2, .int y4), (0, .ref (z + 281)), (1, .int x1)]) hx hb dX12_moveLine_13 rfl hl (by decide) rfl (fun ls hl => ?_)
  refine lv_aload_n hx hb dX12_moveLine_14 rfl (lv_at hl 1 rfl) ?_
  refine h_geti O hH ly_281 rfl fl_X12_168 dX12_moveLine_15 ?_
  refine lv_if_ne (tgt := 34) hx hb dX12_moveLine_18 (by decide) (fun c5 => ?_) (fun c5 => ?_)
  · have h := it_neg h c5
    refine lv_iconst (v := 0) hx hb dX12_moveLine_34 (by decide) ?_
    exact w_X12_moveLine_35 O hr hlk _ _ _ _ h _ _ _ hH (lv_sub hl [1, 2, 0] rfl)
  · have h := it_pos h c5
    refine lv_aload_n hx hb dX12_moveLine_21 rfl (lv_at hl 1 rfl) ?_
    refine lv_aload_n hx hb dX12_moveLine_22 rfl (lv_at hl 1 rfl) ?_
    refine h_getr O hH ly_281 rfl fl_X12_17 dX12_moveLine_23 ?_
    refine lv_iconst (v := 2) hx hb dX12_moveLine_26 (by decide) ?_
    refine h_ialdk (k := 2) O hH ly_283 (by decide) (by decide) (by decide) dX12_moveLine_27 ?_
    obtain ⟨y9, D7, hc8, h⟩ := bI_some h
    refine h_callVi (As := [.int (D2 283 2)]) (rest := []) O hH (c_X12_symbol hc8) ml_X12_222 ly_281 rfl rfl hl.1 rfl ⟨Nat.le_of_ble_eq_true rfl, Nat.le_of_ble_eq_true rfl⟩ (Nat.le_of_ble_eq_true rfl) dX12_moveLine_28 (fun H locs hH => ?_)
    refine lv_goto (tgt := 35) hx hb dX12_moveLine_31 (by decide) ?_
    exact w_X12_moveLine_35 O hr hlk _ _ _ _ h _ _ _ hH (lv_sub hl [1, 2, 0] rfl)
set_option maxHeartbeats 4000000 in
theorem c_X12_moveLine {l : Launch} {G : va_G} {tA : Nat → ClassId} {z : Nat} {E : Ex} {x1 : Int32} {D D' : Dm} (h : f_X12_moveLine x1 D = some D') : CtV l yX12_moveLine cX12_moveLine 9 G tA z E 8 0 0 [.ref (z + 281), .int x1] LAY D LAY D' :=
  ct_BV (by decide +kernel) (Nat.le_of_ble_eq_true rfl) (fun _ _ _ _ _ _ _ _ O hr hlk => w_X12_moveLine O hr hlk _ _ h)
set_option maxHeartbeats 4000000 in
theorem w_X12_line_104 {G : va_G} {tA : Nat → ClassId} {z : Nat} {E : Ex} {p : Program} {l : Launch} {e : Env} {s : State} {m : MethodId} {args : Array Value} {below : List Frame} {meth : Method} {c : Code} {D' : Dm} (O : Ok G tA z E cX12_line RX12 2 p s m args c) (hr : meth.sig.returnType = none) (hlk : meth.locks = false)  (D : Dm) (h : f_X12_line_104  D = some D') : BV G tA z E p l e (rmC 9 0 0) s m args below meth c LAY D D' 2 104 [(0, .ref (z + 281))] [] := by
  obtain ⟨hx, hb, -, hown, hts, -⟩ := id O
  unfold f_X12_line_104 at h
  intro H locs ls hH hl
  refine lv_aload_n hx hb dX12_line_104 rfl (lv_at hl 0 rfl) ?_
  obtain ⟨D1, hc2, h⟩ := bV_some h
  refine h_callVv (As := []) (rest := []) O hH (c_X12_ends hc2) ml_X12_240 ly_281 rfl rfl hl.1 rfl ⟨Nat.le_of_ble_eq_true rfl, Nat.le_of_ble_eq_true rfl⟩ (Nat.le_of_ble_eq_true rfl) dX12_line_105 (fun H locs hH => ?_)
  obtain rfl := ret_v h
  exact h_vret O hr hlk hH dX12_line_108
set_option maxHeartbeats 4000000 in
theorem w_X12_line {G : va_G} {tA : Nat → ClassId} {z : Nat} {E : Ex} {p : Program} {l : Launch} {e : Env} {s : State} {m : MethodId} {args : Array Value} {below : List Frame} {meth : Method} {c : Code} {D' : Dm} (O : Ok G tA z E cX12_line RX12 2 p s m args c) (hr : meth.sig.returnType = none) (hlk : meth.locks = false)  (D : Dm) (h : f_X12_line  D = some D') : BV G tA z E p l e (rmC 9 0 0) s m args below meth c LAY D D' 2 0 [(0, .ref (z + 281))] [] := by
  obtain ⟨hx, hb, -, hown, hts, -⟩ := id O
  unfold f_X12_line at h
  intro H locs ls hH hl
  refine lv_aload_n hx hb dX12_line_0 rfl (lv_at hl 0 rfl) ?_
  obtain ⟨D1, hc2, h⟩ := bV_some h
  refine h_callVv (As := []) (rest := []) O hH (c_X12_blanks hc2) ml_X12_175 ly_281 rfl rfl hl.1 rfl ⟨Nat.le_of_ble_eq_true rfl, Nat.le_of_ble_eq_true rfl⟩ (Nat.le_of_ble_eq_true rfl) dX12_line_1 (fun H locs hH => ?_)
  refine lv_aload_n hx hb dX12_line_4 rfl (lv_at hl 0 rfl) ?_
  refine h_geti O hH ly_281 rfl fl_X12_162 dX12_line_5 ?_
  refine lv_topi (fun y3 e4 => ?_)
  have h := lt_at e4 h
  refine lv_istore_n (lv' := [(1, .int y3), (0, .ref (z + 281))]) hx hb dX12_line_8 rfl hl (by decide) rfl (fun ls hl => ?_)
  refine lv_aload_n hx hb dX12_line_9 rfl (lv_at hl 1 rfl) ?_
  refine lv_iconst (v := 0) hx hb dX12_line_10 (by decide) ?_
  obtain ⟨y7, D5, hc6, h⟩ := bI_some h
  refine h_callVi (As := [.int 0]) (rest := []) O hH (c_X12_takes hc6) ml_X12_200 ly_281 rfl rfl hl.1 rfl ⟨Nat.le_of_ble_eq_true rfl, Nat.le_of_ble_eq_true rfl⟩ (Nat.le_of_ble_eq_true rfl) dX12_line_11 (fun H locs hH => ?_)
  refine lv_if_eq (tgt := 28) hx hb dX12_line_14 (by decide) (fun c8 => ?_) (fun c8 => ?_)
  · have h := it_pos h c8
    refine lv_aload_n hx hb dX12_line_28 rfl (lv_at hl 1 rfl) ?_
    refine lv_iconst (v := 1) hx hb dX12_line_29 (by decide) ?_
    obtain ⟨y11, D9, hc10, h⟩ := bI_some h
    refine h_callVi (As := [.int 1]) (rest := []) O hH (c_X12_takes hc10) ml_X12_200 ly_281 rfl rfl hl.1 rfl ⟨Nat.le_of_ble_eq_true rfl, Nat.le_of_ble_eq_true rfl⟩ (Nat.le_of_ble_eq_true rfl) dX12_line_30 (fun H locs hH => ?_)
    refine lv_if_eq (tgt := 47) hx hb dX12_line_33 (by decide) (fun c12 => ?_) (fun c12 => ?_)
    · have h := it_pos h c12
      refine lv_aload_n hx hb dX12_line_47 rfl (lv_at hl 1 rfl) ?_
      refine lv_iconst (v := 2) hx hb dX12_line_48 (by decide) ?_
      obtain ⟨y15, D13, hc14, h⟩ := bI_some h
      refine h_callVi (As := [.int 2]) (rest := []) O hH (c_X12_takes hc14) ml_X12_200 ly_281 rfl rfl hl.1 rfl ⟨Nat.le_of_ble_eq_true rfl, Nat.le_of_ble_eq_true rfl⟩ (Nat.le_of_ble_eq_true rfl) dX12_line_49 (fun H locs hH => ?_)
      refine lv_if_eq (tgt := 66) hx hb dX12_line_52 (by decide) (fun c16 => ?_) (fun c16 => ?_)
      · have h := it_pos h c16
        refine lv_aload_n hx hb dX12_line_66 rfl (lv_at hl 1 rfl) ?_
        refine lv_iconst (v := 3) hx hb dX12_line_67 (by decide) ?_
        obtain ⟨y19, D17, hc18, h⟩ := bI_some h
        refine h_callVi (As := [.int 3]) (rest := []) O hH (c_X12_takes hc18) ml_X12_200 ly_281 rfl rfl hl.1 rfl ⟨Nat.le_of_ble_eq_true rfl, Nat.le_of_ble_eq_true rfl⟩ (Nat.le_of_ble_eq_true rfl) dX12_line_68 (fun H locs hH => ?_)
        refine lv_if_eq (tgt := 82) hx hb dX12_line_71 (by decide) (fun c20 => ?_) (fun c20 => ?_)
        · have h := it_pos h c20
          refine lv_aload_n hx hb dX12_line_82 rfl (lv_at hl 1 rfl) ?_
          refine lv_iconst (v := 4) hx hb dX12_line_83 (by decide) ?_
          obtain ⟨y23, D21, hc22, h⟩ := bI_some h
          refine h_callVi (As := [.int 4]) (rest := []) O hH (c_X12_takes hc22) ml_X12_200 ly_281 rfl rfl hl.1 rfl ⟨Nat.le_of_ble_eq_true rfl, Nat.le_of_ble_eq_true rfl⟩ (Nat.le_of_ble_eq_true rfl) dX12_line_84 (fun H locs hH => ?_)
          refine lv_if_eq (tgt := 98) hx hb dX12_line_87 (by decide) (fun c24 => ?_) (fun c24 => ?_)
          · have h := it_pos h c24
            refine lv_aload_n hx hb dX12_line_98 rfl (lv_at hl 1 rfl) ?_
            refine lv_iconst (v := 1) hx hb dX12_line_99 (by decide) ?_
            refine lv_iload_n hx hb dX12_line_100 rfl (lv_at hl 0 rfl) ?_
            obtain ⟨D25, hc26, h⟩ := bV_some h
            refine h_callVv (As := [.int 1, .int y3]) (rest := []) O hH (c_X12_fails hc26) ml_X12_204 ly_281 rfl rfl hl.1 rfl ⟨Nat.le_of_ble_eq_true rfl, Nat.le_of_ble_eq_true rfl⟩ (Nat.le_of_ble_eq_true rfl) dX12_line_101 (fun H locs hH => ?_)
            exact w_X12_line_104 O hr hlk _ h _ _ _ hH (lv_sub hl [1] rfl)
          · have h := it_neg h c24
            refine lv_aload_n hx hb dX12_line_90 rfl (lv_at hl 1 rfl) ?_
            refine lv_iload_n hx hb dX12_line_91 rfl (lv_at hl 0 rfl) ?_
            obtain ⟨D27, hc28, h⟩ := bV_some h
            refine h_callVv (As := [.int y3]) (rest := []) O hH (c_X12_moveLine hc28) ml_X12_237 ly_281 rfl rfl hl.1 rfl ⟨Nat.le_of_ble_eq_true rfl, Nat.le_of_ble_eq_true rfl⟩ (Nat.le_of_ble_eq_true rfl) dX12_line_92 (fun H locs hH => ?_)
            refine lv_goto (tgt := 104) hx hb dX12_line_95 (by decide) ?_
            exact w_X12_line_104 O hr hlk _ h _ _ _ hH (lv_sub hl [1] rfl)
        · have h := it_neg h c20
          refine lv_aload_n hx hb dX12_line_74 rfl (lv_at hl 1 rfl) ?_
          refine lv_iload_n hx hb dX12_line_75 rfl (lv_at hl 0 rfl) ?_
          obtain ⟨D29, hc30, h⟩ := bV_some h
          refine h_callVv (As := [.int y3]) (rest := []) O hH (c_X12_acceptLine hc30) ml_X12_234 ly_281 rfl rfl hl.1 rfl ⟨Nat.le_of_ble_eq_true rfl, Nat.le_of_ble_eq_true rfl⟩ (Nat.le_of_ble_eq_true rfl) dX12_line_76 (fun H locs hH => ?_)
          refine lv_goto (tgt := 104) hx hb dX12_line_79 (by decide) ?_
          exact w_X12_line_104 O hr hlk _ h _ _ _ hH (lv_sub hl [1] rfl)
      · have h := it_neg h c16
        refine lv_aload_n hx hb dX12_line_55 rfl (lv_at hl 1 rfl) ?_
        refine lv_iconst (v := 2) hx hb dX12_line_56 (by decide) ?_
        refine lv_iconst (v := 1) hx hb dX12_line_57 (by decide) ?_
        refine lv_iconst (v := 2) hx hb dX12_line_58 (by decide) ?_
        refine lv_iload_n hx hb dX12_line_59 rfl (lv_at hl 0 rfl) ?_
        obtain ⟨D31, hc32, h⟩ := bV_some h
        refine h_callVv (As := [.int 2, .int 1, .int 2, .int y3]) (rest := []) O hH (c_X12_manyLine hc32) ml_X12_230 ly_281 rfl rfl hl.1 rfl ⟨Nat.le_of_ble_eq_true rfl, Nat.le_of_ble_eq_true rfl⟩ (Nat.le_of_ble_eq_true rfl) dX12_line_60 (fun H locs hH => ?_)
        refine lv_goto (tgt := 104) hx hb dX12_line_63 (by decide) ?_
        exact w_X12_line_104 O hr hlk _ h _ _ _ hH (lv_sub hl [1] rfl)
    · have h := it_neg h c12
      refine lv_aload_n hx hb dX12_line_36 rfl (lv_at hl 1 rfl) ?_
      refine lv_iconst (v := 1) hx hb dX12_line_37 (by decide) ?_
      refine lv_iconst (v := 0) hx hb dX12_line_38 (by decide) ?_
      refine lv_iconst (v := 2) hx hb dX12_line_39 (by decide) ?_
      refine lv_iload_n hx hb dX12_line_40 rfl (lv_at hl 0 rfl) ?_
      obtain ⟨D33, hc34, h⟩ := bV_some h
      refine h_callVv (As := [.int 1, .int 0, .int 2, .int y3]) (rest := []) O hH (c_X12_manyLine hc34) ml_X12_230 ly_281 rfl rfl hl.1 rfl ⟨Nat.le_of_ble_eq_true rfl, Nat.le_of_ble_eq_true rfl⟩ (Nat.le_of_ble_eq_true rfl) dX12_line_41 (fun H locs hH => ?_)
      refine lv_goto (tgt := 104) hx hb dX12_line_44 (by decide) ?_
      exact w_X12_line_104 O hr hlk _ h _ _ _ hH (lv_sub hl [1] rfl)
  · have h := it_neg h c8
    refine lv_aload_n hx hb dX12_line_17 rfl (lv_at hl 1 rfl) ?_
    refine lv_iconst (v := 0) hx hb dX12_line_18 (by decide) ?_
    refine lv_iconst (v := 1) hx hb dX12_line_19 (by decide) ?_
    refine lv_iconst (v := 5) hx hb dX12_line_20 (by decide) ?_
    refine lv_iload_n hx hb dX12_line_21 rfl (lv_at hl 0 rfl) ?_
    obtain ⟨D35, hc36, h⟩ := bV_some h
    refine h_callVv (As := [.int 0, .int 1, .int 5, .int y3]) (rest := []) O hH (c_X12_manyLine hc36) ml_X12_230 ly_281 rfl rfl hl.1 rfl ⟨Nat.le_of_ble_eq_true rfl, Nat.le_of_ble_eq_true rfl⟩ (Nat.le_of_ble_eq_true rfl) dX12_line_22 (fun H locs hH => ?_)
    refine lv_goto (tgt := 104) hx hb dX12_line_25 (by decide) ?_
    exact w_X12_line_104 O hr hlk _ h _ _ _ hH (lv_sub hl [1] rfl)
set_option maxHeartbeats 4000000 in
theorem c_X12_line {l : Launch} {G : va_G} {tA : Nat → ClassId} {z : Nat} {E : Ex}  {D D' : Dm} (h : f_X12_line  D = some D') : CtV l yX12_line cX12_line 2 G tA z E 9 0 0 [.ref (z + 281)] LAY D LAY D' :=
  ct_BV (by decide +kernel) (Nat.le_of_ble_eq_true rfl) (fun _ _ _ _ _ _ _ _ O hr hlk => w_X12_line O hr hlk  _ h)
set_option maxHeartbeats 4000000 in
theorem w_X12_begins {G : va_G} {tA : Nat → ClassId} {z : Nat} {E : Ex} {p : Program} {l : Launch} {e : Env} {s : State} {m : MethodId} {args : Array Value} {below : List Frame} {meth : Method} {c : Code} {D' : Dm} (O : Ok G tA z E cX12_begins RX12 2 p s m args c) (hr : meth.sig.returnType = none) (hlk : meth.locks = false) (x1 : Int32) (D : Dm) (h : f_X12_begins x1 D = some D') : BV G tA z E p l e (rmC 1 0 0) s m args below meth c LAY D D' 2 0 [(0, .ref (z + 281)), (1, .int x1)] [] := by
  obtain ⟨hx, hb, -, hown, hts, -⟩ := id O
  unfold f_X12_begins at h
  intro H locs ls hH hl
  refine lv_aload_n hx hb dX12_begins_0 rfl (lv_at hl 0 rfl) ?_
  refine lv_iconst (v := 0) hx hb dX12_begins_1 (by decide) ?_
  obtain ⟨D1, e2, h⟩ := lt_some h
  refine h_puti O hH ly_281 rfl fl_X12_159 e2 dX12_begins_2 (fun H locs hH => ?_)
  refine lv_aload_n hx hb dX12_begins_5 rfl (lv_at hl 0 rfl) ?_
  refine lv_iload_n hx hb dX12_begins_6 rfl (lv_at hl 1 rfl) ?_
  obtain ⟨D3, e4, h⟩ := lt_some h
  refine h_puti O hH ly_281 rfl fl_X12_165 e4 dX12_begins_7 (fun H locs hH => ?_)
  refine lv_aload_n hx hb dX12_begins_10 rfl (lv_at hl 0 rfl) ?_
  refine lv_iconst (v := 0) hx hb dX12_begins_11 (by decide) ?_
  obtain ⟨D5, e6, h⟩ := lt_some h
  refine h_puti O hH ly_281 rfl fl_X12_162 e6 dX12_begins_12 (fun H locs hH => ?_)
  refine lv_aload_n hx hb dX12_begins_15 rfl (lv_at hl 0 rfl) ?_
  refine lv_iconst (v := 0) hx hb dX12_begins_16 (by decide) ?_
  obtain ⟨D7, e8, h⟩ := lt_some h
  refine h_puti O hH ly_281 rfl fl_X12_168 e8 dX12_begins_17 (fun H locs hH => ?_)
  refine lv_aload_n hx hb dX12_begins_20 rfl (lv_at hl 0 rfl) ?_
  refine lv_iconst (v := (-1)) hx hb dX12_begins_21 (by decide) ?_
  obtain ⟨D9, e10, h⟩ := lt_some h
  refine h_puti O hH ly_281 rfl fl_X12_24 e10 dX12_begins_22 (fun H locs hH => ?_)
  obtain rfl := ret_v h
  exact h_vret O hr hlk hH dX12_begins_25
set_option maxHeartbeats 4000000 in
theorem c_X12_begins {l : Launch} {G : va_G} {tA : Nat → ClassId} {z : Nat} {E : Ex} {x1 : Int32} {D D' : Dm} (h : f_X12_begins x1 D = some D') : CtV l yX12_begins cX12_begins 2 G tA z E 1 0 0 [.ref (z + 281), .int x1] LAY D LAY D' :=
  ct_BV (by decide +kernel) (Nat.le_of_ble_eq_true rfl) (fun _ _ _ _ _ _ _ _ O hr hlk => w_X12_begins O hr hlk _ _ h)
set_option maxHeartbeats 4000000 in
theorem w_X12_movesOf_26 {G : va_G} {tA : Nat → ClassId} {z : Nat} {E : Ex} {p : Program} {l : Launch} {e : Env} {s : State} {m : MethodId} {args : Array Value} {below : List Frame} {meth : Method} {c : Code} {r : Int32} {D' : Dm} (O : Ok G tA z E cX12_movesOf RX12 4 p s m args c) (hr : meth.sig.returnType = some .int) (hlk : meth.locks = false) {k4 : Int32 → Int32 → Int32 → Dm → Option (Int32 × Dm)} (hk4 : ∀ (x1 : Int32) (x2 : Int32) (x3 : Int32) (D : Dm), k4 x1 x2 x3 D = some (r, D') → BI G tA z E p l e (rmC 2 0 0) s m args below meth c LAY D r D' 4 4 [(0, .ref (z + 281)), (1, .int x1), (2, .int x2), (3, .int x3)] []) (x1 : Int32) (x3 : Int32) (xs0 : Int32) (xs1 : Int32) (D : Dm) (h : f_X12_movesOf_26 k4 x1 x3 xs0 xs1 D = some (r, D')) : BI G tA z E p l e (rmC 2 0 0) s m args below meth c LAY D r D' 4 26 [(0, .ref (z + 281)), (1, .int x1), (3, .int x3)] [.int xs0, .int xs1] := by
  obtain ⟨hx, hb, -, hown, hts, -⟩ := id O
  unfold f_X12_movesOf_26 at h
  intro H locs ls hH hl
  refine lv_iadd hx hb dX12_movesOf_26 ?_
  refine lv_topi (fun y1 e2 => ?_)
  have h := lt_at e2 h
  refine lv_istore_n (lv' := [(2, .int y1), (0, .ref (z + 281)), (1, .int x1), (3, .int x3)]) hx hb dX12_movesOf_27 rfl hl (by decide) rfl (fun ls hl => ?_)
  obtain ⟨y3, e4, h⟩ := lt_some h
  refine lv_iinc (v := y3) (lv' := [(3, .int y3), (2, .int y1), (0, .ref (z + 281)), (1, .int x1)]) hx hb dX12_movesOf_28 hl (k := 3) rfl (by rw [e4]; rfl) (by decide) rfl (fun ls hl => ?_)
  refine lv_goto (tgt := 4) hx hb dX12_movesOf_31 (by decide) ?_
  exact hk4 _ _ _ _ h _ _ _ hH (lv_sub hl [2, 3, 1, 0] rfl)
set_option maxHeartbeats 4000000 in
theorem w_X12_movesOf_4_b {G : va_G} {tA : Nat → ClassId} {z : Nat} {E : Ex} {p : Program} {l : Launch} {e : Env} {s : State} {m : MethodId} {args : Array Value} {below : List Frame} {meth : Method} {c : Code} {r : Int32} {D' : Dm} (O : Ok G tA z E cX12_movesOf RX12 4 p s m args c) (hr : meth.sig.returnType = some .int) (hlk : meth.locks = false) {k4 : Int32 → Int32 → Int32 → Dm → Option (Int32 × Dm)} (hk4 : ∀ (x1 : Int32) (x2 : Int32) (x3 : Int32) (D : Dm), k4 x1 x2 x3 D = some (r, D') → BI G tA z E p l e (rmC 2 0 0) s m args below meth c LAY D r D' 4 4 [(0, .ref (z + 281)), (1, .int x1), (2, .int x2), (3, .int x3)] []) (x1 : Int32) (x2 : Int32) (x3 : Int32) (D : Dm) (h : f_X12_movesOf_4_b k4 x1 x2 x3 D = some (r, D')) : BI G tA z E p l e (rmC 2 0 0) s m args below meth c LAY D r D' 4 4 [(0, .ref (z + 281)), (1, .int x1), (2, .int x2), (3, .int x3)] [] := by
  obtain ⟨hx, hb, -, hown, hts, -⟩ := id O
  unfold f_X12_movesOf_4_b at h
  intro H locs ls hH hl
  refine lv_iload_n hx hb dX12_movesOf_4 rfl (lv_at hl 3 rfl) ?_
  refine lv_bipush (v := 94) hx hb dX12_movesOf_5 (by decide) ?_
  refine lv_icmp_ge (tgt := 34) hx hb dX12_movesOf_7 (by decide) (fun c1 => ?_) (fun c1 => ?_)
  · have h := it_pos h c1
    refine lv_iload_n hx hb dX12_movesOf_34 rfl (lv_at hl 2 rfl) ?_
    obtain ⟨rfl, rfl⟩ := ret_i h
    exact h_iret O hr hlk hH dX12_movesOf_35
  · have h := it_neg h c1
    refine lv_iload_n hx hb dX12_movesOf_10 rfl (lv_at hl 2 rfl) ?_
    refine lv_aload_n hx hb dX12_movesOf_11 rfl (lv_at hl 0 rfl) ?_
    refine lv_iload_n hx hb dX12_movesOf_12 rfl (lv_at hl 1 rfl) ?_
    refine lv_iload_n hx hb dX12_movesOf_13 rfl (lv_at hl 3 rfl) ?_
    obtain ⟨y4, D2, hc3, h⟩ := bI_some h
    refine h_callVi (As := [.int x1, .int x3]) (rest := [.int x2]) O hH (c_X12_its hc3) ml_X12_155 ly_281 rfl rfl hl.1 rfl ⟨Nat.le_of_ble_eq_true rfl, Nat.le_of_ble_eq_true rfl⟩ (Nat.le_of_ble_eq_true rfl) dX12_movesOf_14 (fun H locs hH => ?_)
    refine lv_iconst (v := (-1)) hx hb dX12_movesOf_17 (by decide) ?_
    refine lv_icmp_ne (tgt := 25) hx hb dX12_movesOf_18 (by decide) (fun c5 => ?_) (fun c5 => ?_)
    · have h := it_neg h c5
      refine lv_iconst (v := 1) hx hb dX12_movesOf_25 (by decide) ?_
      exact w_X12_movesOf_26 O hr hlk hk4 _ _ _ _ _ h _ _ _ hH (lv_sub hl [0, 1, 3] rfl)
    · have h := it_pos h c5
      refine lv_iconst (v := 0) hx hb dX12_movesOf_21 (by decide) ?_
      refine lv_goto (tgt := 26) hx hb dX12_movesOf_22 (by decide) ?_
      exact w_X12_movesOf_26 O hr hlk hk4 _ _ _ _ _ h _ _ _ hH (lv_sub hl [0, 1, 3] rfl)
set_option maxHeartbeats 4000000 in
theorem w_X12_movesOf_4 {G : va_G} {tA : Nat → ClassId} {z : Nat} {E : Ex} {p : Program} {l : Launch} {e : Env} {s : State} {m : MethodId} {args : Array Value} {below : List Frame} {meth : Method} {c : Code} {r : Int32} {D' : Dm} (O : Ok G tA z E cX12_movesOf RX12 4 p s m args c) (hr : meth.sig.returnType = some .int) (hlk : meth.locks = false) : ∀ (n : Nat) (x1 : Int32) (x2 : Int32) (x3 : Int32) (D : Dm) (h : f_X12_movesOf_4 n x1 x2 x3 D = some (r, D')), BI G tA z E p l e (rmC 2 0 0) s m args below meth c LAY D r D' 4 4 [(0, .ref (z + 281)), (1, .int x1), (2, .int x2), (3, .int x3)] [] := by
  intro n
  induction n with
  | zero => intro x1 x2 x3 D h; exact no_some h
  | succ n ih => intro x1 x2 x3 D h; exact w_X12_movesOf_4_b O hr hlk (fun x1 x2 x3 D h => ih x1 x2 x3 D h) x1 x2 x3 D h
set_option maxHeartbeats 4000000 in
theorem w_X12_movesOf {G : va_G} {tA : Nat → ClassId} {z : Nat} {E : Ex} {p : Program} {l : Launch} {e : Env} {s : State} {m : MethodId} {args : Array Value} {below : List Frame} {meth : Method} {c : Code} {r : Int32} {D' : Dm} (O : Ok G tA z E cX12_movesOf RX12 4 p s m args c) (hr : meth.sig.returnType = some .int) (hlk : meth.locks = false) (x1 : Int32) (D : Dm) (h : f_X12_movesOf x1 D = some (r, D')) : BI G tA z E p l e (rmC 2 0 0) s m args below meth c LAY D r D' 4 0 [(0, .ref (z + 281)), (1, .int x1)] [] := by
  obtain ⟨hx, hb, -, hown, hts, -⟩ := id O
  unfold f_X12_movesOf at h
  intro H locs ls hH hl
  refine lv_iconst (v := 0) hx hb dX12_movesOf_0 (by decide) ?_
  refine lv_istore_n (lv' := [(2, .int 0), (0, .ref (z + 281)), (1, .int x1)]) hx hb dX12_movesOf_1 rfl hl (by decide) rfl (fun ls hl => ?_)
  refine lv_iconst (v := 4) hx hb dX12_movesOf_2 (by decide) ?_
  refine lv_istore_n (lv' := [(3, .int 4), (2, .int 0), (0, .ref (z + 281)), (1, .int x1)]) hx hb dX12_movesOf_3 rfl hl (by decide) rfl (fun ls hl => ?_)
  exact w_X12_movesOf_4 O hr hlk FU _ _ _ _ h _ _ _ hH (lv_sub hl [2, 3, 1, 0] rfl)
set_option maxHeartbeats 4000000 in
theorem c_X12_movesOf {l : Launch} {G : va_G} {tA : Nat → ClassId} {z : Nat} {E : Ex} {x1 : Int32} {D D' : Dm} {r : Int32} (h : f_X12_movesOf x1 D = some (r, D')) : CtI l yX12_movesOf cX12_movesOf 4 (some .int) G tA z E 2 0 0 [.ref (z + 281), .int x1] LAY D r LAY D' :=
  ct_BI (by decide +kernel) (Nat.le_of_ble_eq_true rfl) (fun _ _ _ _ _ _ _ _ O hr hlk => w_X12_movesOf O hr hlk _ _ h)
set_option maxHeartbeats 4000000 in
theorem w_X12_resets_54_b {G : va_G} {tA : Nat → ClassId} {z : Nat} {E : Ex} {p : Program} {l : Launch} {e : Env} {s : State} {m : MethodId} {args : Array Value} {below : List Frame} {meth : Method} {c : Code} {D' : Dm} (O : Ok G tA z E cX12_resets RX12 2 p s m args c) (hr : meth.sig.returnType = none) (hlk : meth.locks = false) {k54 : Int32 → Dm → Option Dm} (hk54 : ∀ (x1 : Int32) (D : Dm), k54 x1 D = some D' → BV G tA z E p l e (rmC 1 0 0) s m args below meth c LAY D D' 2 54 [(0, .ref (z + 281)), (1, .int x1)] []) (x1 : Int32) (D : Dm) (h : f_X12_resets_54_b k54 x1 D = some D') : BV G tA z E p l e (rmC 1 0 0) s m args below meth c LAY D D' 2 54 [(0, .ref (z + 281)), (1, .int x1)] [] := by
  obtain ⟨hx, hb, -, hown, hts, -⟩ := id O
  unfold f_X12_resets_54_b at h
  intro H locs ls hH hl
  refine lv_iload_n hx hb dX12_resets_54 rfl (lv_at hl 1 rfl) ?_
  refine lv_bipush (v := 80) hx hb dX12_resets_55 (by decide) ?_
  refine lv_icmp_ge (tgt := 80) hx hb dX12_resets_57 (by decide) (fun c1 => ?_) (fun c1 => ?_)
  · have h := it_pos h c1
    refine lv_aload_n hx hb dX12_resets_80 rfl (lv_at hl 0 rfl) ?_
    refine lv_iconst (v := 0) hx hb dX12_resets_81 (by decide) ?_
    obtain ⟨D2, e3, h⟩ := lt_some h
    refine h_putz O hH ly_281 rfl fl_X12_316 zb_0 e3 dX12_resets_82 (fun H locs hH => ?_)
    obtain rfl := ret_v h
    exact h_vret O hr hlk hH dX12_resets_85
  · have h := it_neg h c1
    refine lv_aload_n hx hb dX12_resets_60 rfl (lv_at hl 0 rfl) ?_
    refine h_getr O hH ly_281 rfl fl_X12_63 dX12_resets_61 ?_
    refine lv_iload_n hx hb dX12_resets_64 rfl (lv_at hl 1 rfl) ?_
    refine lv_iconst (v := 0) hx hb dX12_resets_65 (by decide) ?_
    obtain ⟨g4, h⟩ := gd_some h
    obtain ⟨D5, e6, h⟩ := lt_some h
    refine h_iast O hH ly_297 g4 e6 dX12_resets_66 (fun H locs hH => ?_)
    refine lv_aload_n hx hb dX12_resets_67 rfl (lv_at hl 0 rfl) ?_
    refine h_getr O hH ly_281 rfl fl_X12_66 dX12_resets_68 ?_
    refine lv_iload_n hx hb dX12_resets_71 rfl (lv_at hl 1 rfl) ?_
    refine lv_iconst (v := 0) hx hb dX12_resets_72 (by decide) ?_
    obtain ⟨g7, h⟩ := gd_some h
    obtain ⟨D8, e9, h⟩ := lt_some h
    refine h_iast O hH ly_298 g7 e9 dX12_resets_73 (fun H locs hH => ?_)
    obtain ⟨y10, e11, h⟩ := lt_some h
    refine lv_iinc (v := y10) (lv' := [(1, .int y10), (0, .ref (z + 281))]) hx hb dX12_resets_74 hl (k := 1) rfl (by rw [e11]; rfl) (by decide) rfl (fun ls hl => ?_)
    refine lv_goto (tgt := 54) hx hb dX12_resets_77 (by decide) ?_
    exact hk54 _ _ h _ _ _ hH (lv_sub hl [1, 0] rfl)
set_option maxHeartbeats 4000000 in
theorem w_X12_resets_54 {G : va_G} {tA : Nat → ClassId} {z : Nat} {E : Ex} {p : Program} {l : Launch} {e : Env} {s : State} {m : MethodId} {args : Array Value} {below : List Frame} {meth : Method} {c : Code} {D' : Dm} (O : Ok G tA z E cX12_resets RX12 2 p s m args c) (hr : meth.sig.returnType = none) (hlk : meth.locks = false) : ∀ (n : Nat) (x1 : Int32) (D : Dm) (h : f_X12_resets_54 n x1 D = some D'), BV G tA z E p l e (rmC 1 0 0) s m args below meth c LAY D D' 2 54 [(0, .ref (z + 281)), (1, .int x1)] [] := by
  intro n
  induction n with
  | zero => intro x1 D h; exact no_some h
  | succ n ih => intro x1 D h; exact w_X12_resets_54_b O hr hlk (fun x1 D h => ih x1 D h) x1 D h
set_option maxHeartbeats 4000000 in
theorem w_X12_resets_26_b {G : va_G} {tA : Nat → ClassId} {z : Nat} {E : Ex} {p : Program} {l : Launch} {e : Env} {s : State} {m : MethodId} {args : Array Value} {below : List Frame} {meth : Method} {c : Code} {D' : Dm} (O : Ok G tA z E cX12_resets RX12 2 p s m args c) (hr : meth.sig.returnType = none) (hlk : meth.locks = false) {k26 : Int32 → Dm → Option Dm} (hk26 : ∀ (x1 : Int32) (D : Dm), k26 x1 D = some D' → BV G tA z E p l e (rmC 1 0 0) s m args below meth c LAY D D' 2 26 [(0, .ref (z + 281)), (1, .int x1)] []) (x1 : Int32) (D : Dm) (h : f_X12_resets_26_b k26 x1 D = some D') : BV G tA z E p l e (rmC 1 0 0) s m args below meth c LAY D D' 2 26 [(0, .ref (z + 281)), (1, .int x1)] [] := by
  obtain ⟨hx, hb, -, hown, hts, -⟩ := id O
  unfold f_X12_resets_26_b at h
  intro H locs ls hH hl
  refine lv_iload_n hx hb dX12_resets_26 rfl (lv_at hl 1 rfl) ?_
  refine lv_bipush (v := 10) hx hb dX12_resets_27 (by decide) ?_
  refine lv_icmp_ge (tgt := 52) hx hb dX12_resets_29 (by decide) (fun c1 => ?_) (fun c1 => ?_)
  · have h := it_pos h c1
    refine lv_iconst (v := 0) hx hb dX12_resets_52 (by decide) ?_
    refine lv_istore_n (lv' := [(1, .int 0), (0, .ref (z + 281))]) hx hb dX12_resets_53 rfl hl (by decide) rfl (fun ls hl => ?_)
    exact w_X12_resets_54 O hr hlk FU _ _ h _ _ _ hH (lv_sub hl [1, 0] rfl)
  · have h := it_neg h c1
    refine lv_aload_n hx hb dX12_resets_32 rfl (lv_at hl 0 rfl) ?_
    refine h_getr O hH ly_281 rfl fl_X12_57 dX12_resets_33 ?_
    refine lv_iload_n hx hb dX12_resets_36 rfl (lv_at hl 1 rfl) ?_
    refine lv_iconst (v := 0) hx hb dX12_resets_37 (by decide) ?_
    obtain ⟨g2, h⟩ := gd_some h
    obtain ⟨D3, e4, h⟩ := lt_some h
    refine h_iast O hH ly_295 g2 e4 dX12_resets_38 (fun H locs hH => ?_)
    refine lv_aload_n hx hb dX12_resets_39 rfl (lv_at hl 0 rfl) ?_
    refine h_getr O hH ly_281 rfl fl_X12_60 dX12_resets_40 ?_
    refine lv_iload_n hx hb dX12_resets_43 rfl (lv_at hl 1 rfl) ?_
    refine lv_iconst (v := 0) hx hb dX12_resets_44 (by decide) ?_
    obtain ⟨g5, h⟩ := gd_some h
    obtain ⟨D6, e7, h⟩ := lt_some h
    refine h_iast O hH ly_296 g5 e7 dX12_resets_45 (fun H locs hH => ?_)
    obtain ⟨y8, e9, h⟩ := lt_some h
    refine lv_iinc (v := y8) (lv' := [(1, .int y8), (0, .ref (z + 281))]) hx hb dX12_resets_46 hl (k := 1) rfl (by rw [e9]; rfl) (by decide) rfl (fun ls hl => ?_)
    refine lv_goto (tgt := 26) hx hb dX12_resets_49 (by decide) ?_
    exact hk26 _ _ h _ _ _ hH (lv_sub hl [1, 0] rfl)
set_option maxHeartbeats 4000000 in
theorem w_X12_resets_26 {G : va_G} {tA : Nat → ClassId} {z : Nat} {E : Ex} {p : Program} {l : Launch} {e : Env} {s : State} {m : MethodId} {args : Array Value} {below : List Frame} {meth : Method} {c : Code} {D' : Dm} (O : Ok G tA z E cX12_resets RX12 2 p s m args c) (hr : meth.sig.returnType = none) (hlk : meth.locks = false) : ∀ (n : Nat) (x1 : Int32) (D : Dm) (h : f_X12_resets_26 n x1 D = some D'), BV G tA z E p l e (rmC 1 0 0) s m args below meth c LAY D D' 2 26 [(0, .ref (z + 281)), (1, .int x1)] [] := by
  intro n
  induction n with
  | zero => intro x1 D h; exact no_some h
  | succ n ih => intro x1 D h; exact w_X12_resets_26_b O hr hlk (fun x1 D h => ih x1 D h) x1 D h
set_option maxHeartbeats 4000000 in
theorem w_X12_resets {G : va_G} {tA : Nat → ClassId} {z : Nat} {E : Ex} {p : Program} {l : Launch} {e : Env} {s : State} {m : MethodId} {args : Array Value} {below : List Frame} {meth : Method} {c : Code} {D' : Dm} (O : Ok G tA z E cX12_resets RX12 2 p s m args c) (hr : meth.sig.returnType = none) (hlk : meth.locks = false)  (D : Dm) (h : f_X12_resets  D = some D') : BV G tA z E p l e (rmC 1 0 0) s m args below meth c LAY D D' 2 0 [(0, .ref (z + 281))] [] := by
  obtain ⟨hx, hb, -, hown, hts, -⟩ := id O
  unfold f_X12_resets at h
  intro H locs ls hH hl
  refine lv_aload_n hx hb dX12_resets_0 rfl (lv_at hl 0 rfl) ?_
  refine lv_iconst (v := 1) hx hb dX12_resets_1 (by decide) ?_
  obtain ⟨D1, e2, h⟩ := lt_some h
  refine h_puti O hH ly_281 rfl fl_X12_310 e2 dX12_resets_2 (fun H locs hH => ?_)
  refine lv_aload_n hx hb dX12_resets_5 rfl (lv_at hl 0 rfl) ?_
  refine lv_iconst (v := 1) hx hb dX12_resets_6 (by decide) ?_
  obtain ⟨D3, e4, h⟩ := lt_some h
  refine h_puti O hH ly_281 rfl fl_X12_313 e4 dX12_resets_7 (fun H locs hH => ?_)
  refine lv_aload_n hx hb dX12_resets_10 rfl (lv_at hl 0 rfl) ?_
  refine h_getr O hH ly_281 rfl fl_X12_39 dX12_resets_11 ?_
  refine lv_iconst (v := 0) hx hb dX12_resets_14 (by decide) ?_
  refine lv_iconst (v := 0) hx hb dX12_resets_15 (by decide) ?_
  obtain ⟨D6, e7, h⟩ := lt_some h
  refine h_iastk (k := 0) O hH ly_289 (by decide) (by decide) (by decide) e7 dX12_resets_16 (fun H locs hH => ?_)
  refine lv_aload_n hx hb dX12_resets_17 rfl (lv_at hl 0 rfl) ?_
  refine h_getr O hH ly_281 rfl fl_X12_48 dX12_resets_18 ?_
  refine lv_iconst (v := 0) hx hb dX12_resets_21 (by decide) ?_
  refine lv_iconst (v := 0) hx hb dX12_resets_22 (by decide) ?_
  obtain ⟨D9, e10, h⟩ := lt_some h
  refine h_iastk (k := 0) O hH ly_292 (by decide) (by decide) (by decide) e10 dX12_resets_23 (fun H locs hH => ?_)
  refine lv_iconst (v := 0) hx hb dX12_resets_24 (by decide) ?_
  refine lv_istore_n (lv' := [(1, .int 0), (0, .ref (z + 281))]) hx hb dX12_resets_25 rfl hl (by decide) rfl (fun ls hl => ?_)
  exact w_X12_resets_26 O hr hlk FU _ _ h _ _ _ hH (lv_sub hl [1, 0] rfl)
set_option maxHeartbeats 4000000 in
theorem c_X12_resets {l : Launch} {G : va_G} {tA : Nat → ClassId} {z : Nat} {E : Ex}  {D D' : Dm} (h : f_X12_resets  D = some D') : CtV l yX12_resets cX12_resets 2 G tA z E 1 0 0 [.ref (z + 281)] LAY D LAY D' :=
  ct_BV (by decide +kernel) (Nat.le_of_ble_eq_true rfl) (fun _ _ _ _ _ _ _ _ O hr hlk => w_X12_resets O hr hlk  _ h)
set_option maxHeartbeats 4000000 in
theorem w_X12_machine_122 {G : va_G} {tA : Nat → ClassId} {z : Nat} {E : Ex} {p : Program} {l : Launch} {e : Env} {s : State} {m : MethodId} {args : Array Value} {below : List Frame} {meth : Method} {c : Code} {r : Int32} {D' : Dm} (O : Ok G tA z E cX12_machine RX12 4 p s m args c) (hr : meth.sig.returnType = some .int) (hlk : meth.locks = false) (x1 : Int32) (D : Dm) (h : f_X12_machine_122 x1 D = some (r, D')) : BI G tA z E p l e (rmC 10 0 0) s m args below meth c LAY D r D' 4 122 [(0, .ref (z + 281)), (1, .int x1)] [] := by
  obtain ⟨hx, hb, -, hown, hts, -⟩ := id O
  unfold f_X12_machine_122 at h
  intro H locs ls hH hl
  refine lv_aload_n hx hb dX12_machine_122 rfl (lv_at hl 0 rfl) ?_
  refine lv_iload_n hx hb dX12_machine_123 rfl (lv_at hl 1 rfl) ?_
  obtain ⟨y3, D1, hc2, h⟩ := bI_some h
  refine h_callVi (As := [.int x1]) (rest := []) O hH (c_X12_movesOf hc2) ml_X12_256 ly_281 rfl rfl hl.1 rfl ⟨Nat.le_of_ble_eq_true rfl, Nat.le_of_ble_eq_true rfl⟩ (Nat.le_of_ble_eq_true rfl) dX12_machine_124 (fun H locs hH => ?_)
  obtain ⟨rfl, rfl⟩ := ret_i h
  exact h_iret O hr hlk hH dX12_machine_127
set_option maxHeartbeats 4000000 in
theorem w_X12_machine_85_b {G : va_G} {tA : Nat → ClassId} {z : Nat} {E : Ex} {p : Program} {l : Launch} {e : Env} {s : State} {m : MethodId} {args : Array Value} {below : List Frame} {meth : Method} {c : Code} {r : Int32} {D' : Dm} (O : Ok G tA z E cX12_machine RX12 4 p s m args c) (hr : meth.sig.returnType = some .int) (hlk : meth.locks = false) {k85 : Int32 → Int32 → Dm → Option (Int32 × Dm)} (hk85 : ∀ (x1 : Int32) (x3 : Int32) (D : Dm), k85 x1 x3 D = some (r, D') → BI G tA z E p l e (rmC 10 0 0) s m args below meth c LAY D r D' 4 85 [(0, .ref (z + 281)), (1, .int x1), (3, .int x3)] []) (x1 : Int32) (x3 : Int32) (D : Dm) (h : f_X12_machine_85_b k85 x1 x3 D = some (r, D')) : BI G tA z E p l e (rmC 10 0 0) s m args below meth c LAY D r D' 4 85 [(0, .ref (z + 281)), (1, .int x1), (3, .int x3)] [] := by
  obtain ⟨hx, hb, -, hown, hts, -⟩ := id O
  unfold f_X12_machine_85_b at h
  intro H locs ls hH hl
  refine lv_iload_n hx hb dX12_machine_85 rfl (lv_at hl 2 rfl) ?_
  refine lv_bipush (v := 94) hx hb dX12_machine_86 (by decide) ?_
  refine lv_icmp_ge (tgt := 114) hx hb dX12_machine_88 (by decide) (fun c1 => ?_) (fun c1 => ?_)
  · have h := it_pos h c1
    refine lv_iload_n hx hb dX12_machine_114 rfl (lv_at hl 1 rfl) ?_
    refine lv_if_ne (tgt := 122) hx hb dX12_machine_115 (by decide) (fun c2 => ?_) (fun c2 => ?_)
    · have h := it_neg h c2
      exact w_X12_machine_122 O hr hlk _ _ h _ _ _ hH (lv_sub hl [0, 1] rfl)
    · have h := it_pos h c2
      refine lv_aload_n hx hb dX12_machine_118 rfl (lv_at hl 0 rfl) ?_
      obtain ⟨D3, hc4, h⟩ := bV_some h
      refine h_callVv (As := []) (rest := []) O hH (c_X12_resets hc4) ml_X12_132 ly_281 rfl rfl hl.1 rfl ⟨Nat.le_of_ble_eq_true rfl, Nat.le_of_ble_eq_true rfl⟩ (Nat.le_of_ble_eq_true rfl) dX12_machine_119 (fun H locs hH => ?_)
      exact w_X12_machine_122 O hr hlk _ _ h _ _ _ hH (lv_sub hl [0, 1] rfl)
  · have h := it_neg h c1
    refine lv_aload_n hx hb dX12_machine_91 rfl (lv_at hl 0 rfl) ?_
    refine h_getr O hH ly_281 rfl fl_X12_13 dX12_machine_92 ?_
    refine lv_bipush (v := 94) hx hb dX12_machine_95 (by decide) ?_
    refine lv_iload_n hx hb dX12_machine_97 rfl (lv_at hl 1 rfl) ?_
    refine lv_imul hx hb dX12_machine_98 ?_
    refine lv_iload_n hx hb dX12_machine_99 rfl (lv_at hl 2 rfl) ?_
    refine lv_iadd hx hb dX12_machine_100 ?_
    refine lv_aload_n hx hb dX12_machine_101 rfl (lv_at hl 0 rfl) ?_
    refine h_getr O hH ly_281 rfl fl_X12_17 dX12_machine_102 ?_
    refine lv_iload_n hx hb dX12_machine_105 rfl (lv_at hl 2 rfl) ?_
    obtain ⟨g5, h⟩ := gd_some h
    refine h_iald O hH ly_283 g5 dX12_machine_106 ?_
    obtain ⟨g6, h⟩ := gd_some h
    obtain ⟨D7, e8, h⟩ := lt_some h
    refine h_iast O hH ly_282 g6 e8 dX12_machine_107 (fun H locs hH => ?_)
    obtain ⟨y9, e10, h⟩ := lt_some h
    refine lv_iinc (v := y9) (lv' := [(3, .int y9), (0, .ref (z + 281)), (1, .int x1)]) hx hb dX12_machine_108 hl (k := 2) rfl (by rw [e10]; rfl) (by decide) rfl (fun ls hl => ?_)
    refine lv_goto (tgt := 85) hx hb dX12_machine_111 (by decide) ?_
    exact hk85 _ _ _ h _ _ _ hH (lv_sub hl [1, 2, 0] rfl)
set_option maxHeartbeats 4000000 in
theorem w_X12_machine_85 {G : va_G} {tA : Nat → ClassId} {z : Nat} {E : Ex} {p : Program} {l : Launch} {e : Env} {s : State} {m : MethodId} {args : Array Value} {below : List Frame} {meth : Method} {c : Code} {r : Int32} {D' : Dm} (O : Ok G tA z E cX12_machine RX12 4 p s m args c) (hr : meth.sig.returnType = some .int) (hlk : meth.locks = false) : ∀ (n : Nat) (x1 : Int32) (x3 : Int32) (D : Dm) (h : f_X12_machine_85 n x1 x3 D = some (r, D')), BI G tA z E p l e (rmC 10 0 0) s m args below meth c LAY D r D' 4 85 [(0, .ref (z + 281)), (1, .int x1), (3, .int x3)] [] := by
  intro n
  induction n with
  | zero => intro x1 x3 D h; exact no_some h
  | succ n ih => intro x1 x3 D h; exact w_X12_machine_85_b O hr hlk (fun x1 x3 D h => ih x1 x3 D h) x1 x3 D h
set_option maxHeartbeats 4000000 in
theorem w_X12_machine_54_b {G : va_G} {tA : Nat → ClassId} {z : Nat} {E : Ex} {p : Program} {l : Launch} {e : Env} {s : State} {m : MethodId} {args : Array Value} {below : List Frame} {meth : Method} {c : Code} {r : Int32} {D' : Dm} (O : Ok G tA z E cX12_machine RX12 4 p s m args c) (hr : meth.sig.returnType = some .int) (hlk : meth.locks = false) {k54 : Int32 → Dm → Option (Int32 × Dm)} (hk54 : ∀ (x1 : Int32) (D : Dm), k54 x1 D = some (r, D') → BI G tA z E p l e (rmC 10 0 0) s m args below meth c LAY D r D' 4 54 [(0, .ref (z + 281)), (1, .int x1)] []) (x1 : Int32) (D : Dm) (h : f_X12_machine_54_b k54 x1 D = some (r, D')) : BI G tA z E p l e (rmC 10 0 0) s m args below meth c LAY D r D' 4 54 [(0, .ref (z + 281)), (1, .int x1)] [] := by
  obtain ⟨hx, hb, -, hown, hts, -⟩ := id O
  unfold f_X12_machine_54_b at h
  intro H locs ls hH hl
  refine lv_aload_n hx hb dX12_machine_54 rfl (lv_at hl 0 rfl) ?_
  obtain ⟨y3, D1, hc2, h⟩ := bI_some h
  refine h_callVi (As := []) (rest := []) O hH (c_X12_isOver hc2) ml_X12_249 ly_281 rfl rfl hl.1 rfl ⟨Nat.le_of_ble_eq_true rfl, Nat.le_of_ble_eq_true rfl⟩ (Nat.le_of_ble_eq_true rfl) dX12_machine_55 (fun H locs hH => ?_)
  refine lv_if_ne (tgt := 68) hx hb dX12_machine_58 (by decide) (fun c4 => ?_) (fun c4 => ?_)
  · have h := it_neg h c4
    refine lv_aload_n hx hb dX12_machine_68 rfl (lv_at hl 0 rfl) ?_
    refine h_geti O hH ly_281 rfl fl_X12_168 dX12_machine_69 ?_
    refine lv_if_eq (tgt := 83) hx hb dX12_machine_72 (by decide) (fun c5 => ?_) (fun c5 => ?_)
    · have h := it_pos h c5
      refine lv_iconst (v := 0) hx hb dX12_machine_83 (by decide) ?_
      refine lv_istore_n (lv' := [(3, .int 0), (0, .ref (z + 281)), (1, .int x1)]) hx hb dX12_machine_84 rfl hl (by decide) rfl (fun ls hl => ?_)
      exact w_X12_machine_85 O hr hlk FU _ _ _ h _ _ _ hH (lv_sub hl [1, 2, 0] rfl)
    · have h := it_neg h c5
      refine lv_bipush (v := (-30)) hx hb dX12_machine_75 (by decide) ?_
      refine lv_aload_n hx hb dX12_machine_77 rfl (lv_at hl 0 rfl) ?_
      refine h_geti O hH ly_281 rfl fl_X12_168 dX12_machine_78 ?_
      refine lv_isub hx hb dX12_machine_81 ?_
      obtain ⟨rfl, rfl⟩ := ret_i h
      exact h_iret O hr hlk hH dX12_machine_82
  · have h := it_pos h c4
    refine lv_aload_n hx hb dX12_machine_61 rfl (lv_at hl 0 rfl) ?_
    obtain ⟨D6, hc7, h⟩ := bV_some h
    refine h_callVv (As := []) (rest := []) O hH (c_X12_line hc7) ml_X12_253 ly_281 rfl rfl hl.1 rfl ⟨Nat.le_of_ble_eq_true rfl, Nat.le_of_ble_eq_true rfl⟩ (Nat.le_of_ble_eq_true rfl) dX12_machine_62 (fun H locs hH => ?_)
    refine lv_goto (tgt := 54) hx hb dX12_machine_65 (by decide) ?_
    exact hk54 _ _ h _ _ _ hH (lv_sub hl [0, 1] rfl)
set_option maxHeartbeats 4000000 in
theorem w_X12_machine_54 {G : va_G} {tA : Nat → ClassId} {z : Nat} {E : Ex} {p : Program} {l : Launch} {e : Env} {s : State} {m : MethodId} {args : Array Value} {below : List Frame} {meth : Method} {c : Code} {r : Int32} {D' : Dm} (O : Ok G tA z E cX12_machine RX12 4 p s m args c) (hr : meth.sig.returnType = some .int) (hlk : meth.locks = false) : ∀ (n : Nat) (x1 : Int32) (D : Dm) (h : f_X12_machine_54 n x1 D = some (r, D')), BI G tA z E p l e (rmC 10 0 0) s m args below meth c LAY D r D' 4 54 [(0, .ref (z + 281)), (1, .int x1)] [] := by
  intro n
  induction n with
  | zero => intro x1 D h; exact no_some h
  | succ n ih => intro x1 D h; exact w_X12_machine_54_b O hr hlk (fun x1 D h => ih x1 D h) x1 D h
set_option maxHeartbeats 4000000 in
theorem w_X12_machine {G : va_G} {tA : Nat → ClassId} {z : Nat} {E : Ex} {p : Program} {l : Launch} {e : Env} {s : State} {m : MethodId} {args : Array Value} {below : List Frame} {meth : Method} {c : Code} {r : Int32} {D' : Dm} (O : Ok G tA z E cX12_machine RX12 4 p s m args c) (hr : meth.sig.returnType = some .int) (hlk : meth.locks = false) (x1 : Int32) (x2 : Int32) (D : Dm) (h : f_X12_machine x1 x2 D = some (r, D')) : BI G tA z E p l e (rmC 10 0 0) s m args below meth c LAY D r D' 4 0 [(0, .ref (z + 281)), (1, .int x1), (2, .int x2)] [] := by
  obtain ⟨hx, hb, -, hown, hts, -⟩ := id O
  unfold f_X12_machine at h
  intro H locs ls hH hl
  refine lv_aload_n hx hb dX12_machine_0 rfl (lv_at hl 0 rfl) ?_
  refine lv_iconst (v := 0) hx hb dX12_machine_1 (by decide) ?_
  obtain ⟨D1, e2, h⟩ := lt_some h
  refine h_puti O hH ly_281 rfl fl_X12_1 e2 dX12_machine_2 (fun H locs hH => ?_)
  refine lv_iload_n hx hb dX12_machine_5 rfl (lv_at hl 1 rfl) ?_
  obtain ⟨y5, D3, hc4, h⟩ := bI_some h
  refine h_callSi (As := [.int x1]) (rest := []) O hH (c_X12_isMachine hc4) ml_X12_243 rfl hl.1 rfl ⟨Nat.le_of_ble_eq_true rfl, Nat.le_of_ble_eq_true rfl⟩ (Nat.le_of_ble_eq_true rfl) dX12_machine_6 (fun H locs hH => ?_)
  refine lv_if_ne (tgt := 15) hx hb dX12_machine_9 (by decide) (fun c6 => ?_) (fun c6 => ?_)
  · have h := it_neg h c6
    refine lv_iload_n hx hb dX12_machine_15 rfl (lv_at hl 2 rfl) ?_
    refine lv_i2l hx hb dX12_machine_16 rfl ?_
    refine lv_lconst (v := 0) hx hb dX12_machine_17 (by decide) ?_
    refine lv_aload_n hx hb dX12_machine_18 rfl (lv_at hl 0 rfl) ?_
    refine h_geti O hH ly_281 rfl fl_X12_159 dX12_machine_19 ?_
    refine lv_i2l hx hb dX12_machine_22 rfl ?_
    obtain ⟨y9, D7, hc8, h⟩ := bI_some h
    refine h_callSi (As := [.long (Int32.toInt64 x2), .long 0, .long (Int32.toInt64 (D3 281 7))]) (rest := []) O hH (c_X12_isIn hc8) ml_X12_182 rfl hl.1 rfl ⟨Nat.le_of_ble_eq_true rfl, Nat.le_of_ble_eq_true rfl⟩ (Nat.le_of_ble_eq_true rfl) dX12_machine_23 (fun H locs hH => ?_)
    refine lv_if_ne (tgt := 32) hx hb dX12_machine_26 (by decide) (fun c10 => ?_) (fun c10 => ?_)
    · have h := it_neg h c10
      refine lv_aload_n hx hb dX12_machine_32 rfl (lv_at hl 0 rfl) ?_
      refine lv_iload_n hx hb dX12_machine_33 rfl (lv_at hl 2 rfl) ?_
      obtain ⟨D11, hc12, h⟩ := bV_some h
      refine h_callVv (As := [.int x2]) (rest := []) O hH (c_X12_begins hc12) ml_X12_246 ly_281 rfl rfl hl.1 rfl ⟨Nat.le_of_ble_eq_true rfl, Nat.le_of_ble_eq_true rfl⟩ (Nat.le_of_ble_eq_true rfl) dX12_machine_34 (fun H locs hH => ?_)
      refine lv_aload_n hx hb dX12_machine_37 rfl (lv_at hl 0 rfl) ?_
      refine h_getr O hH ly_281 rfl fl_X12_17 dX12_machine_38 ?_
      obtain ⟨D13, hc14, h⟩ := bV_some h
      refine h_callSv (As := [.ref (z + 283)]) (rest := []) O hH (c_X12_empties ly_283 hc14) ml_X12_128 rfl hl.1 rfl ⟨Nat.le_of_ble_eq_true rfl, Nat.le_of_ble_eq_true rfl⟩ (Nat.le_of_ble_eq_true rfl) dX12_machine_41 (fun H locs hH => ?_)
      refine lv_aload_n hx hb dX12_machine_44 rfl (lv_at hl 0 rfl) ?_
      refine lv_iconst (v := 0) hx hb dX12_machine_45 (by decide) ?_
      obtain ⟨D15, e16, h⟩ := lt_some h
      refine h_puti O hH ly_281 rfl fl_X12_219 e16 dX12_machine_46 (fun H locs hH => ?_)
      refine lv_aload_n hx hb dX12_machine_49 rfl (lv_at hl 0 rfl) ?_
      refine lv_iconst (v := 0) hx hb dX12_machine_50 (by decide) ?_
      obtain ⟨D17, e18, h⟩ := lt_some h
      refine h_putz O hH ly_281 rfl fl_X12_215 zb_0 e18 dX12_machine_51 (fun H locs hH => ?_)
      exact w_X12_machine_54 O hr hlk FU _ _ h _ _ _ hH (lv_sub hl [0, 1] rfl)
    · have h := it_pos h c10
      refine lv_bipush (v := (-3)) hx hb dX12_machine_29 (by decide) ?_
      obtain ⟨rfl, rfl⟩ := ret_i h
      exact h_iret O hr hlk hH dX12_machine_31
  · have h := it_pos h c6
    refine lv_bipush (v := (-2)) hx hb dX12_machine_12 (by decide) ?_
    obtain ⟨rfl, rfl⟩ := ret_i h
    exact h_iret O hr hlk hH dX12_machine_14
set_option maxHeartbeats 4000000 in
theorem c_X12_machine {l : Launch} {G : va_G} {tA : Nat → ClassId} {z : Nat} {E : Ex} {x1 : Int32} {x2 : Int32} {D D' : Dm} {r : Int32} (h : f_X12_machine x1 x2 D = some (r, D')) : CtI l yX12_machine cX12_machine 4 (some .int) G tA z E 10 0 0 [.ref (z + 281), .int x1, .int x2] LAY D r LAY D' :=
  ct_BI (by decide +kernel) (Nat.le_of_ble_eq_true rfl) (fun _ _ _ _ _ _ _ _ O hr hlk => w_X12_machine O hr hlk _ _ _ h)
set_option maxHeartbeats 4000000 in
theorem w_X12_word_113_b {G : va_G} {tA : Nat → ClassId} {z : Nat} {E : Ex} {p : Program} {l : Launch} {e : Env} {s : State} {m : MethodId} {args : Array Value} {below : List Frame} {meth : Method} {c : Code} {r : Int32} {D' : Dm} (O : Ok G tA z E cX12_word RX12 6 p s m args c) (hr : meth.sig.returnType = some .int) (hlk : meth.locks = false) {k113 : Int32 → Int32 → Dm → Option (Int32 × Dm)} (hk113 : ∀ (x2 : Int32) (x3 : Int32) (D : Dm), k113 x2 x3 D = some (r, D') → BI G tA z E p l e (rmC 8 0 0) s m args below meth c LAY D r D' 6 113 [(0, .ref (z + 281)), (2, .int x2), (3, .int x3)] []) (x2 : Int32) (x3 : Int32) (D : Dm) (h : f_X12_word_113_b k113 x2 x3 D = some (r, D')) : BI G tA z E p l e (rmC 8 0 0) s m args below meth c LAY D r D' 6 113 [(0, .ref (z + 281)), (2, .int x2), (3, .int x3)] [] := by
  obtain ⟨hx, hb, -, hown, hts, -⟩ := id O
  unfold f_X12_word_113_b at h
  intro H locs ls hH hl
  refine lv_iload_n hx hb dX12_word_113 rfl (lv_at hl 2 rfl) ?_
  refine lv_iload_n hx hb dX12_word_114 rfl (lv_at hl 1 rfl) ?_
  refine lv_icmp_ge (tgt := 148) hx hb dX12_word_115 (by decide) (fun c1 => ?_) (fun c1 => ?_)
  · have h := it_pos h c1
    refine lv_iload_n hx hb dX12_word_148 rfl (lv_at hl 1 rfl) ?_
    obtain ⟨rfl, rfl⟩ := ret_i h
    exact h_iret O hr hlk hH dX12_word_149
  · have h := it_neg h c1
    refine lv_aload_n hx hb dX12_word_118 rfl (lv_at hl 0 rfl) ?_
    refine h_getr O hH ly_281 rfl fl_X12_27 dX12_word_119 ?_
    refine lv_iload_n hx hb dX12_word_122 rfl (lv_at hl 2 rfl) ?_
    refine lv_aload_n hx hb dX12_word_123 rfl (lv_at hl 0 rfl) ?_
    refine h_getr O hH ly_281 rfl fl_X12_33 dX12_word_124 ?_
    refine lv_iload_n hx hb dX12_word_127 rfl (lv_at hl 2 rfl) ?_
    obtain ⟨g2, h⟩ := gd_some h
    refine h_iald O hH ly_287 g2 dX12_word_128 ?_
    obtain ⟨g3, h⟩ := gd_some h
    obtain ⟨D4, e5, h⟩ := lt_some h
    refine h_iast O hH ly_285 g3 e5 dX12_word_129 (fun H locs hH => ?_)
    refine lv_aload_n hx hb dX12_word_130 rfl (lv_at hl 0 rfl) ?_
    refine h_getr O hH ly_281 rfl fl_X12_30 dX12_word_131 ?_
    refine lv_iload_n hx hb dX12_word_134 rfl (lv_at hl 2 rfl) ?_
    refine lv_aload_n hx hb dX12_word_135 rfl (lv_at hl 0 rfl) ?_
    refine h_getr O hH ly_281 rfl fl_X12_36 dX12_word_136 ?_
    refine lv_iload_n hx hb dX12_word_139 rfl (lv_at hl 2 rfl) ?_
    obtain ⟨g6, h⟩ := gd_some h
    refine h_iald O hH ly_288 g6 dX12_word_140 ?_
    obtain ⟨g7, h⟩ := gd_some h
    obtain ⟨D8, e9, h⟩ := lt_some h
    refine h_iast O hH ly_286 g7 e9 dX12_word_141 (fun H locs hH => ?_)
    obtain ⟨y10, e11, h⟩ := lt_some h
    refine lv_iinc (v := y10) (lv' := [(3, .int y10), (0, .ref (z + 281)), (2, .int x2)]) hx hb dX12_word_142 hl (k := 2) rfl (by rw [e11]; rfl) (by decide) rfl (fun ls hl => ?_)
    refine lv_goto (tgt := 113) hx hb dX12_word_145 (by decide) ?_
    exact hk113 _ _ _ h _ _ _ hH (lv_sub hl [1, 2, 0] rfl)
set_option maxHeartbeats 4000000 in
theorem w_X12_word_113 {G : va_G} {tA : Nat → ClassId} {z : Nat} {E : Ex} {p : Program} {l : Launch} {e : Env} {s : State} {m : MethodId} {args : Array Value} {below : List Frame} {meth : Method} {c : Code} {r : Int32} {D' : Dm} (O : Ok G tA z E cX12_word RX12 6 p s m args c) (hr : meth.sig.returnType = some .int) (hlk : meth.locks = false) : ∀ (n : Nat) (x2 : Int32) (x3 : Int32) (D : Dm) (h : f_X12_word_113 n x2 x3 D = some (r, D')), BI G tA z E p l e (rmC 8 0 0) s m args below meth c LAY D r D' 6 113 [(0, .ref (z + 281)), (2, .int x2), (3, .int x3)] [] := by
  intro n
  induction n with
  | zero => intro x2 x3 D h; exact no_some h
  | succ n ih => intro x2 x3 D h; exact w_X12_word_113_b O hr hlk (fun x2 x3 D h => ih x2 x3 D h) x2 x3 D h
set_option maxHeartbeats 4000000 in
theorem w_X12_word_60 {G : va_G} {tA : Nat → ClassId} {z : Nat} {E : Ex} {p : Program} {l : Launch} {e : Env} {s : State} {m : MethodId} {args : Array Value} {below : List Frame} {meth : Method} {c : Code} {r : Int32} {D' : Dm} (O : Ok G tA z E cX12_word RX12 6 p s m args c) (hr : meth.sig.returnType = some .int) (hlk : meth.locks = false) {k29 : Int32 → Dm → Option (Int32 × Dm)} (hk29 : ∀ (x2 : Int32) (D : Dm), k29 x2 D = some (r, D') → BI G tA z E p l e (rmC 8 0 0) s m args below meth c LAY D r D' 6 29 [(0, .ref (z + 281)), (2, .int x2)] []) (x2 : Int32) (x4 : Int32) (D : Dm) (h : f_X12_word_60 k29 x2 x4 D = some (r, D')) : BI G tA z E p l e (rmC 8 0 0) s m args below meth c LAY D r D' 6 60 [(0, .ref (z + 281)), (2, .int x2), (4, .int x4)] [] := by
  obtain ⟨hx, hb, -, hown, hts, -⟩ := id O
  unfold f_X12_word_60 at h
  intro H locs ls hH hl
  refine lv_aload_n hx hb dX12_word_60 rfl (lv_at hl 0 rfl) ?_
  refine lv_iconst (v := 0) hx hb dX12_word_61 (by decide) ?_
  refine lv_bipush (v := 99) hx hb dX12_word_62 (by decide) ?_
  obtain ⟨y3, D1, hc2, h⟩ := bI_some h
  refine h_callVi (As := [.int 0, .int 99]) (rest := []) O hH (c_X12_number hc2) ml_X12_212 ly_281 rfl rfl hl.1 rfl ⟨Nat.le_of_ble_eq_true rfl, Nat.le_of_ble_eq_true rfl⟩ (Nat.le_of_ble_eq_true rfl) dX12_word_64 (fun H locs hH => ?_)
  refine lv_istore (lv' := [(5, .int y3), (0, .ref (z + 281)), (2, .int x2), (4, .int x4)]) hx hb dX12_word_67 hl (by decide) rfl (fun ls hl => ?_)
  refine lv_aload_n hx hb dX12_word_69 rfl (lv_at hl 1 rfl) ?_
  refine h_geti O hH ly_281 rfl fl_X12_168 dX12_word_70 ?_
  refine lv_if_eq (tgt := 84) hx hb dX12_word_73 (by decide) (fun c4 => ?_) (fun c4 => ?_)
  · have h := it_pos h c4
    refine lv_aload_n hx hb dX12_word_84 rfl (lv_at hl 1 rfl) ?_
    refine h_getr O hH ly_281 rfl fl_X12_33 dX12_word_85 ?_
    refine lv_iload_n hx hb dX12_word_88 rfl (lv_at hl 2 rfl) ?_
    refine lv_iload hx hb dX12_word_89 (lv_at hl 3 rfl) ?_
    obtain ⟨g5, h⟩ := gd_some h
    obtain ⟨D6, e7, h⟩ := lt_some h
    refine h_iast O hH ly_287 g5 e7 dX12_word_91 (fun H locs hH => ?_)
    refine lv_aload_n hx hb dX12_word_92 rfl (lv_at hl 1 rfl) ?_
    refine h_getr O hH ly_281 rfl fl_X12_36 dX12_word_93 ?_
    refine lv_iload_n hx hb dX12_word_96 rfl (lv_at hl 2 rfl) ?_
    refine lv_iload hx hb dX12_word_97 (lv_at hl 0 rfl) ?_
    obtain ⟨g8, h⟩ := gd_some h
    obtain ⟨D9, e10, h⟩ := lt_some h
    refine h_iast O hH ly_288 g8 e10 dX12_word_99 (fun H locs hH => ?_)
    obtain ⟨y11, e12, h⟩ := lt_some h
    refine lv_iinc (v := y11) (lv' := [(2, .int y11), (5, .int y3), (0, .ref (z + 281)), (4, .int x4)]) hx hb dX12_word_100 hl (k := 2) rfl (by rw [e12]; rfl) (by decide) rfl (fun ls hl => ?_)
    refine lv_goto (tgt := 29) hx hb dX12_word_103 (by decide) ?_
    exact hk29 _ _ h _ _ _ hH (lv_sub hl [2, 0] rfl)
  · have h := it_neg h c4
    refine lv_bipush (v := (-30)) hx hb dX12_word_76 (by decide) ?_
    refine lv_aload_n hx hb dX12_word_78 rfl (lv_at hl 1 rfl) ?_
    refine h_geti O hH ly_281 rfl fl_X12_168 dX12_word_79 ?_
    refine lv_isub hx hb dX12_word_82 ?_
    obtain ⟨rfl, rfl⟩ := ret_i h
    exact h_iret O hr hlk hH dX12_word_83
set_option maxHeartbeats 4000000 in
theorem w_X12_word_29_b {G : va_G} {tA : Nat → ClassId} {z : Nat} {E : Ex} {p : Program} {l : Launch} {e : Env} {s : State} {m : MethodId} {args : Array Value} {below : List Frame} {meth : Method} {c : Code} {r : Int32} {D' : Dm} (O : Ok G tA z E cX12_word RX12 6 p s m args c) (hr : meth.sig.returnType = some .int) (hlk : meth.locks = false) {k29 : Int32 → Dm → Option (Int32 × Dm)} (hk29 : ∀ (x2 : Int32) (D : Dm), k29 x2 D = some (r, D') → BI G tA z E p l e (rmC 8 0 0) s m args below meth c LAY D r D' 6 29 [(0, .ref (z + 281)), (2, .int x2)] []) (x2 : Int32) (D : Dm) (h : f_X12_word_29_b k29 x2 D = some (r, D')) : BI G tA z E p l e (rmC 8 0 0) s m args below meth c LAY D r D' 6 29 [(0, .ref (z + 281)), (2, .int x2)] [] := by
  obtain ⟨hx, hb, -, hown, hts, -⟩ := id O
  unfold f_X12_word_29_b at h
  intro H locs ls hH hl
  refine lv_aload_n hx hb dX12_word_29 rfl (lv_at hl 0 rfl) ?_
  obtain ⟨y3, D1, hc2, h⟩ := bI_some h
  refine h_callVi (As := []) (rest := []) O hH (c_X12_isOver hc2) ml_X12_249 ly_281 rfl rfl hl.1 rfl ⟨Nat.le_of_ble_eq_true rfl, Nat.le_of_ble_eq_true rfl⟩ (Nat.le_of_ble_eq_true rfl) dX12_word_30 (fun H locs hH => ?_)
  refine lv_if_ne (tgt := 106) hx hb dX12_word_33 (by decide) (fun c4 => ?_) (fun c4 => ?_)
  · have h := it_neg h c4
    refine lv_aload_n hx hb dX12_word_106 rfl (lv_at hl 0 rfl) ?_
    refine lv_iload_n hx hb dX12_word_107 rfl (lv_at hl 1 rfl) ?_
    obtain ⟨D5, e6, h⟩ := lt_some h
    refine h_puti O hH ly_281 rfl fl_X12_259 e6 dX12_word_108 (fun H locs hH => ?_)
    refine lv_iconst (v := 0) hx hb dX12_word_111 (by decide) ?_
    refine lv_istore_n (lv' := [(3, .int 0), (0, .ref (z + 281)), (2, .int x2)]) hx hb dX12_word_112 rfl hl (by decide) rfl (fun ls hl => ?_)
    exact w_X12_word_113 O hr hlk FU _ _ _ h _ _ _ hH (lv_sub hl [1, 2, 0] rfl)
  · have h := it_pos h c4
    refine lv_aload_n hx hb dX12_word_36 rfl (lv_at hl 0 rfl) ?_
    refine h_geti O hH ly_281 rfl fl_X12_162 dX12_word_37 ?_
    refine lv_topi (fun y7 e8 => ?_)
    have h := lt_at e8 h
    refine lv_istore_n (lv' := [(3, .int y7), (0, .ref (z + 281)), (2, .int x2)]) hx hb dX12_word_40 rfl hl (by decide) rfl (fun ls hl => ?_)
    refine lv_aload_n hx hb dX12_word_41 rfl (lv_at hl 1 rfl) ?_
    refine lv_iconst (v := 2) hx hb dX12_word_42 (by decide) ?_
    obtain ⟨y11, D9, hc10, h⟩ := bI_some h
    refine h_callVi (As := [.int 2]) (rest := []) O hH (c_X12_symbol hc10) ml_X12_222 ly_281 rfl rfl hl.1 rfl ⟨Nat.le_of_ble_eq_true rfl, Nat.le_of_ble_eq_true rfl⟩ (Nat.le_of_ble_eq_true rfl) dX12_word_43 (fun H locs hH => ?_)
    refine lv_istore (lv' := [(4, .int y11), (3, .int y7), (0, .ref (z + 281)), (2, .int x2)]) hx hb dX12_word_46 hl (by decide) rfl (fun ls hl => ?_)
    refine lv_iload_n hx hb dX12_word_48 rfl (lv_at hl 3 rfl) ?_
    refine lv_bipush (v := 12) hx hb dX12_word_49 (by decide) ?_
    refine lv_icmp_ne (tgt := 60) hx hb dX12_word_51 (by decide) (fun c12 => ?_) (fun c12 => ?_)
    · have h := it_neg h c12
      exact w_X12_word_60 O hr hlk hk29 _ _ _ h _ _ _ hH (lv_sub hl [2, 3, 0] rfl)
    · have h := it_pos h c12
      refine lv_aload_n hx hb dX12_word_54 rfl (lv_at hl 2 rfl) ?_
      refine lv_iconst (v := 3) hx hb dX12_word_55 (by decide) ?_
      refine lv_iload_n hx hb dX12_word_56 rfl (lv_at hl 1 rfl) ?_
      obtain ⟨D13, hc14, h⟩ := bV_some h
      refine h_callVv (As := [.int 3, .int y7]) (rest := []) O hH (c_X12_fails hc14) ml_X12_204 ly_281 rfl rfl hl.1 rfl ⟨Nat.le_of_ble_eq_true rfl, Nat.le_of_ble_eq_true rfl⟩ (Nat.le_of_ble_eq_true rfl) dX12_word_57 (fun H locs hH => ?_)
      exact w_X12_word_60 O hr hlk hk29 _ _ _ h _ _ _ hH (lv_sub hl [2, 3, 0] rfl)
set_option maxHeartbeats 4000000 in
theorem w_X12_word_29 {G : va_G} {tA : Nat → ClassId} {z : Nat} {E : Ex} {p : Program} {l : Launch} {e : Env} {s : State} {m : MethodId} {args : Array Value} {below : List Frame} {meth : Method} {c : Code} {r : Int32} {D' : Dm} (O : Ok G tA z E cX12_word RX12 6 p s m args c) (hr : meth.sig.returnType = some .int) (hlk : meth.locks = false) : ∀ (n : Nat) (x2 : Int32) (D : Dm) (h : f_X12_word_29 n x2 D = some (r, D')), BI G tA z E p l e (rmC 8 0 0) s m args below meth c LAY D r D' 6 29 [(0, .ref (z + 281)), (2, .int x2)] [] := by
  intro n
  induction n with
  | zero => intro x2 D h; exact no_some h
  | succ n ih => intro x2 D h; exact w_X12_word_29_b O hr hlk (fun x2 D h => ih x2 D h) x2 D h
set_option maxHeartbeats 4000000 in
theorem w_X12_word {G : va_G} {tA : Nat → ClassId} {z : Nat} {E : Ex} {p : Program} {l : Launch} {e : Env} {s : State} {m : MethodId} {args : Array Value} {below : List Frame} {meth : Method} {c : Code} {r : Int32} {D' : Dm} (O : Ok G tA z E cX12_word RX12 6 p s m args c) (hr : meth.sig.returnType = some .int) (hlk : meth.locks = false) (x1 : Int32) (D : Dm) (h : f_X12_word x1 D = some (r, D')) : BI G tA z E p l e (rmC 8 0 0) s m args below meth c LAY D r D' 6 0 [(0, .ref (z + 281)), (1, .int x1)] [] := by
  obtain ⟨hx, hb, -, hown, hts, -⟩ := id O
  unfold f_X12_word at h
  intro H locs ls hH hl
  refine lv_aload_n hx hb dX12_word_0 rfl (lv_at hl 0 rfl) ?_
  refine lv_iconst (v := 0) hx hb dX12_word_1 (by decide) ?_
  obtain ⟨D1, e2, h⟩ := lt_some h
  refine h_puti O hH ly_281 rfl fl_X12_1 e2 dX12_word_2 (fun H locs hH => ?_)
  refine lv_iload_n hx hb dX12_word_5 rfl (lv_at hl 1 rfl) ?_
  refine lv_i2l hx hb dX12_word_6 rfl ?_
  refine lv_lconst (v := 0) hx hb dX12_word_7 (by decide) ?_
  refine lv_aload_n hx hb dX12_word_8 rfl (lv_at hl 0 rfl) ?_
  refine h_geti O hH ly_281 rfl fl_X12_159 dX12_word_9 ?_
  refine lv_i2l hx hb dX12_word_12 rfl ?_
  obtain ⟨y5, D3, hc4, h⟩ := bI_some h
  refine h_callSi (As := [.long (Int32.toInt64 x1), .long 0, .long (Int32.toInt64 (D1 281 7))]) (rest := []) O hH (c_X12_isIn hc4) ml_X12_182 rfl hl.1 rfl ⟨Nat.le_of_ble_eq_true rfl, Nat.le_of_ble_eq_true rfl⟩ (Nat.le_of_ble_eq_true rfl) dX12_word_13 (fun H locs hH => ?_)
  refine lv_if_ne (tgt := 22) hx hb dX12_word_16 (by decide) (fun c6 => ?_) (fun c6 => ?_)
  · have h := it_neg h c6
    refine lv_aload_n hx hb dX12_word_22 rfl (lv_at hl 0 rfl) ?_
    refine lv_iload_n hx hb dX12_word_23 rfl (lv_at hl 1 rfl) ?_
    obtain ⟨D7, hc8, h⟩ := bV_some h
    refine h_callVv (As := [.int x1]) (rest := []) O hH (c_X12_begins hc8) ml_X12_246 ly_281 rfl rfl hl.1 rfl ⟨Nat.le_of_ble_eq_true rfl, Nat.le_of_ble_eq_true rfl⟩ (Nat.le_of_ble_eq_true rfl) dX12_word_24 (fun H locs hH => ?_)
    refine lv_iconst (v := 0) hx hb dX12_word_27 (by decide) ?_
    refine lv_istore_n (lv' := [(2, .int 0), (0, .ref (z + 281)), (1, .int x1)]) hx hb dX12_word_28 rfl hl (by decide) rfl (fun ls hl => ?_)
    exact w_X12_word_29 O hr hlk FU _ _ h _ _ _ hH (lv_sub hl [1, 0] rfl)
  · have h := it_pos h c6
    refine lv_bipush (v := (-3)) hx hb dX12_word_19 (by decide) ?_
    obtain ⟨rfl, rfl⟩ := ret_i h
    exact h_iret O hr hlk hH dX12_word_21
set_option maxHeartbeats 4000000 in
theorem c_X12_word {l : Launch} {G : va_G} {tA : Nat → ClassId} {z : Nat} {E : Ex} {x1 : Int32} {D D' : Dm} {r : Int32} (h : f_X12_word x1 D = some (r, D')) : CtI l yX12_word cX12_word 6 (some .int) G tA z E 8 0 0 [.ref (z + 281), .int x1] LAY D r LAY D' :=
  ct_BI (by decide +kernel) (Nat.le_of_ble_eq_true rfl) (fun _ _ _ _ _ _ _ _ O hr hlk => w_X12_word O hr hlk _ _ h)
