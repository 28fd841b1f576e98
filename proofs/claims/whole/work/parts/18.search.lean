theorem dX8_likeness_0 : decode cX8_likeness 0 = .ok (.iconst 0, 1) := by decide +kernel
theorem dX8_likeness_1 : decode cX8_likeness 1 = .ok (.istore_n 1, 1) := by decide +kernel
theorem dX8_likeness_2 : decode cX8_likeness 2 = .ok (.iconst 0, 1) := by decide +kernel
theorem dX8_likeness_3 : decode cX8_likeness 3 = .ok (.istore_n 2, 1) := by decide +kernel
theorem dX8_likeness_4 : decode cX8_likeness 4 = .ok (.iconst 0, 1) := by decide +kernel
theorem dX8_likeness_5 : decode cX8_likeness 5 = .ok (.istore_n 3, 1) := by decide +kernel
theorem dX8_likeness_6 : decode cX8_likeness 6 = .ok (.iload_n 3, 1) := by decide +kernel
theorem dX8_likeness_7 : decode cX8_likeness 7 = .ok (.aload_n 0, 1) := by decide +kernel
theorem dX8_likeness_8 : decode cX8_likeness 8 = .ok (.getfield 46, 3) := by decide +kernel
theorem dX8_likeness_11 : decode cX8_likeness 11 = .ok (.arraylength, 1) := by decide +kernel
theorem dX8_likeness_12 : decode cX8_likeness 12 = .ok (.if_icmp .ge 89, 3) := by decide +kernel
theorem dX8_likeness_15 : decode cX8_likeness 15 = .ok (.aload_n 0, 1) := by decide +kernel
theorem dX8_likeness_16 : decode cX8_likeness 16 = .ok (.getfield 46, 3) := by decide +kernel
theorem dX8_likeness_19 : decode cX8_likeness 19 = .ok (.iload_n 3, 1) := by decide +kernel
theorem dX8_likeness_20 : decode cX8_likeness 20 = .ok (.iaload, 1) := by decide +kernel
theorem dX8_likeness_21 : decode cX8_likeness 21 = .ok (.iconst (-1), 1) := by decide +kernel
theorem dX8_likeness_22 : decode cX8_likeness 22 = .ok (.if_icmp .ne 7, 3) := by decide +kernel
theorem dX8_likeness_25 : decode cX8_likeness 25 = .ok (.iconst 0, 1) := by decide +kernel
theorem dX8_likeness_26 : decode cX8_likeness 26 = .ok (.goto 6, 3) := by decide +kernel
theorem dX8_likeness_29 : decode cX8_likeness 29 = .ok (.iload_n 2, 1) := by decide +kernel
theorem dX8_likeness_30 : decode cX8_likeness 30 = .ok (.iconst 1, 1) := by decide +kernel
theorem dX8_likeness_31 : decode cX8_likeness 31 = .ok (.iadd, 1) := by decide +kernel
theorem dX8_likeness_32 : decode cX8_likeness 32 = .ok (.istore 4, 2) := by decide +kernel
theorem dX8_likeness_34 : decode cX8_likeness 34 = .ok (.iload_n 1, 1) := by decide +kernel
theorem dX8_likeness_35 : decode cX8_likeness 35 = .ok (.istore 5, 2) := by decide +kernel
theorem dX8_likeness_37 : decode cX8_likeness 37 = .ok (.iload_n 3, 1) := by decide +kernel
theorem dX8_likeness_38 : decode cX8_likeness 38 = .ok (.iconst 1, 1) := by decide +kernel
theorem dX8_likeness_39 : decode cX8_likeness 39 = .ok (.isub, 1) := by decide +kernel
theorem dX8_likeness_40 : decode cX8_likeness 40 = .ok (.istore 6, 2) := by decide +kernel
theorem dX8_likeness_42 : decode cX8_likeness 42 = .ok (.iload 6, 2) := by decide +kernel
theorem dX8_likeness_44 : decode cX8_likeness 44 = .ok (.ifCond .lt 37, 3) := by decide +kernel
theorem dX8_likeness_47 : decode cX8_likeness 47 = .ok (.aload_n 0, 1) := by decide +kernel
theorem dX8_likeness_48 : decode cX8_likeness 48 = .ok (.getfield 46, 3) := by decide +kernel
theorem dX8_likeness_51 : decode cX8_likeness 51 = .ok (.iload 6, 2) := by decide +kernel
theorem dX8_likeness_53 : decode cX8_likeness 53 = .ok (.iaload, 1) := by decide +kernel
theorem dX8_likeness_54 : decode cX8_likeness 54 = .ok (.aload_n 0, 1) := by decide +kernel
theorem dX8_likeness_55 : decode cX8_likeness 55 = .ok (.getfield 46, 3) := by decide +kernel
theorem dX8_likeness_58 : decode cX8_likeness 58 = .ok (.iload_n 3, 1) := by decide +kernel
theorem dX8_likeness_59 : decode cX8_likeness 59 = .ok (.iaload, 1) := by decide +kernel
theorem dX8_likeness_60 : decode cX8_likeness 60 = .ok (.if_icmp .ne 9, 3) := by decide +kernel
theorem dX8_likeness_63 : decode cX8_likeness 63 = .ok (.iload 5, 2) := by decide +kernel
theorem dX8_likeness_65 : decode cX8_likeness 65 = .ok (.iconst 5, 1) := by decide +kernel
theorem dX8_likeness_66 : decode cX8_likeness 66 = .ok (.irem, 1) := by decide +kernel
theorem dX8_likeness_67 : decode cX8_likeness 67 = .ok (.istore 4, 2) := by decide +kernel
theorem dX8_likeness_69 : decode cX8_likeness 69 = .ok (.iload 5, 2) := by decide +kernel
theorem dX8_likeness_71 : decode cX8_likeness 71 = .ok (.iconst 5, 1) := by decide +kernel
theorem dX8_likeness_72 : decode cX8_likeness 72 = .ok (.idiv, 1) := by decide +kernel
theorem dX8_likeness_73 : decode cX8_likeness 73 = .ok (.istore 5, 2) := by decide +kernel
theorem dX8_likeness_75 : decode cX8_likeness 75 = .ok (.iinc 6 (-1), 3) := by decide +kernel
theorem dX8_likeness_78 : decode cX8_likeness 78 = .ok (.goto (-36), 3) := by decide +kernel
theorem dX8_likeness_81 : decode cX8_likeness 81 = .ok (.iload_n 2, 1) := by decide +kernel
theorem dX8_likeness_82 : decode cX8_likeness 82 = .ok (.iload 4, 2) := by decide +kernel
theorem dX8_likeness_84 : decode cX8_likeness 84 = .ok (.invokestatic 123, 3) := by decide +kernel
theorem dX8_likeness_87 : decode cX8_likeness 87 = .ok (.istore_n 2, 1) := by decide +kernel
theorem dX8_likeness_88 : decode cX8_likeness 88 = .ok (.iload_n 1, 1) := by decide +kernel
theorem dX8_likeness_89 : decode cX8_likeness 89 = .ok (.iconst 5, 1) := by decide +kernel
theorem dX8_likeness_90 : decode cX8_likeness 90 = .ok (.imul, 1) := by decide +kernel
theorem dX8_likeness_91 : decode cX8_likeness 91 = .ok (.iload 4, 2) := by decide +kernel
theorem dX8_likeness_93 : decode cX8_likeness 93 = .ok (.iadd, 1) := by decide +kernel
theorem dX8_likeness_94 : decode cX8_likeness 94 = .ok (.istore_n 1, 1) := by decide +kernel
theorem dX8_likeness_95 : decode cX8_likeness 95 = .ok (.iinc 3 1, 3) := by decide +kernel
theorem dX8_likeness_98 : decode cX8_likeness 98 = .ok (.goto (-92), 3) := by decide +kernel
theorem dX8_likeness_101 : decode cX8_likeness 101 = .ok (.iload_n 1, 1) := by decide +kernel
theorem dX8_likeness_102 : decode cX8_likeness 102 = .ok (.ireturn, 1) := by decide +kernel
theorem dX8_pack_0 : decode cX8_pack 0 = .ok (.aload_n 0, 1) := by decide +kernel
theorem dX8_pack_1 : decode cX8_pack 1 = .ok (.getfield 40, 3) := by decide +kernel
theorem dX8_pack_4 : decode cX8_pack 4 = .ok (.getfield 113, 3) := by decide +kernel
theorem dX8_pack_7 : decode cX8_pack 7 = .ok (.iconst 1, 1) := by decide +kernel
theorem dX8_pack_8 : decode cX8_pack 8 = .ok (.iadd, 1) := by decide +kernel
theorem dX8_pack_9 : decode cX8_pack 9 = .ok (.bipush 16, 2) := by decide +kernel
theorem dX8_pack_11 : decode cX8_pack 11 = .ok (.imul, 1) := by decide +kernel
theorem dX8_pack_12 : decode cX8_pack 12 = .ok (.aload_n 0, 1) := by decide +kernel
theorem dX8_pack_13 : decode cX8_pack 13 = .ok (.getfield 43, 3) := by decide +kernel
theorem dX8_pack_16 : decode cX8_pack 16 = .ok (.getfield 113, 3) := by decide +kernel
theorem dX8_pack_19 : decode cX8_pack 19 = .ok (.iadd, 1) := by decide +kernel
theorem dX8_pack_20 : decode cX8_pack 20 = .ok (.iconst 1, 1) := by decide +kernel
theorem dX8_pack_21 : decode cX8_pack 21 = .ok (.iadd, 1) := by decide +kernel
theorem dX8_pack_22 : decode cX8_pack 22 = .ok (.istore_n 1, 1) := by decide +kernel
theorem dX8_pack_23 : decode cX8_pack 23 = .ok (.iconst 0, 1) := by decide +kernel
theorem dX8_pack_24 : decode cX8_pack 24 = .ok (.istore_n 2, 1) := by decide +kernel
theorem dX8_pack_25 : decode cX8_pack 25 = .ok (.iload_n 2, 1) := by decide +kernel
theorem dX8_pack_26 : decode cX8_pack 26 = .ok (.aload_n 0, 1) := by decide +kernel
theorem dX8_pack_27 : decode cX8_pack 27 = .ok (.getfield 46, 3) := by decide +kernel
theorem dX8_pack_30 : decode cX8_pack 30 = .ok (.arraylength, 1) := by decide +kernel
theorem dX8_pack_31 : decode cX8_pack 31 = .ok (.if_icmp .ge 23, 3) := by decide +kernel
theorem dX8_pack_34 : decode cX8_pack 34 = .ok (.iload_n 1, 1) := by decide +kernel
theorem dX8_pack_35 : decode cX8_pack 35 = .ok (.bipush 32, 2) := by decide +kernel
theorem dX8_pack_37 : decode cX8_pack 37 = .ok (.imul, 1) := by decide +kernel
theorem dX8_pack_38 : decode cX8_pack 38 = .ok (.aload_n 0, 1) := by decide +kernel
theorem dX8_pack_39 : decode cX8_pack 39 = .ok (.getfield 46, 3) := by decide +kernel
theorem dX8_pack_42 : decode cX8_pack 42 = .ok (.iload_n 2, 1) := by decide +kernel
theorem dX8_pack_43 : decode cX8_pack 43 = .ok (.iaload, 1) := by decide +kernel
theorem dX8_pack_44 : decode cX8_pack 44 = .ok (.iadd, 1) := by decide +kernel
theorem dX8_pack_45 : decode cX8_pack 45 = .ok (.iconst 1, 1) := by decide +kernel
theorem dX8_pack_46 : decode cX8_pack 46 = .ok (.iadd, 1) := by decide +kernel
theorem dX8_pack_47 : decode cX8_pack 47 = .ok (.istore_n 1, 1) := by decide +kernel
theorem dX8_pack_48 : decode cX8_pack 48 = .ok (.iinc 2 1, 3) := by decide +kernel
theorem dX8_pack_51 : decode cX8_pack 51 = .ok (.goto (-26), 3) := by decide +kernel
theorem dX8_pack_54 : decode cX8_pack 54 = .ok (.iload_n 1, 1) := by decide +kernel
theorem dX8_pack_55 : decode cX8_pack 55 = .ok (.ireturn, 1) := by decide +kernel
theorem dX8_enter_0 : decode cX8_enter 0 = .ok (.aload_n 0, 1) := by decide +kernel
theorem dX8_enter_1 : decode cX8_enter 1 = .ok (.getfield 46, 3) := by decide +kernel
theorem dX8_enter_4 : decode cX8_enter 4 = .ok (.iconst 0, 1) := by decide +kernel
theorem dX8_enter_5 : decode cX8_enter 5 = .ok (.aload_n 0, 1) := by decide +kernel
theorem dX8_enter_6 : decode cX8_enter 6 = .ok (.getfield 40, 3) := by decide +kernel
theorem dX8_enter_9 : decode cX8_enter 9 = .ok (.getfield 109, 3) := by decide +kernel
theorem dX8_enter_12 : decode cX8_enter 12 = .ok (.iconst 0, 1) := by decide +kernel
theorem dX8_enter_13 : decode cX8_enter 13 = .ok (.iaload, 1) := by decide +kernel
theorem dX8_enter_14 : decode cX8_enter 14 = .ok (.iastore, 1) := by decide +kernel
theorem dX8_enter_15 : decode cX8_enter 15 = .ok (.aload_n 0, 1) := by decide +kernel
theorem dX8_enter_16 : decode cX8_enter 16 = .ok (.getfield 46, 3) := by decide +kernel
theorem dX8_enter_19 : decode cX8_enter 19 = .ok (.iconst 1, 1) := by decide +kernel
theorem dX8_enter_20 : decode cX8_enter 20 = .ok (.aload_n 0, 1) := by decide +kernel
theorem dX8_enter_21 : decode cX8_enter 21 = .ok (.getfield 40, 3) := by decide +kernel
theorem dX8_enter_24 : decode cX8_enter 24 = .ok (.getfield 109, 3) := by decide +kernel
theorem dX8_enter_27 : decode cX8_enter 27 = .ok (.iconst 1, 1) := by decide +kernel
theorem dX8_enter_28 : decode cX8_enter 28 = .ok (.iaload, 1) := by decide +kernel
theorem dX8_enter_29 : decode cX8_enter 29 = .ok (.iastore, 1) := by decide +kernel
theorem dX8_enter_30 : decode cX8_enter 30 = .ok (.aload_n 0, 1) := by decide +kernel
theorem dX8_enter_31 : decode cX8_enter 31 = .ok (.getfield 46, 3) := by decide +kernel
theorem dX8_enter_34 : decode cX8_enter 34 = .ok (.iconst 2, 1) := by decide +kernel
theorem dX8_enter_35 : decode cX8_enter 35 = .ok (.aload_n 0, 1) := by decide +kernel
theorem dX8_enter_36 : decode cX8_enter 36 = .ok (.getfield 43, 3) := by decide +kernel
theorem dX8_enter_39 : decode cX8_enter 39 = .ok (.getfield 109, 3) := by decide +kernel
theorem dX8_enter_42 : decode cX8_enter 42 = .ok (.iconst 0, 1) := by decide +kernel
theorem dX8_enter_43 : decode cX8_enter 43 = .ok (.iaload, 1) := by decide +kernel
theorem dX8_enter_44 : decode cX8_enter 44 = .ok (.iastore, 1) := by decide +kernel
theorem dX8_enter_45 : decode cX8_enter 45 = .ok (.aload_n 0, 1) := by decide +kernel
theorem dX8_enter_46 : decode cX8_enter 46 = .ok (.getfield 46, 3) := by decide +kernel
theorem dX8_enter_49 : decode cX8_enter 49 = .ok (.iconst 3, 1) := by decide +kernel
theorem dX8_enter_50 : decode cX8_enter 50 = .ok (.aload_n 0, 1) := by decide +kernel
theorem dX8_enter_51 : decode cX8_enter 51 = .ok (.getfield 43, 3) := by decide +kernel
theorem dX8_enter_54 : decode cX8_enter 54 = .ok (.getfield 109, 3) := by decide +kernel
theorem dX8_enter_57 : decode cX8_enter 57 = .ok (.iconst 1, 1) := by decide +kernel
theorem dX8_enter_58 : decode cX8_enter 58 = .ok (.iaload, 1) := by decide +kernel
theorem dX8_enter_59 : decode cX8_enter 59 = .ok (.iastore, 1) := by decide +kernel
theorem dX8_enter_60 : decode cX8_enter 60 = .ok (.aload_n 0, 1) := by decide +kernel
theorem dX8_enter_61 : decode cX8_enter 61 = .ok (.getfield 40, 3) := by decide +kernel
theorem dX8_enter_64 : decode cX8_enter 64 = .ok (.getfield 113, 3) := by decide +kernel
theorem dX8_enter_67 : decode cX8_enter 67 = .ok (.iconst 1, 1) := by decide +kernel
theorem dX8_enter_68 : decode cX8_enter 68 = .ok (.iadd, 1) := by decide +kernel
theorem dX8_enter_69 : decode cX8_enter 69 = .ok (.bipush 11, 2) := by decide +kernel
theorem dX8_enter_71 : decode cX8_enter 71 = .ok (.imul, 1) := by decide +kernel
theorem dX8_enter_72 : decode cX8_enter 72 = .ok (.aload_n 0, 1) := by decide +kernel
theorem dX8_enter_73 : decode cX8_enter 73 = .ok (.getfield 43, 3) := by decide +kernel
theorem dX8_enter_76 : decode cX8_enter 76 = .ok (.getfield 113, 3) := by decide +kernel
theorem dX8_enter_79 : decode cX8_enter 79 = .ok (.iadd, 1) := by decide +kernel
theorem dX8_enter_80 : decode cX8_enter 80 = .ok (.iconst 1, 1) := by decide +kernel
theorem dX8_enter_81 : decode cX8_enter 81 = .ok (.iadd, 1) := by decide +kernel
theorem dX8_enter_82 : decode cX8_enter 82 = .ok (.sipush 625, 3) := by decide +kernel
theorem dX8_enter_85 : decode cX8_enter 85 = .ok (.imul, 1) := by decide +kernel
theorem dX8_enter_86 : decode cX8_enter 86 = .ok (.aload_n 0, 1) := by decide +kernel
theorem dX8_enter_87 : decode cX8_enter 87 = .ok (.invokevirtual 116, 3) := by decide +kernel
theorem dX8_enter_90 : decode cX8_enter 90 = .ok (.iadd, 1) := by decide +kernel
theorem dX8_enter_91 : decode cX8_enter 91 = .ok (.istore 4, 2) := by decide +kernel
theorem dX8_enter_93 : decode cX8_enter 93 = .ok (.iconst 1, 1) := by decide +kernel
theorem dX8_enter_94 : decode cX8_enter 94 = .ok (.iload 4, 2) := by decide +kernel
theorem dX8_enter_96 : decode cX8_enter 96 = .ok (.bipush 31, 2) := by decide +kernel
theorem dX8_enter_98 : decode cX8_enter 98 = .ok (.iand, 1) := by decide +kernel
theorem dX8_enter_99 : decode cX8_enter 99 = .ok (.ishl, 1) := by decide +kernel
theorem dX8_enter_100 : decode cX8_enter 100 = .ok (.istore 5, 2) := by decide +kernel
theorem dX8_enter_102 : decode cX8_enter 102 = .ok (.aload_n 0, 1) := by decide +kernel
theorem dX8_enter_103 : decode cX8_enter 103 = .ok (.getfield 11, 3) := by decide +kernel
theorem dX8_enter_106 : decode cX8_enter 106 = .ok (.iload 4, 2) := by decide +kernel
theorem dX8_enter_108 : decode cX8_enter 108 = .ok (.iconst 5, 1) := by decide +kernel
theorem dX8_enter_109 : decode cX8_enter 109 = .ok (.ishr, 1) := by decide +kernel
theorem dX8_enter_110 : decode cX8_enter 110 = .ok (.iaload, 1) := by decide +kernel
theorem dX8_enter_111 : decode cX8_enter 111 = .ok (.iload 5, 2) := by decide +kernel
theorem dX8_enter_113 : decode cX8_enter 113 = .ok (.iand, 1) := by decide +kernel
theorem dX8_enter_114 : decode cX8_enter 114 = .ok (.ifCond .ne 13, 3) := by decide +kernel
theorem dX8_enter_117 : decode cX8_enter 117 = .ok (.aload_n 0, 1) := by decide +kernel
theorem dX8_enter_118 : decode cX8_enter 118 = .ok (.getfield 66, 3) := by decide +kernel
theorem dX8_enter_121 : decode cX8_enter 121 = .ok (.sipush 1351, 3) := by decide +kernel
theorem dX8_enter_124 : decode cX8_enter 124 = .ok (.if_icmp .lt 5, 3) := by decide +kernel
theorem dX8_enter_127 : decode cX8_enter 127 = .ok (.iconst 0, 1) := by decide +kernel
theorem dX8_enter_128 : decode cX8_enter 128 = .ok (.ireturn, 1) := by decide +kernel
theorem dX8_enter_129 : decode cX8_enter 129 = .ok (.aload_n 0, 1) := by decide +kernel
theorem dX8_enter_130 : decode cX8_enter 130 = .ok (.getfield 11, 3) := by decide +kernel
theorem dX8_enter_133 : decode cX8_enter 133 = .ok (.iload 4, 2) := by decide +kernel
theorem dX8_enter_135 : decode cX8_enter 135 = .ok (.iconst 5, 1) := by decide +kernel
theorem dX8_enter_136 : decode cX8_enter 136 = .ok (.ishr, 1) := by decide +kernel
theorem dX8_enter_137 : decode cX8_enter 137 = .ok (.dup2, 1) := by decide +kernel
theorem dX8_enter_138 : decode cX8_enter 138 = .ok (.iaload, 1) := by decide +kernel
theorem dX8_enter_139 : decode cX8_enter 139 = .ok (.iload 5, 2) := by decide +kernel
theorem dX8_enter_141 : decode cX8_enter 141 = .ok (.ior, 1) := by decide +kernel
theorem dX8_enter_142 : decode cX8_enter 142 = .ok (.iastore, 1) := by decide +kernel
theorem dX8_enter_143 : decode cX8_enter 143 = .ok (.aload_n 0, 1) := by decide +kernel
theorem dX8_enter_144 : decode cX8_enter 144 = .ok (.getfield 15, 3) := by decide +kernel
theorem dX8_enter_147 : decode cX8_enter 147 = .ok (.aload_n 0, 1) := by decide +kernel
theorem dX8_enter_148 : decode cX8_enter 148 = .ok (.getfield 66, 3) := by decide +kernel
theorem dX8_enter_151 : decode cX8_enter 151 = .ok (.aload_n 0, 1) := by decide +kernel
theorem dX8_enter_152 : decode cX8_enter 152 = .ok (.invokevirtual 120, 3) := by decide +kernel
theorem dX8_enter_155 : decode cX8_enter 155 = .ok (.iastore, 1) := by decide +kernel
theorem dX8_enter_156 : decode cX8_enter 156 = .ok (.aload_n 0, 1) := by decide +kernel
theorem dX8_enter_157 : decode cX8_enter 157 = .ok (.getfield 18, 3) := by decide +kernel
theorem dX8_enter_160 : decode cX8_enter 160 = .ok (.aload_n 0, 1) := by decide +kernel
theorem dX8_enter_161 : decode cX8_enter 161 = .ok (.getfield 66, 3) := by decide +kernel
theorem dX8_enter_164 : decode cX8_enter 164 = .ok (.iload_n 1, 1) := by decide +kernel
theorem dX8_enter_165 : decode cX8_enter 165 = .ok (.iastore, 1) := by decide +kernel
theorem dX8_enter_166 : decode cX8_enter 166 = .ok (.aload_n 0, 1) := by decide +kernel
theorem dX8_enter_167 : decode cX8_enter 167 = .ok (.getfield 21, 3) := by decide +kernel
theorem dX8_enter_170 : decode cX8_enter 170 = .ok (.aload_n 0, 1) := by decide +kernel
theorem dX8_enter_171 : decode cX8_enter 171 = .ok (.getfield 66, 3) := by decide +kernel
theorem dX8_enter_174 : decode cX8_enter 174 = .ok (.iload_n 2, 1) := by decide +kernel
theorem dX8_enter_175 : decode cX8_enter 175 = .ok (.sipush 1000, 3) := by decide +kernel
theorem dX8_enter_178 : decode cX8_enter 178 = .ok (.imul, 1) := by decide +kernel
theorem dX8_enter_179 : decode cX8_enter 179 = .ok (.iload_n 3, 1) := by decide +kernel
theorem dX8_enter_180 : decode cX8_enter 180 = .ok (.iadd, 1) := by decide +kernel
theorem dX8_enter_181 : decode cX8_enter 181 = .ok (.iastore, 1) := by decide +kernel
theorem dX8_enter_182 : decode cX8_enter 182 = .ok (.aload_n 0, 1) := by decide +kernel
theorem dX8_enter_183 : decode cX8_enter 183 = .ok (.getfield 27, 3) := by decide +kernel
theorem dX8_enter_186 : decode cX8_enter 186 = .ok (.aload_n 0, 1) := by decide +kernel
theorem dX8_enter_187 : decode cX8_enter 187 = .ok (.getfield 66, 3) := by decide +kernel
theorem dX8_enter_190 : decode cX8_enter 190 = .ok (.iload_n 1, 1) := by decide +kernel
theorem dX8_enter_191 : decode cX8_enter 191 = .ok (.iconst (-1), 1) := by decide +kernel
theorem dX8_enter_192 : decode cX8_enter 192 = .ok (.if_icmp .ne 7, 3) := by decide +kernel
theorem dX8_enter_195 : decode cX8_enter 195 = .ok (.iconst 0, 1) := by decide +kernel
theorem dX8_enter_196 : decode cX8_enter 196 = .ok (.goto 11, 3) := by decide +kernel
theorem dX8_enter_199 : decode cX8_enter 199 = .ok (.aload_n 0, 1) := by decide +kernel
theorem dX8_enter_200 : decode cX8_enter 200 = .ok (.getfield 27, 3) := by decide +kernel
theorem dX8_enter_203 : decode cX8_enter 203 = .ok (.iload_n 1, 1) := by decide +kernel
theorem dX8_enter_204 : decode cX8_enter 204 = .ok (.iaload, 1) := by decide +kernel
theorem dX8_enter_205 : decode cX8_enter 205 = .ok (.iconst 1, 1) := by decide +kernel
theorem dX8_enter_206 : decode cX8_enter 206 = .ok (.iadd, 1) := by decide +kernel
theorem dX8_enter_207 : decode cX8_enter 207 = .ok (.iastore, 1) := by decide +kernel
theorem dX8_enter_208 : decode cX8_enter 208 = .ok (.aload_n 0, 1) := by decide +kernel
theorem dX8_enter_209 : decode cX8_enter 209 = .ok (.getfield 24, 3) := by decide +kernel
theorem dX8_enter_212 : decode cX8_enter 212 = .ok (.aload_n 0, 1) := by decide +kernel
theorem dX8_enter_213 : decode cX8_enter 213 = .ok (.getfield 66, 3) := by decide +kernel
theorem dX8_enter_216 : decode cX8_enter 216 = .ok (.iload_n 1, 1) := by decide +kernel
theorem dX8_enter_217 : decode cX8_enter 217 = .ok (.iconst (-1), 1) := by decide +kernel
theorem dX8_enter_218 : decode cX8_enter 218 = .ok (.if_icmp .ne 7, 3) := by decide +kernel
theorem dX8_enter_221 : decode cX8_enter 221 = .ok (.iconst 0, 1) := by decide +kernel
theorem dX8_enter_222 : decode cX8_enter 222 = .ok (.goto 15, 3) := by decide +kernel
theorem dX8_enter_225 : decode cX8_enter 225 = .ok (.aload_n 0, 1) := by decide +kernel
theorem dX8_enter_226 : decode cX8_enter 226 = .ok (.getfield 24, 3) := by decide +kernel
theorem dX8_enter_229 : decode cX8_enter 229 = .ok (.iload_n 1, 1) := by decide +kernel
theorem dX8_enter_230 : decode cX8_enter 230 = .ok (.iaload, 1) := by decide +kernel
theorem dX8_enter_231 : decode cX8_enter 231 = .ok (.iload_n 3, 1) := by decide +kernel
theorem dX8_enter_232 : decode cX8_enter 232 = .ok (.iconst 1, 1) := by decide +kernel
theorem dX8_enter_233 : decode cX8_enter 233 = .ok (.iadd, 1) := by decide +kernel
theorem dX8_enter_234 : decode cX8_enter 234 = .ok (.invokestatic 123, 3) := by decide +kernel
theorem dX8_enter_237 : decode cX8_enter 237 = .ok (.iastore, 1) := by decide +kernel
theorem dX8_enter_238 : decode cX8_enter 238 = .ok (.aload_n 0, 1) := by decide +kernel
theorem dX8_enter_239 : decode cX8_enter 239 = .ok (.dup, 1) := by decide +kernel
theorem dX8_enter_240 : decode cX8_enter 240 = .ok (.getfield 66, 3) := by decide +kernel
theorem dX8_enter_243 : decode cX8_enter 243 = .ok (.iconst 1, 1) := by decide +kernel
theorem dX8_enter_244 : decode cX8_enter 244 = .ok (.iadd, 1) := by decide +kernel
theorem dX8_enter_245 : decode cX8_enter 245 = .ok (.putfield 66, 3) := by decide +kernel
theorem dX8_enter_248 : decode cX8_enter 248 = .ok (.iconst 1, 1) := by decide +kernel
theorem dX8_enter_249 : decode cX8_enter 249 = .ok (.ireturn, 1) := by decide +kernel
theorem dX8_unpack_0 : decode cX8_unpack 0 = .ok (.aload_n 0, 1) := by decide +kernel
theorem dX8_unpack_1 : decode cX8_unpack 1 = .ok (.getfield 37, 3) := by decide +kernel
theorem dX8_unpack_4 : decode cX8_unpack 4 = .ok (.getfield 109, 3) := by decide +kernel
theorem dX8_unpack_7 : decode cX8_unpack 7 = .ok (.iconst 1, 1) := by decide +kernel
theorem dX8_unpack_8 : decode cX8_unpack 8 = .ok (.iload_n 1, 1) := by decide +kernel
theorem dX8_unpack_9 : decode cX8_unpack 9 = .ok (.bipush 31, 2) := by decide +kernel
theorem dX8_unpack_11 : decode cX8_unpack 11 = .ok (.iand, 1) := by decide +kernel
theorem dX8_unpack_12 : decode cX8_unpack 12 = .ok (.iconst 1, 1) := by decide +kernel
theorem dX8_unpack_13 : decode cX8_unpack 13 = .ok (.isub, 1) := by decide +kernel
theorem dX8_unpack_14 : decode cX8_unpack 14 = .ok (.iastore, 1) := by decide +kernel
theorem dX8_unpack_15 : decode cX8_unpack 15 = .ok (.aload_n 0, 1) := by decide +kernel
theorem dX8_unpack_16 : decode cX8_unpack 16 = .ok (.getfield 37, 3) := by decide +kernel
theorem dX8_unpack_19 : decode cX8_unpack 19 = .ok (.getfield 109, 3) := by decide +kernel
theorem dX8_unpack_22 : decode cX8_unpack 22 = .ok (.iconst 0, 1) := by decide +kernel
theorem dX8_unpack_23 : decode cX8_unpack 23 = .ok (.iload_n 1, 1) := by decide +kernel
theorem dX8_unpack_24 : decode cX8_unpack 24 = .ok (.iconst 5, 1) := by decide +kernel
theorem dX8_unpack_25 : decode cX8_unpack 25 = .ok (.ishr, 1) := by decide +kernel
theorem dX8_unpack_26 : decode cX8_unpack 26 = .ok (.bipush 31, 2) := by decide +kernel
theorem dX8_unpack_28 : decode cX8_unpack 28 = .ok (.iand, 1) := by decide +kernel
theorem dX8_unpack_29 : decode cX8_unpack 29 = .ok (.iconst 1, 1) := by decide +kernel
theorem dX8_unpack_30 : decode cX8_unpack 30 = .ok (.isub, 1) := by decide +kernel
theorem dX8_unpack_31 : decode cX8_unpack 31 = .ok (.iastore, 1) := by decide +kernel
theorem dX8_unpack_32 : decode cX8_unpack 32 = .ok (.aload_n 0, 1) := by decide +kernel
theorem dX8_unpack_33 : decode cX8_unpack 33 = .ok (.getfield 33, 3) := by decide +kernel
theorem dX8_unpack_36 : decode cX8_unpack 36 = .ok (.getfield 109, 3) := by decide +kernel
theorem dX8_unpack_39 : decode cX8_unpack 39 = .ok (.iconst 1, 1) := by decide +kernel
theorem dX8_unpack_40 : decode cX8_unpack 40 = .ok (.iload_n 1, 1) := by decide +kernel
theorem dX8_unpack_41 : decode cX8_unpack 41 = .ok (.bipush 10, 2) := by decide +kernel
theorem dX8_unpack_43 : decode cX8_unpack 43 = .ok (.ishr, 1) := by decide +kernel
theorem dX8_unpack_44 : decode cX8_unpack 44 = .ok (.bipush 31, 2) := by decide +kernel
theorem dX8_unpack_46 : decode cX8_unpack 46 = .ok (.iand, 1) := by decide +kernel
theorem dX8_unpack_47 : decode cX8_unpack 47 = .ok (.iconst 1, 1) := by decide +kernel
theorem dX8_unpack_48 : decode cX8_unpack 48 = .ok (.isub, 1) := by decide +kernel
theorem dX8_unpack_49 : decode cX8_unpack 49 = .ok (.iastore, 1) := by decide +kernel
theorem dX8_unpack_50 : decode cX8_unpack 50 = .ok (.aload_n 0, 1) := by decide +kernel
theorem dX8_unpack_51 : decode cX8_unpack 51 = .ok (.getfield 33, 3) := by decide +kernel
theorem dX8_unpack_54 : decode cX8_unpack 54 = .ok (.getfield 109, 3) := by decide +kernel
theorem dX8_unpack_57 : decode cX8_unpack 57 = .ok (.iconst 0, 1) := by decide +kernel
theorem dX8_unpack_58 : decode cX8_unpack 58 = .ok (.iload_n 1, 1) := by decide +kernel
theorem dX8_unpack_59 : decode cX8_unpack 59 = .ok (.bipush 15, 2) := by decide +kernel
theorem dX8_unpack_61 : decode cX8_unpack 61 = .ok (.ishr, 1) := by decide +kernel
theorem dX8_unpack_62 : decode cX8_unpack 62 = .ok (.bipush 31, 2) := by decide +kernel
theorem dX8_unpack_64 : decode cX8_unpack 64 = .ok (.iand, 1) := by decide +kernel
theorem dX8_unpack_65 : decode cX8_unpack 65 = .ok (.iconst 1, 1) := by decide +kernel
theorem dX8_unpack_66 : decode cX8_unpack 66 = .ok (.isub, 1) := by decide +kernel
theorem dX8_unpack_67 : decode cX8_unpack 67 = .ok (.iastore, 1) := by decide +kernel
theorem dX8_unpack_68 : decode cX8_unpack 68 = .ok (.aload_n 0, 1) := by decide +kernel
theorem dX8_unpack_69 : decode cX8_unpack 69 = .ok (.getfield 37, 3) := by decide +kernel
theorem dX8_unpack_72 : decode cX8_unpack 72 = .ok (.iload_n 1, 1) := by decide +kernel
theorem dX8_unpack_73 : decode cX8_unpack 73 = .ok (.bipush 20, 2) := by decide +kernel
theorem dX8_unpack_75 : decode cX8_unpack 75 = .ok (.ishr, 1) := by decide +kernel
theorem dX8_unpack_76 : decode cX8_unpack 76 = .ok (.bipush 15, 2) := by decide +kernel
theorem dX8_unpack_78 : decode cX8_unpack 78 = .ok (.iand, 1) := by decide +kernel
theorem dX8_unpack_79 : decode cX8_unpack 79 = .ok (.iconst 1, 1) := by decide +kernel
theorem dX8_unpack_80 : decode cX8_unpack 80 = .ok (.isub, 1) := by decide +kernel
theorem dX8_unpack_81 : decode cX8_unpack 81 = .ok (.putfield 113, 3) := by decide +kernel
theorem dX8_unpack_84 : decode cX8_unpack 84 = .ok (.aload_n 0, 1) := by decide +kernel
theorem dX8_unpack_85 : decode cX8_unpack 85 = .ok (.getfield 33, 3) := by decide +kernel
theorem dX8_unpack_88 : decode cX8_unpack 88 = .ok (.iload_n 1, 1) := by decide +kernel
theorem dX8_unpack_89 : decode cX8_unpack 89 = .ok (.bipush 24, 2) := by decide +kernel
theorem dX8_unpack_91 : decode cX8_unpack 91 = .ok (.ishr, 1) := by decide +kernel
theorem dX8_unpack_92 : decode cX8_unpack 92 = .ok (.bipush 15, 2) := by decide +kernel
theorem dX8_unpack_94 : decode cX8_unpack 94 = .ok (.iand, 1) := by decide +kernel
theorem dX8_unpack_95 : decode cX8_unpack 95 = .ok (.iconst 1, 1) := by decide +kernel
theorem dX8_unpack_96 : decode cX8_unpack 96 = .ok (.isub, 1) := by decide +kernel
theorem dX8_unpack_97 : decode cX8_unpack 97 = .ok (.putfield 113, 3) := by decide +kernel
theorem dX8_unpack_100 : decode cX8_unpack 100 = .ok (.return_, 1) := by decide +kernel
theorem dX8_gatherName_0 : decode cX8_gatherName 0 = .ok (.iload_n 1, 1) := by decide +kernel
theorem dX8_gatherName_1 : decode cX8_gatherName 1 = .ok (.iconst (-1), 1) := by decide +kernel
theorem dX8_gatherName_2 : decode cX8_gatherName 2 = .ok (.if_icmp .eq 7, 3) := by decide +kernel
theorem dX8_gatherName_5 : decode cX8_gatherName 5 = .ok (.iconst 1, 1) := by decide +kernel
theorem dX8_gatherName_6 : decode cX8_gatherName 6 = .ok (.goto 4, 3) := by decide +kernel
theorem dX8_gatherName_9 : decode cX8_gatherName 9 = .ok (.iconst 0, 1) := by decide +kernel
theorem dX8_gatherName_10 : decode cX8_gatherName 10 = .ok (.istore_n 2, 1) := by decide +kernel
theorem dX8_gatherName_11 : decode cX8_gatherName 11 = .ok (.iconst 0, 1) := by decide +kernel
theorem dX8_gatherName_12 : decode cX8_gatherName 12 = .ok (.istore_n 3, 1) := by decide +kernel
theorem dX8_gatherName_13 : decode cX8_gatherName 13 = .ok (.iload_n 3, 1) := by decide +kernel
theorem dX8_gatherName_14 : decode cX8_gatherName 14 = .ok (.aload_n 0, 1) := by decide +kernel
theorem dX8_gatherName_15 : decode cX8_gatherName 15 = .ok (.getfield 98, 3) := by decide +kernel
theorem dX8_gatherName_18 : decode cX8_gatherName 18 = .ok (.if_icmp .ge 29, 3) := by decide +kernel
theorem dX8_gatherName_21 : decode cX8_gatherName 21 = .ok (.iload_n 2, 1) := by decide +kernel
theorem dX8_gatherName_22 : decode cX8_gatherName 22 = .ok (.ifCond .eq 17, 3) := by decide +kernel
theorem dX8_gatherName_25 : decode cX8_gatherName 25 = .ok (.aload_n 0, 1) := by decide +kernel
theorem dX8_gatherName_26 : decode cX8_gatherName 26 = .ok (.getfield 49, 3) := by decide +kernel
theorem dX8_gatherName_29 : decode cX8_gatherName 29 = .ok (.iload_n 3, 1) := by decide +kernel
theorem dX8_gatherName_30 : decode cX8_gatherName 30 = .ok (.iaload, 1) := by decide +kernel
theorem dX8_gatherName_31 : decode cX8_gatherName 31 = .ok (.iload_n 1, 1) := by decide +kernel
theorem dX8_gatherName_32 : decode cX8_gatherName 32 = .ok (.if_icmp .eq 7, 3) := by decide +kernel
theorem dX8_gatherName_35 : decode cX8_gatherName 35 = .ok (.iconst 1, 1) := by decide +kernel
theorem dX8_gatherName_36 : decode cX8_gatherName 36 = .ok (.goto 4, 3) := by decide +kernel
theorem dX8_gatherName_39 : decode cX8_gatherName 39 = .ok (.iconst 0, 1) := by decide +kernel
theorem dX8_gatherName_40 : decode cX8_gatherName 40 = .ok (.istore_n 2, 1) := by decide +kernel
theorem dX8_gatherName_41 : decode cX8_gatherName 41 = .ok (.iinc 3 1, 3) := by decide +kernel
theorem dX8_gatherName_44 : decode cX8_gatherName 44 = .ok (.goto (-31), 3) := by decide +kernel
theorem dX8_gatherName_47 : decode cX8_gatherName 47 = .ok (.iload_n 2, 1) := by decide +kernel
theorem dX8_gatherName_48 : decode cX8_gatherName 48 = .ok (.ifCond .eq 35, 3) := by decide +kernel
theorem dX8_gatherName_51 : decode cX8_gatherName 51 = .ok (.aload_n 0, 1) := by decide +kernel
theorem dX8_gatherName_52 : decode cX8_gatherName 52 = .ok (.getfield 98, 3) := by decide +kernel
theorem dX8_gatherName_55 : decode cX8_gatherName 55 = .ok (.aload_n 0, 1) := by decide +kernel
theorem dX8_gatherName_56 : decode cX8_gatherName 56 = .ok (.getfield 49, 3) := by decide +kernel
theorem dX8_gatherName_59 : decode cX8_gatherName 59 = .ok (.arraylength, 1) := by decide +kernel
theorem dX8_gatherName_60 : decode cX8_gatherName 60 = .ok (.if_icmp .ge 23, 3) := by decide +kernel
theorem dX8_gatherName_63 : decode cX8_gatherName 63 = .ok (.aload_n 0, 1) := by decide +kernel
theorem dX8_gatherName_64 : decode cX8_gatherName 64 = .ok (.getfield 49, 3) := by decide +kernel
theorem dX8_gatherName_67 : decode cX8_gatherName 67 = .ok (.aload_n 0, 1) := by decide +kernel
theorem dX8_gatherName_68 : decode cX8_gatherName 68 = .ok (.getfield 98, 3) := by decide +kernel
theorem dX8_gatherName_71 : decode cX8_gatherName 71 = .ok (.iload_n 1, 1) := by decide +kernel
theorem dX8_gatherName_72 : decode cX8_gatherName 72 = .ok (.iastore, 1) := by decide +kernel
theorem dX8_gatherName_73 : decode cX8_gatherName 73 = .ok (.aload_n 0, 1) := by decide +kernel
theorem dX8_gatherName_74 : decode cX8_gatherName 74 = .ok (.dup, 1) := by decide +kernel
theorem dX8_gatherName_75 : decode cX8_gatherName 75 = .ok (.getfield 98, 3) := by decide +kernel
theorem dX8_gatherName_78 : decode cX8_gatherName 78 = .ok (.iconst 1, 1) := by decide +kernel
theorem dX8_gatherName_79 : decode cX8_gatherName 79 = .ok (.iadd, 1) := by decide +kernel
theorem dX8_gatherName_80 : decode cX8_gatherName 80 = .ok (.putfield 98, 3) := by decide +kernel
theorem dX8_gatherName_83 : decode cX8_gatherName 83 = .ok (.return_, 1) := by decide +kernel
theorem dX8_gatherNames_0 : decode cX8_gatherNames 0 = .ok (.aload_n 0, 1) := by decide +kernel
theorem dX8_gatherNames_1 : decode cX8_gatherNames 1 = .ok (.iconst 0, 1) := by decide +kernel
theorem dX8_gatherNames_2 : decode cX8_gatherNames 2 = .ok (.putfield 98, 3) := by decide +kernel
theorem dX8_gatherNames_5 : decode cX8_gatherNames 5 = .ok (.aload_n 0, 1) := by decide +kernel
theorem dX8_gatherNames_6 : decode cX8_gatherNames 6 = .ok (.aload_n 0, 1) := by decide +kernel
theorem dX8_gatherNames_7 : decode cX8_gatherNames 7 = .ok (.getfield 33, 3) := by decide +kernel
theorem dX8_gatherNames_10 : decode cX8_gatherNames 10 = .ok (.getfield 109, 3) := by decide +kernel
theorem dX8_gatherNames_13 : decode cX8_gatherNames 13 = .ok (.iconst 0, 1) := by decide +kernel
theorem dX8_gatherNames_14 : decode cX8_gatherNames 14 = .ok (.iaload, 1) := by decide +kernel
theorem dX8_gatherNames_15 : decode cX8_gatherNames 15 = .ok (.invokevirtual 110, 3) := by decide +kernel
theorem dX8_gatherNames_18 : decode cX8_gatherNames 18 = .ok (.aload_n 0, 1) := by decide +kernel
theorem dX8_gatherNames_19 : decode cX8_gatherNames 19 = .ok (.aload_n 0, 1) := by decide +kernel
theorem dX8_gatherNames_20 : decode cX8_gatherNames 20 = .ok (.getfield 33, 3) := by decide +kernel
theorem dX8_gatherNames_23 : decode cX8_gatherNames 23 = .ok (.getfield 109, 3) := by decide +kernel
theorem dX8_gatherNames_26 : decode cX8_gatherNames 26 = .ok (.iconst 1, 1) := by decide +kernel
theorem dX8_gatherNames_27 : decode cX8_gatherNames 27 = .ok (.iaload, 1) := by decide +kernel
theorem dX8_gatherNames_28 : decode cX8_gatherNames 28 = .ok (.invokevirtual 110, 3) := by decide +kernel
theorem dX8_gatherNames_31 : decode cX8_gatherNames 31 = .ok (.aload_n 0, 1) := by decide +kernel
theorem dX8_gatherNames_32 : decode cX8_gatherNames 32 = .ok (.aload_n 0, 1) := by decide +kernel
theorem dX8_gatherNames_33 : decode cX8_gatherNames 33 = .ok (.getfield 37, 3) := by decide +kernel
theorem dX8_gatherNames_36 : decode cX8_gatherNames 36 = .ok (.getfield 109, 3) := by decide +kernel
theorem dX8_gatherNames_39 : decode cX8_gatherNames 39 = .ok (.iconst 0, 1) := by decide +kernel
theorem dX8_gatherNames_40 : decode cX8_gatherNames 40 = .ok (.iaload, 1) := by decide +kernel
theorem dX8_gatherNames_41 : decode cX8_gatherNames 41 = .ok (.invokevirtual 110, 3) := by decide +kernel
theorem dX8_gatherNames_44 : decode cX8_gatherNames 44 = .ok (.aload_n 0, 1) := by decide +kernel
theorem dX8_gatherNames_45 : decode cX8_gatherNames 45 = .ok (.aload_n 0, 1) := by decide +kernel
theorem dX8_gatherNames_46 : decode cX8_gatherNames 46 = .ok (.getfield 37, 3) := by decide +kernel
theorem dX8_gatherNames_49 : decode cX8_gatherNames 49 = .ok (.getfield 109, 3) := by decide +kernel
theorem dX8_gatherNames_52 : decode cX8_gatherNames 52 = .ok (.iconst 1, 1) := by decide +kernel
theorem dX8_gatherNames_53 : decode cX8_gatherNames 53 = .ok (.iaload, 1) := by decide +kernel
theorem dX8_gatherNames_54 : decode cX8_gatherNames 54 = .ok (.invokevirtual 110, 3) := by decide +kernel
theorem dX8_gatherNames_57 : decode cX8_gatherNames 57 = .ok (.aload_n 0, 1) := by decide +kernel
theorem dX8_gatherNames_58 : decode cX8_gatherNames 58 = .ok (.iload_n 1, 1) := by decide +kernel
theorem dX8_gatherNames_59 : decode cX8_gatherNames 59 = .ok (.invokevirtual 110, 3) := by decide +kernel
theorem dX8_gatherNames_62 : decode cX8_gatherNames 62 = .ok (.return_, 1) := by decide +kernel
theorem dX8_goOn_0 : decode cX8_goOn 0 = .ok (.aload_n 0, 1) := by decide +kernel
theorem dX8_goOn_1 : decode cX8_goOn 1 = .ok (.aload_n 0, 1) := by decide +kernel
theorem dX8_goOn_2 : decode cX8_goOn 2 = .ok (.getfield 15, 3) := by decide +kernel
theorem dX8_goOn_5 : decode cX8_goOn 5 = .ok (.iload_n 1, 1) := by decide +kernel
theorem dX8_goOn_6 : decode cX8_goOn 6 = .ok (.iaload, 1) := by decide +kernel
theorem dX8_goOn_7 : decode cX8_goOn 7 = .ok (.invokevirtual 91, 3) := by decide +kernel
theorem dX8_goOn_10 : decode cX8_goOn 10 = .ok (.aload_n 0, 1) := by decide +kernel
theorem dX8_goOn_11 : decode cX8_goOn 11 = .ok (.aload_n 0, 1) := by decide +kernel
theorem dX8_goOn_12 : decode cX8_goOn 12 = .ok (.getfield 24, 3) := by decide +kernel
theorem dX8_goOn_15 : decode cX8_goOn 15 = .ok (.iload_n 1, 1) := by decide +kernel
theorem dX8_goOn_16 : decode cX8_goOn 16 = .ok (.iaload, 1) := by decide +kernel
theorem dX8_goOn_17 : decode cX8_goOn 17 = .ok (.invokevirtual 95, 3) := by decide +kernel
theorem dX8_goOn_20 : decode cX8_goOn 20 = .ok (.iconst 0, 1) := by decide +kernel
theorem dX8_goOn_21 : decode cX8_goOn 21 = .ok (.istore 5, 2) := by decide +kernel
theorem dX8_goOn_23 : decode cX8_goOn 23 = .ok (.iload 5, 2) := by decide +kernel
theorem dX8_goOn_25 : decode cX8_goOn 25 = .ok (.iload 4, 2) := by decide +kernel
theorem dX8_goOn_27 : decode cX8_goOn 27 = .ok (.if_icmp .ge 121, 3) := by decide +kernel
theorem dX8_goOn_30 : decode cX8_goOn 30 = .ok (.iconst 0, 1) := by decide +kernel
theorem dX8_goOn_31 : decode cX8_goOn 31 = .ok (.istore 6, 2) := by decide +kernel
theorem dX8_goOn_33 : decode cX8_goOn 33 = .ok (.iload 6, 2) := by decide +kernel
theorem dX8_goOn_35 : decode cX8_goOn 35 = .ok (.aload_n 0, 1) := by decide +kernel
theorem dX8_goOn_36 : decode cX8_goOn 36 = .ok (.getfield 98, 3) := by decide +kernel
theorem dX8_goOn_39 : decode cX8_goOn 39 = .ok (.if_icmp .ge 103, 3) := by decide +kernel
theorem dX8_goOn_42 : decode cX8_goOn 42 = .ok (.aload_n 0, 1) := by decide +kernel
theorem dX8_goOn_43 : decode cX8_goOn 43 = .ok (.getfield 40, 3) := by decide +kernel
theorem dX8_goOn_46 : decode cX8_goOn 46 = .ok (.aload_n 0, 1) := by decide +kernel
theorem dX8_goOn_47 : decode cX8_goOn 47 = .ok (.getfield 33, 3) := by decide +kernel
theorem dX8_goOn_50 : decode cX8_goOn 50 = .ok (.invokevirtual 101, 3) := by decide +kernel
theorem dX8_goOn_53 : decode cX8_goOn 53 = .ok (.aload_n 0, 1) := by decide +kernel
theorem dX8_goOn_54 : decode cX8_goOn 54 = .ok (.getfield 43, 3) := by decide +kernel
theorem dX8_goOn_57 : decode cX8_goOn 57 = .ok (.aload_n 0, 1) := by decide +kernel
theorem dX8_goOn_58 : decode cX8_goOn 58 = .ok (.getfield 37, 3) := by decide +kernel
theorem dX8_goOn_61 : decode cX8_goOn 61 = .ok (.invokevirtual 101, 3) := by decide +kernel
theorem dX8_goOn_64 : decode cX8_goOn 64 = .ok (.aload_n 2, 1) := by decide +kernel
theorem dX8_goOn_65 : decode cX8_goOn 65 = .ok (.aload_n 0, 1) := by decide +kernel
theorem dX8_goOn_66 : decode cX8_goOn 66 = .ok (.getfield 40, 3) := by decide +kernel
theorem dX8_goOn_69 : decode cX8_goOn 69 = .ok (.iload 5, 2) := by decide +kernel
theorem dX8_goOn_71 : decode cX8_goOn 71 = .ok (.aload_n 0, 1) := by decide +kernel
theorem dX8_goOn_72 : decode cX8_goOn 72 = .ok (.getfield 49, 3) := by decide +kernel
theorem dX8_goOn_75 : decode cX8_goOn 75 = .ok (.iload 6, 2) := by decide +kernel
theorem dX8_goOn_77 : decode cX8_goOn 77 = .ok (.iaload, 1) := by decide +kernel
theorem dX8_goOn_78 : decode cX8_goOn 78 = .ok (.invokevirtual 105, 3) := by decide +kernel
theorem dX8_goOn_81 : decode cX8_goOn 81 = .ok (.aload_n 3, 1) := by decide +kernel
theorem dX8_goOn_82 : decode cX8_goOn 82 = .ok (.aload_n 0, 1) := by decide +kernel
theorem dX8_goOn_83 : decode cX8_goOn 83 = .ok (.getfield 43, 3) := by decide +kernel
theorem dX8_goOn_86 : decode cX8_goOn 86 = .ok (.iload 5, 2) := by decide +kernel
theorem dX8_goOn_88 : decode cX8_goOn 88 = .ok (.aload_n 0, 1) := by decide +kernel
theorem dX8_goOn_89 : decode cX8_goOn 89 = .ok (.getfield 49, 3) := by decide +kernel
theorem dX8_goOn_92 : decode cX8_goOn 92 = .ok (.iload 6, 2) := by decide +kernel
theorem dX8_goOn_94 : decode cX8_goOn 94 = .ok (.iaload, 1) := by decide +kernel
theorem dX8_goOn_95 : decode cX8_goOn 95 = .ok (.invokevirtual 105, 3) := by decide +kernel
theorem dX8_goOn_98 : decode cX8_goOn 98 = .ok (.aload_n 0, 1) := by decide +kernel
theorem dX8_goOn_99 : decode cX8_goOn 99 = .ok (.iload_n 1, 1) := by decide +kernel
theorem dX8_goOn_100 : decode cX8_goOn 100 = .ok (.iload 5, 2) := by decide +kernel
theorem dX8_goOn_102 : decode cX8_goOn 102 = .ok (.aload_n 0, 1) := by decide +kernel
theorem dX8_goOn_103 : decode cX8_goOn 103 = .ok (.getfield 49, 3) := by decide +kernel
theorem dX8_goOn_106 : decode cX8_goOn 106 = .ok (.iload 6, 2) := by decide +kernel
theorem dX8_goOn_108 : decode cX8_goOn 108 = .ok (.iaload, 1) := by decide +kernel
theorem dX8_goOn_109 : decode cX8_goOn 109 = .ok (.invokevirtual 73, 3) := by decide +kernel
theorem dX8_goOn_112 : decode cX8_goOn 112 = .ok (.ifCond .eq 24, 3) := by decide +kernel
theorem dX8_goOn_115 : decode cX8_goOn 115 = .ok (.aload_n 2, 1) := by decide +kernel
theorem dX8_goOn_116 : decode cX8_goOn 116 = .ok (.aload_n 0, 1) := by decide +kernel
theorem dX8_goOn_117 : decode cX8_goOn 117 = .ok (.getfield 40, 3) := by decide +kernel
theorem dX8_goOn_120 : decode cX8_goOn 120 = .ok (.invokevirtual 77, 3) := by decide +kernel
theorem dX8_goOn_123 : decode cX8_goOn 123 = .ok (.aload_n 3, 1) := by decide +kernel
theorem dX8_goOn_124 : decode cX8_goOn 124 = .ok (.aload_n 0, 1) := by decide +kernel
theorem dX8_goOn_125 : decode cX8_goOn 125 = .ok (.getfield 43, 3) := by decide +kernel
theorem dX8_goOn_128 : decode cX8_goOn 128 = .ok (.invokevirtual 77, 3) := by decide +kernel
theorem dX8_goOn_131 : decode cX8_goOn 131 = .ok (.if_icmp .eq 5, 3) := by decide +kernel
theorem dX8_goOn_134 : decode cX8_goOn 134 = .ok (.iconst 1, 1) := by decide +kernel
theorem dX8_goOn_135 : decode cX8_goOn 135 = .ok (.ireturn, 1) := by decide +kernel
theorem dX8_goOn_136 : decode cX8_goOn 136 = .ok (.iinc 6 1, 3) := by decide +kernel
theorem dX8_goOn_139 : decode cX8_goOn 139 = .ok (.goto (-106), 3) := by decide +kernel
theorem dX8_goOn_142 : decode cX8_goOn 142 = .ok (.iinc 5 1, 3) := by decide +kernel
theorem dX8_goOn_145 : decode cX8_goOn 145 = .ok (.goto (-122), 3) := by decide +kernel
theorem dX8_goOn_148 : decode cX8_goOn 148 = .ok (.iconst 0, 1) := by decide +kernel
theorem dX8_goOn_149 : decode cX8_goOn 149 = .ok (.ireturn, 1) := by decide +kernel
theorem dX8_spell_0 : decode cX8_spell 0 = .ok (.aload_n 0, 1) := by decide +kernel
theorem dX8_spell_1 : decode cX8_spell 1 = .ok (.getfield 27, 3) := by decide +kernel
theorem dX8_spell_4 : decode cX8_spell 4 = .ok (.iload_n 1, 1) := by decide +kernel
theorem dX8_spell_5 : decode cX8_spell 5 = .ok (.iaload, 1) := by decide +kernel
theorem dX8_spell_6 : decode cX8_spell 6 = .ok (.istore_n 3, 1) := by decide +kernel
theorem dX8_spell_7 : decode cX8_spell 7 = .ok (.iload_n 1, 1) := by decide +kernel
theorem dX8_spell_8 : decode cX8_spell 8 = .ok (.istore 4, 2) := by decide +kernel
theorem dX8_spell_10 : decode cX8_spell 10 = .ok (.iload_n 3, 1) := by decide +kernel
theorem dX8_spell_11 : decode cX8_spell 11 = .ok (.iconst 1, 1) := by decide +kernel
theorem dX8_spell_12 : decode cX8_spell 12 = .ok (.isub, 1) := by decide +kernel
theorem dX8_spell_13 : decode cX8_spell 13 = .ok (.istore 5, 2) := by decide +kernel
theorem dX8_spell_15 : decode cX8_spell 15 = .ok (.iload 5, 2) := by decide +kernel
theorem dX8_spell_17 : decode cX8_spell 17 = .ok (.ifCond .lt 37, 3) := by decide +kernel
theorem dX8_spell_20 : decode cX8_spell 20 = .ok (.iload 4, 2) := by decide +kernel
theorem dX8_spell_22 : decode cX8_spell 22 = .ok (.ifCond .le 32, 3) := by decide +kernel
theorem dX8_spell_25 : decode cX8_spell 25 = .ok (.aload_n 0, 1) := by decide +kernel
theorem dX8_spell_26 : decode cX8_spell 26 = .ok (.getfield 52, 3) := by decide +kernel
theorem dX8_spell_29 : decode cX8_spell 29 = .ok (.iload 5, 2) := by decide +kernel
theorem dX8_spell_31 : decode cX8_spell 31 = .ok (.aload_n 0, 1) := by decide +kernel
theorem dX8_spell_32 : decode cX8_spell 32 = .ok (.getfield 21, 3) := by decide +kernel
theorem dX8_spell_35 : decode cX8_spell 35 = .ok (.iload 4, 2) := by decide +kernel
theorem dX8_spell_37 : decode cX8_spell 37 = .ok (.iaload, 1) := by decide +kernel
theorem dX8_spell_38 : decode cX8_spell 38 = .ok (.iastore, 1) := by decide +kernel
theorem dX8_spell_39 : decode cX8_spell 39 = .ok (.aload_n 0, 1) := by decide +kernel
theorem dX8_spell_40 : decode cX8_spell 40 = .ok (.getfield 18, 3) := by decide +kernel
theorem dX8_spell_43 : decode cX8_spell 43 = .ok (.iload 4, 2) := by decide +kernel
theorem dX8_spell_45 : decode cX8_spell 45 = .ok (.iaload, 1) := by decide +kernel
theorem dX8_spell_46 : decode cX8_spell 46 = .ok (.istore 4, 2) := by decide +kernel
theorem dX8_spell_48 : decode cX8_spell 48 = .ok (.iinc 5 (-1), 3) := by decide +kernel
theorem dX8_spell_51 : decode cX8_spell 51 = .ok (.goto (-36), 3) := by decide +kernel
theorem dX8_spell_54 : decode cX8_spell 54 = .ok (.iconst 0, 1) := by decide +kernel
theorem dX8_spell_55 : decode cX8_spell 55 = .ok (.istore 5, 2) := by decide +kernel
theorem dX8_spell_57 : decode cX8_spell 57 = .ok (.iload 5, 2) := by decide +kernel
theorem dX8_spell_59 : decode cX8_spell 59 = .ok (.iload_n 3, 1) := by decide +kernel
theorem dX8_spell_60 : decode cX8_spell 60 = .ok (.if_icmp .ge 35, 3) := by decide +kernel
theorem dX8_spell_63 : decode cX8_spell 63 = .ok (.aload_n 2, 1) := by decide +kernel
theorem dX8_spell_64 : decode cX8_spell 64 = .ok (.aload_n 0, 1) := by decide +kernel
theorem dX8_spell_65 : decode cX8_spell 65 = .ok (.getfield 52, 3) := by decide +kernel
theorem dX8_spell_68 : decode cX8_spell 68 = .ok (.iload 5, 2) := by decide +kernel
theorem dX8_spell_70 : decode cX8_spell 70 = .ok (.iaload, 1) := by decide +kernel
theorem dX8_spell_71 : decode cX8_spell 71 = .ok (.sipush 1000, 3) := by decide +kernel
theorem dX8_spell_74 : decode cX8_spell 74 = .ok (.idiv, 1) := by decide +kernel
theorem dX8_spell_75 : decode cX8_spell 75 = .ok (.aload_n 0, 1) := by decide +kernel
theorem dX8_spell_76 : decode cX8_spell 76 = .ok (.getfield 52, 3) := by decide +kernel
theorem dX8_spell_79 : decode cX8_spell 79 = .ok (.iload 5, 2) := by decide +kernel
theorem dX8_spell_81 : decode cX8_spell 81 = .ok (.iaload, 1) := by decide +kernel
theorem dX8_spell_82 : decode cX8_spell 82 = .ok (.sipush 1000, 3) := by decide +kernel
theorem dX8_spell_85 : decode cX8_spell 85 = .ok (.irem, 1) := by decide +kernel
theorem dX8_spell_86 : decode cX8_spell 86 = .ok (.invokevirtual 129, 3) := by decide +kernel
theorem dX8_spell_89 : decode cX8_spell 89 = .ok (.iinc 5 1, 3) := by decide +kernel
theorem dX8_spell_92 : decode cX8_spell 92 = .ok (.goto (-35), 3) := by decide +kernel
theorem dX8_spell_95 : decode cX8_spell 95 = .ok (.return_, 1) := by decide +kernel
theorem dX8_find_0 : decode cX8_find 0 = .ok (.aload 4, 2) := by decide +kernel
theorem dX8_find_2 : decode cX8_find 2 = .ok (.invokevirtual 55, 3) := by decide +kernel
theorem dX8_find_5 : decode cX8_find 5 = .ok (.aload_n 0, 1) := by decide +kernel
theorem dX8_find_6 : decode cX8_find 6 = .ok (.getfield 11, 3) := by decide +kernel
theorem dX8_find_9 : decode cX8_find 9 = .ok (.iconst 0, 1) := by decide +kernel
theorem dX8_find_10 : decode cX8_find 10 = .ok (.invokestatic 60, 3) := by decide +kernel
theorem dX8_find_13 : decode cX8_find 13 = .ok (.aload_n 0, 1) := by decide +kernel
theorem dX8_find_14 : decode cX8_find 14 = .ok (.iconst 0, 1) := by decide +kernel
theorem dX8_find_15 : decode cX8_find 15 = .ok (.putfield 66, 3) := by decide +kernel
theorem dX8_find_18 : decode cX8_find 18 = .ok (.aload_n 0, 1) := by decide +kernel
theorem dX8_find_19 : decode cX8_find 19 = .ok (.getfield 40, 3) := by decide +kernel
theorem dX8_find_22 : decode cX8_find 22 = .ok (.invokevirtual 70, 3) := by decide +kernel
theorem dX8_find_25 : decode cX8_find 25 = .ok (.aload_n 0, 1) := by decide +kernel
theorem dX8_find_26 : decode cX8_find 26 = .ok (.getfield 43, 3) := by decide +kernel
theorem dX8_find_29 : decode cX8_find 29 = .ok (.invokevirtual 70, 3) := by decide +kernel
theorem dX8_find_32 : decode cX8_find 32 = .ok (.aload_n 0, 1) := by decide +kernel
theorem dX8_find_33 : decode cX8_find 33 = .ok (.iconst (-1), 1) := by decide +kernel
theorem dX8_find_34 : decode cX8_find 34 = .ok (.iconst 0, 1) := by decide +kernel
theorem dX8_find_35 : decode cX8_find 35 = .ok (.iconst 0, 1) := by decide +kernel
theorem dX8_find_36 : decode cX8_find 36 = .ok (.invokevirtual 73, 3) := by decide +kernel
theorem dX8_find_39 : decode cX8_find 39 = .ok (.pop, 1) := by decide +kernel
theorem dX8_find_40 : decode cX8_find 40 = .ok (.aload_n 1, 1) := by decide +kernel
theorem dX8_find_41 : decode cX8_find 41 = .ok (.aload_n 0, 1) := by decide +kernel
theorem dX8_find_42 : decode cX8_find 42 = .ok (.getfield 40, 3) := by decide +kernel
theorem dX8_find_45 : decode cX8_find 45 = .ok (.invokevirtual 77, 3) := by decide +kernel
theorem dX8_find_48 : decode cX8_find 48 = .ok (.aload_n 2, 1) := by decide +kernel
theorem dX8_find_49 : decode cX8_find 49 = .ok (.aload_n 0, 1) := by decide +kernel
theorem dX8_find_50 : decode cX8_find 50 = .ok (.getfield 43, 3) := by decide +kernel
theorem dX8_find_53 : decode cX8_find 53 = .ok (.invokevirtual 77, 3) := by decide +kernel
theorem dX8_find_56 : decode cX8_find 56 = .ok (.if_icmp .eq 5, 3) := by decide +kernel
theorem dX8_find_59 : decode cX8_find 59 = .ok (.iconst 1, 1) := by decide +kernel
theorem dX8_find_60 : decode cX8_find 60 = .ok (.ireturn, 1) := by decide +kernel
theorem dX8_find_61 : decode cX8_find 61 = .ok (.iconst 0, 1) := by decide +kernel
theorem dX8_find_62 : decode cX8_find 62 = .ok (.istore 5, 2) := by decide +kernel
theorem dX8_find_64 : decode cX8_find 64 = .ok (.iload 5, 2) := by decide +kernel
theorem dX8_find_66 : decode cX8_find 66 = .ok (.aload_n 0, 1) := by decide +kernel
theorem dX8_find_67 : decode cX8_find 67 = .ok (.getfield 66, 3) := by decide +kernel
theorem dX8_find_70 : decode cX8_find 70 = .ok (.if_icmp .ge 55, 3) := by decide +kernel
theorem dX8_find_73 : decode cX8_find 73 = .ok (.iload 5, 2) := by decide +kernel
theorem dX8_find_75 : decode cX8_find 75 = .ok (.sipush 1351, 3) := by decide +kernel
theorem dX8_find_78 : decode cX8_find 78 = .ok (.if_icmp .ge 47, 3) := by decide +kernel
theorem dX8_find_81 : decode cX8_find 81 = .ok (.aload_n 0, 1) := by decide +kernel
theorem dX8_find_82 : decode cX8_find 82 = .ok (.getfield 27, 3) := by decide +kernel
theorem dX8_find_85 : decode cX8_find 85 = .ok (.iload 5, 2) := by decide +kernel
theorem dX8_find_87 : decode cX8_find 87 = .ok (.iaload, 1) := by decide +kernel
theorem dX8_find_88 : decode cX8_find 88 = .ok (.bipush 20, 2) := by decide +kernel
theorem dX8_find_90 : decode cX8_find 90 = .ok (.if_icmp .ge 29, 3) := by decide +kernel
theorem dX8_find_93 : decode cX8_find 93 = .ok (.aload_n 0, 1) := by decide +kernel
theorem dX8_find_94 : decode cX8_find 94 = .ok (.iload 5, 2) := by decide +kernel
theorem dX8_find_96 : decode cX8_find 96 = .ok (.aload_n 1, 1) := by decide +kernel
theorem dX8_find_97 : decode cX8_find 97 = .ok (.aload_n 2, 1) := by decide +kernel
theorem dX8_find_98 : decode cX8_find 98 = .ok (.iload_n 3, 1) := by decide +kernel
theorem dX8_find_99 : decode cX8_find 99 = .ok (.invokevirtual 83, 3) := by decide +kernel
theorem dX8_find_102 : decode cX8_find 102 = .ok (.ifCond .eq 17, 3) := by decide +kernel
theorem dX8_find_105 : decode cX8_find 105 = .ok (.aload_n 0, 1) := by decide +kernel
theorem dX8_find_106 : decode cX8_find 106 = .ok (.aload_n 0, 1) := by decide +kernel
theorem dX8_find_107 : decode cX8_find 107 = .ok (.getfield 66, 3) := by decide +kernel
theorem dX8_find_110 : decode cX8_find 110 = .ok (.iconst 1, 1) := by decide +kernel
theorem dX8_find_111 : decode cX8_find 111 = .ok (.isub, 1) := by decide +kernel
theorem dX8_find_112 : decode cX8_find 112 = .ok (.aload 4, 2) := by decide +kernel
theorem dX8_find_114 : decode cX8_find 114 = .ok (.invokevirtual 87, 3) := by decide +kernel
theorem dX8_find_117 : decode cX8_find 117 = .ok (.iconst 1, 1) := by decide +kernel
theorem dX8_find_118 : decode cX8_find 118 = .ok (.ireturn, 1) := by decide +kernel
theorem dX8_find_119 : decode cX8_find 119 = .ok (.iinc 5 1, 3) := by decide +kernel
theorem dX8_find_122 : decode cX8_find 122 = .ok (.goto (-58), 3) := by decide +kernel
theorem dX8_find_125 : decode cX8_find 125 = .ok (.iconst 0, 1) := by decide +kernel
theorem dX8_find_126 : decode cX8_find 126 = .ok (.ireturn, 1) := by decide +kernel
def f_X8_likeness_69 (k6 : Int32 → Int32 → Int32 → Dm → Option (Int32 × Dm)) (k42 : Int32 → Int32 → Int32 → Int32 → Int32 → Int32 → Dm → Option (Int32 × Dm)) (x1 : Int32) (x2 : Int32) (x3 : Int32) (x4 : Int32) (x5 : Int32) (x6 : Int32) (D : Dm) : Option (Int32 × Dm) := lt (x5 / 5) fun y1 => lt (x6 + (-1)) fun y3 => k42 x1 x2 x3 x4 y1 y3 D
def f_X8_likeness_42_b (k6 : Int32 → Int32 → Int32 → Dm → Option (Int32 × Dm)) (k42 : Int32 → Int32 → Int32 → Int32 → Int32 → Int32 → Dm → Option (Int32 × Dm)) (x1 : Int32) (x2 : Int32) (x3 : Int32) (x4 : Int32) (x5 : Int32) (x6 : Int32) (D : Dm) : Option (Int32 × Dm) := if x6 < 0 then (lt (mxI x2 x4) fun y2 => lt ((x1 * 5) + x4) fun y4 => lt (x3 + 1) fun y6 => k6 y4 y2 y6 D) else (gd (inB x6 4) (gd (inB x3 4) (if (D 40 (Int32.toNatClampNeg x6)) = (D 40 (Int32.toNatClampNeg x3)) then (lt (x5 - x5 / 5 * 5) fun y11 => f_X8_likeness_69 k6 k42 x1 x2 x3 y11 x5 x6 D) else (f_X8_likeness_69 k6 k42 x1 x2 x3 x4 x5 x6 D))))
def f_X8_likeness_42 (k6 : Int32 → Int32 → Int32 → Dm → Option (Int32 × Dm)) : Nat → Int32 → Int32 → Int32 → Int32 → Int32 → Int32 → Dm → Option (Int32 × Dm)
  | 0, _, _, _, _, _, _, _ => none
  | n + 1, x1, x2, x3, x4, x5, x6, D => f_X8_likeness_42_b k6 (f_X8_likeness_42 k6 n) x1 x2 x3 x4 x5 x6 D
def f_X8_likeness_32 (k6 : Int32 → Int32 → Int32 → Dm → Option (Int32 × Dm)) (x1 : Int32) (x2 : Int32) (x3 : Int32) (xs0 : Int32) (D : Dm) : Option (Int32 × Dm) := lt (x3 - 1) fun y1 => f_X8_likeness_42 k6 FU x1 x2 x3 xs0 x1 y1 D
def f_X8_likeness_6_b (k6 : Int32 → Int32 → Int32 → Dm → Option (Int32 × Dm)) (x1 : Int32) (x2 : Int32) (x3 : Int32) (D : Dm) : Option (Int32 × Dm) := if 4 ≤ x3 then (some (x1, D)) else (gd (inB x3 4) (if (D 40 (Int32.toNatClampNeg x3)) = (-1) then (f_X8_likeness_32 k6 x1 x2 x3 0 D) else (f_X8_likeness_32 k6 x1 x2 x3 (x2 + 1) D)))
def f_X8_likeness_6 : Nat → Int32 → Int32 → Int32 → Dm → Option (Int32 × Dm)
  | 0, _, _, _, _ => none
  | n + 1, x1, x2, x3, D => f_X8_likeness_6_b (f_X8_likeness_6 n) x1 x2 x3 D
def f_X8_likeness  (D : Dm) : Option (Int32 × Dm) := f_X8_likeness_6 FU 0 0 0 D
def f_X8_pack_25_b (k25 : Int32 → Int32 → Dm → Option (Int32 × Dm)) (x1 : Int32) (x2 : Int32) (D : Dm) : Option (Int32 × Dm) := if 4 ≤ x2 then (some (x1, D)) else (gd (inB x2 4) (lt (((x1 * 32) + (D 40 (Int32.toNatClampNeg x2))) + 1) fun y3 => lt (x2 + 1) fun y5 => k25 y3 y5 D))
def f_X8_pack_25 : Nat → Int32 → Int32 → Dm → Option (Int32 × Dm)
  | 0, _, _, _ => none
  | n + 1, x1, x2, D => f_X8_pack_25_b (f_X8_pack_25 n) x1 x2 D
def f_X8_pack  (D : Dm) : Option (Int32 × Dm) := lt (((((D 36 0) + 1) * 16) + (D 38 0)) + 1) fun y1 => f_X8_pack_25 FU y1 0 D
def f_X8_enter_237 (xs0 : Int32) (xs1 : Int32) (D : Dm) : Option (Int32 × Dm) := gd (inB xs1 1351) (lt (ud D 30 (Int32.toNatClampNeg xs1) xs0) fun D2 => lt (ud D2 25 14 ((D2 25 14) + 1)) fun D4 => some (1, D4))
def f_X8_enter_207 (x1 : Int32) (x3 : Int32) (xs0 : Int32) (xs1 : Int32) (D : Dm) : Option (Int32 × Dm) := gd (inB xs1 1351) (lt (ud D 31 (Int32.toNatClampNeg xs1) xs0) fun D2 => if x1 = (-1) then (f_X8_enter_237 0 (D2 25 14) D2) else (gd (inB x1 1351) (f_X8_enter_237 (mxI (D2 30 (Int32.toNatClampNeg x1)) (x3 + 1)) (D2 25 14) D2)))
def f_X8_enter (x1 : Int32) (x2 : Int32) (x3 : Int32) (D : Dm) : Option (Int32 × Dm) := lt (ud D 40 0 (D 37 0)) fun D3 => lt (ud D3 40 1 (D3 37 1)) fun D7 => lt (ud D7 40 2 (D7 39 0)) fun D11 => lt (ud D11 40 3 (D11 39 1)) fun D15 => bI (f_X8_likeness D15) fun y19 D17 => lt (((((((D15 36 0) + 1) * 11) + (D15 38 0)) + 1) * 625) + y19) fun y20 => lt (1 <<< ((y20 &&& 31) &&& 31)) fun y22 => gd (inB (y20 >>> (5 &&& 31)) 1290) (if ((D17 26 (Int32.toNatClampNeg (y20 >>> (5 &&& 31)))) &&& y22) = 0 then (if (D17 25 14) < 1351 then (gd (inB (y20 >>> (5 &&& 31)) 1290) (gd (inB (y20 >>> (5 &&& 31)) 1290) (lt (ud D17 26 (Int32.toNatClampNeg (y20 >>> (5 &&& 31))) ((D17 26 (Int32.toNatClampNeg (y20 >>> (5 &&& 31)))) ||| y22)) fun D29 => bI (f_X8_pack D29) fun y33 D31 => gd (inB (D29 25 14) 1351) (lt (ud D31 27 (Int32.toNatClampNeg (D29 25 14)) y33) fun D35 => gd (inB (D35 25 14) 1351) (lt (ud D35 28 (Int32.toNatClampNeg (D35 25 14)) x1) fun D38 => gd (inB (D38 25 14) 1351) (lt (ud D38 29 (Int32.toNatClampNeg (D38 25 14)) ((x2 * 1000) + x3)) fun D41 => if x1 = (-1) then (f_X8_enter_207 x1 x3 0 (D41 25 14) D41) else (gd (inB x1 1351) (f_X8_enter_207 x1 x3 ((D41 31 (Int32.toNatClampNeg x1)) + 1) (D41 25 14) D41)))))))) else (some (0, D17))) else (some (0, D17)))
def f_X8_unpack (x1 : Int32) (D : Dm) : Option Dm := lt (ud D 35 1 ((x1 &&& 31) - 1)) fun D2 => lt (ud D2 35 0 (((x1 >>> (5 &&& 31)) &&& 31) - 1)) fun D5 => lt (ud D5 33 1 (((x1 >>> (10 &&& 31)) &&& 31) - 1)) fun D8 => lt (ud D8 33 0 (((x1 >>> (15 &&& 31)) &&& 31) - 1)) fun D11 => lt (ud D11 34 0 (((x1 >>> (20 &&& 31)) &&& 15) - 1)) fun D13 => lt (ud D13 32 0 (((x1 >>> (24 &&& 31)) &&& 15) - 1)) fun D15 => some D15
def f_X8_gatherName_40 (k13 : Int32 → Int32 → Int32 → Dm → Option Dm) (x1 : Int32) (x3 : Int32) (xs0 : Int32) (D : Dm) : Option Dm := lt (x3 + 1) fun y1 => k13 x1 xs0 y1 D
def f_X8_gatherName_39 (k13 : Int32 → Int32 → Int32 → Dm → Option Dm) (x1 : Int32) (x3 : Int32) (D : Dm) : Option Dm := f_X8_gatherName_40 k13 x1 x3 0 D
def f_X8_gatherName_13_b (k13 : Int32 → Int32 → Int32 → Dm → Option Dm) (x1 : Int32) (x2 : Int32) (x3 : Int32) (D : Dm) : Option Dm := if (D 25 13) ≤ x3 then (if x2 = 0 then (some D) else (if 5 ≤ (D 25 13) then (some D) else (gd (inB (D 25 13) 5) (lt (ud D 41 (Int32.toNatClampNeg (D 25 13)) x1) fun D5 => lt (ud D5 25 13 ((D5 25 13) + 1)) fun D7 => some D7)))) else (if x2 = 0 then (f_X8_gatherName_39 k13 x1 x3 D) else (gd (inB x3 5) (if (D 41 (Int32.toNatClampNeg x3)) = x1 then (f_X8_gatherName_39 k13 x1 x3 D) else (f_X8_gatherName_40 k13 x1 x3 1 D))))
def f_X8_gatherName_13 : Nat → Int32 → Int32 → Int32 → Dm → Option Dm
  | 0, _, _, _, _ => none
  | n + 1, x1, x2, x3, D => f_X8_gatherName_13_b (f_X8_gatherName_13 n) x1 x2 x3 D
def f_X8_gatherName_10 (x1 : Int32) (xs0 : Int32) (D : Dm) : Option Dm := f_X8_gatherName_13 FU x1 xs0 0 D
def f_X8_gatherName (x1 : Int32) (D : Dm) : Option Dm := if x1 = (-1) then (f_X8_gatherName_10 x1 0 D) else (f_X8_gatherName_10 x1 1 D)
def f_X8_gatherNames (x1 : Int32) (D : Dm) : Option Dm := lt (ud D 25 13 0) fun D1 => bV (f_X8_gatherName (D1 33 0) D1) fun D4 => bV (f_X8_gatherName (D4 33 1) D4) fun D7 => bV (f_X8_gatherName (D7 35 0) D7) fun D10 => bV (f_X8_gatherName (D10 35 1) D10) fun D13 => bV (f_X8_gatherName x1 D13) fun D15 => some D15
def f_X8_goOn_m_136 (k23 : Int32 → Int32 → Int32 → Dm → Option (Int32 × Dm)) (k33 : Int32 → Int32 → Int32 → Int32 → Dm → Option (Int32 × Dm)) (x1 : Int32) (x4 : Int32) (x5 : Int32) (x6 : Int32) (D : Dm) : Option (Int32 × Dm) := lt (x6 + 1) fun y1 => k33 x1 x4 x5 y1 D
def f_X8_goOn_m_33_b (k23 : Int32 → Int32 → Int32 → Dm → Option (Int32 × Dm)) (k33 : Int32 → Int32 → Int32 → Int32 → Dm → Option (Int32 × Dm)) (x1 : Int32) (x4 : Int32) (x5 : Int32) (x6 : Int32) (D : Dm) : Option (Int32 × Dm) := if (D 25 13) ≤ x6 then (lt (x5 + 1) fun y2 => k23 x1 x4 y2 D) else (bV (f_X1_copy 36 32 D) fun D4 => bV (f_X1_copy 38 34 D4) fun D6 => gd (inB x6 5) (bV (f_X4_advance 9 36 x5 (D6 41 (Int32.toNatClampNeg x6)) D6) fun D9 => gd (inB x6 5) (bV (f_X4_advance 13 38 x5 (D9 41 (Int32.toNatClampNeg x6)) D9) fun D12 => gd (inB x6 5) (bI (f_X8_enter x1 x5 (D12 41 (Int32.toNatClampNeg x6)) D12) fun y17 D15 => if y17 = 0 then (f_X8_goOn_m_136 k23 k33 x1 x4 x5 x6 D15) else (bI (f_X4_takes 9 36 D15) fun y21 D19 => bI (f_X4_takes 13 38 D19) fun y24 D22 => if y21 = y24 then (f_X8_goOn_m_136 k23 k33 x1 x4 x5 x6 D22) else (some (1, D22)))))))
def f_X8_goOn_m_33 (k23 : Int32 → Int32 → Int32 → Dm → Option (Int32 × Dm)) : Nat → Int32 → Int32 → Int32 → Int32 → Dm → Option (Int32 × Dm)
  | 0, _, _, _, _, _ => none
  | n + 1, x1, x4, x5, x6, D => f_X8_goOn_m_33_b k23 (f_X8_goOn_m_33 k23 n) x1 x4 x5 x6 D
def f_X8_goOn_m_23_b (k23 : Int32 → Int32 → Int32 → Dm → Option (Int32 × Dm)) (x1 : Int32) (x4 : Int32) (x5 : Int32) (D : Dm) : Option (Int32 × Dm) := if x4 ≤ x5 then (some (0, D)) else (f_X8_goOn_m_33 k23 FU x1 x4 x5 0 D)
def f_X8_goOn_m_23 : Nat → Int32 → Int32 → Int32 → Dm → Option (Int32 × Dm)
  | 0, _, _, _, _ => none
  | n + 1, x1, x4, x5, D => f_X8_goOn_m_23_b (f_X8_goOn_m_23 n) x1 x4 x5 D
def f_X8_goOn_m (x1 : Int32) (x4 : Int32) (D : Dm) : Option (Int32 × Dm) := gd (inB x1 1351) (bV (f_X8_unpack (D 27 (Int32.toNatClampNeg x1)) D) fun D2 => gd (inB x1 1351) (bV (f_X8_gatherNames (D2 30 (Int32.toNatClampNeg x1)) D2) fun D5 => f_X8_goOn_m_23 FU x1 x4 0 D5))
def f_X8_goOn_h_136 (k23 : Int32 → Int32 → Int32 → Dm → Option (Int32 × Dm)) (k33 : Int32 → Int32 → Int32 → Int32 → Dm → Option (Int32 × Dm)) (x1 : Int32) (x4 : Int32) (x5 : Int32) (x6 : Int32) (D : Dm) : Option (Int32 × Dm) := lt (x6 + 1) fun y1 => k33 x1 x4 x5 y1 D
def f_X8_goOn_h_33_b (k23 : Int32 → Int32 → Int32 → Dm → Option (Int32 × Dm)) (k33 : Int32 → Int32 → Int32 → Int32 → Dm → Option (Int32 × Dm)) (x1 : Int32) (x4 : Int32) (x5 : Int32) (x6 : Int32) (D : Dm) : Option (Int32 × Dm) := if (D 25 13) ≤ x6 then (lt (x5 + 1) fun y2 => k23 x1 x4 y2 D) else (bV (f_X1_copy 36 32 D) fun D4 => bV (f_X1_copy 38 34 D4) fun D6 => gd (inB x6 5) (bV (f_X4_advance 9 36 x5 (D6 41 (Int32.toNatClampNeg x6)) D6) fun D9 => gd (inB x6 5) (bV (f_X2_advance 38 x5 (D9 41 (Int32.toNatClampNeg x6)) D9) fun D12 => gd (inB x6 5) (bI (f_X8_enter x1 x5 (D12 41 (Int32.toNatClampNeg x6)) D12) fun y17 D15 => if y17 = 0 then (f_X8_goOn_h_136 k23 k33 x1 x4 x5 x6 D15) else (bI (f_X4_takes 9 36 D15) fun y21 D19 => bI (f_X2_takes 38 D19) fun y24 D22 => if y21 = y24 then (f_X8_goOn_h_136 k23 k33 x1 x4 x5 x6 D22) else (some (1, D22)))))))
def f_X8_goOn_h_33 (k23 : Int32 → Int32 → Int32 → Dm → Option (Int32 × Dm)) : Nat → Int32 → Int32 → Int32 → Int32 → Dm → Option (Int32 × Dm)
  | 0, _, _, _, _, _ => none
  | n + 1, x1, x4, x5, x6, D => f_X8_goOn_h_33_b k23 (f_X8_goOn_h_33 k23 n) x1 x4 x5 x6 D
def f_X8_goOn_h_23_b (k23 : Int32 → Int32 → Int32 → Dm → Option (Int32 × Dm)) (x1 : Int32) (x4 : Int32) (x5 : Int32) (D : Dm) : Option (Int32 × Dm) := if x4 ≤ x5 then (some (0, D)) else (f_X8_goOn_h_33 k23 FU x1 x4 x5 0 D)
def f_X8_goOn_h_23 : Nat → Int32 → Int32 → Int32 → Dm → Option (Int32 × Dm)
  | 0, _, _, _, _ => none
  | n + 1, x1, x4, x5, D => f_X8_goOn_h_23_b (f_X8_goOn_h_23 n) x1 x4 x5 D
def f_X8_goOn_h (x1 : Int32) (x4 : Int32) (D : Dm) : Option (Int32 × Dm) := gd (inB x1 1351) (bV (f_X8_unpack (D 27 (Int32.toNatClampNeg x1)) D) fun D2 => gd (inB x1 1351) (bV (f_X8_gatherNames (D2 30 (Int32.toNatClampNeg x1)) D2) fun D5 => f_X8_goOn_h_23 FU x1 x4 0 D5))
def f_X8_spell_57_b (k57 : Nat → Int32 → Int32 → Dm → Option Dm) (r2 : Nat) (x3 : Int32) (x5 : Int32) (D : Dm) : Option Dm := if x3 ≤ x5 then (some D) else (gd (inB x5 20) (gd (inB x5 20) (bV (f_X10_add r2 ((D 42 (Int32.toNatClampNeg x5)) / 1000) ((D 42 (Int32.toNatClampNeg x5)) - (D 42 (Int32.toNatClampNeg x5)) / 1000 * 1000) D) fun D4 => lt (x5 + 1) fun y6 => k57 r2 x3 y6 D4)))
def f_X8_spell_57 : Nat → Nat → Int32 → Int32 → Dm → Option Dm
  | 0, _, _, _, _ => none
  | n + 1, r2, x3, x5, D => f_X8_spell_57_b (f_X8_spell_57 n) r2 x3 x5 D
def f_X8_spell_54 (r2 : Nat) (x3 : Int32) (D : Dm) : Option Dm := f_X8_spell_57 FU r2 x3 0 D
def f_X8_spell_15_b (k15 : Nat → Int32 → Int32 → Int32 → Dm → Option Dm) (r2 : Nat) (x3 : Int32) (x4 : Int32) (x5 : Int32) (D : Dm) : Option Dm := if x5 < 0 then (f_X8_spell_54 r2 x3 D) else (if x4 ≤ 0 then (f_X8_spell_54 r2 x3 D) else (gd (inB x4 1351) (gd (inB x5 20) (lt (ud D 42 (Int32.toNatClampNeg x5) (D 29 (Int32.toNatClampNeg x4))) fun D5 => gd (inB x4 1351) (lt (D5 28 (Int32.toNatClampNeg x4)) fun y8 => lt (x5 + (-1)) fun y10 => k15 r2 x3 y8 y10 D5)))))
def f_X8_spell_15 : Nat → Nat → Int32 → Int32 → Int32 → Dm → Option Dm
  | 0, _, _, _, _, _ => none
  | n + 1, r2, x3, x4, x5, D => f_X8_spell_15_b (f_X8_spell_15 n) r2 x3 x4 x5 D
def f_X8_spell (x1 : Int32) (r2 : Nat) (D : Dm) : Option Dm := gd (inB x1 1351) (lt (D 31 (Int32.toNatClampNeg x1)) fun y2 => lt (y2 - 1) fun y4 => f_X8_spell_15 FU r2 y2 x1 y4 D)
def f_X8_find_m_119 (k64 : Int32 → Nat → Int32 → Dm → Option (Int32 × Dm)) (x3 : Int32) (r4 : Nat) (x5 : Int32) (D : Dm) : Option (Int32 × Dm) := lt (x5 + 1) fun y1 => k64 x3 r4 y1 D
def f_X8_find_m_64_b (k64 : Int32 → Nat → Int32 → Dm → Option (Int32 × Dm)) (x3 : Int32) (r4 : Nat) (x5 : Int32) (D : Dm) : Option (Int32 × Dm) := if (D 25 14) ≤ x5 then (some (0, D)) else (if 1351 ≤ x5 then (some (0, D)) else (gd (inB x5 1351) (if 20 ≤ (D 31 (Int32.toNatClampNeg x5)) then (f_X8_find_m_119 k64 x3 r4 x5 D) else (bI (f_X8_goOn_m x5 x3 D) fun y7 D5 => if y7 = 0 then (f_X8_find_m_119 k64 x3 r4 x5 D5) else (bV (f_X8_spell ((D5 25 14) - 1) r4 D5) fun D9 => some (1, D9))))))
def f_X8_find_m_64 : Nat → Int32 → Nat → Int32 → Dm → Option (Int32 × Dm)
  | 0, _, _, _, _ => none
  | n + 1, x3, r4, x5, D => f_X8_find_m_64_b (f_X8_find_m_64 n) x3 r4 x5 D
def f_X8_find_m (x3 : Int32) (r4 : Nat) (D : Dm) : Option (Int32 × Dm) := bV (f_X10_clear r4 D) fun D1 => bV (f_J7_fill_53178 26 1290 0 D1) fun D3 => lt (ud D3 25 14 0) fun D5 => bV (f_X1_start 36 D5) fun D7 => bV (f_X1_start 38 D7) fun D9 => bI (f_X8_enter (-1) 0 0 D9) fun y13 D11 => bI (f_X4_takes 9 36 D11) fun y16 D14 => bI (f_X4_takes 13 38 D14) fun y19 D17 => if y16 = y19 then (f_X8_find_m_64 FU x3 r4 0 D17) else (some (1, D17))
def f_X8_find_h_119 (k64 : Int32 → Nat → Int32 → Dm → Option (Int32 × Dm)) (x3 : Int32) (r4 : Nat) (x5 : Int32) (D : Dm) : Option (Int32 × Dm) := lt (x5 + 1) fun y1 => k64 x3 r4 y1 D
def f_X8_find_h_64_b (k64 : Int32 → Nat → Int32 → Dm → Option (Int32 × Dm)) (x3 : Int32) (r4 : Nat) (x5 : Int32) (D : Dm) : Option (Int32 × Dm) := if (D 25 14) ≤ x5 then (some (0, D)) else (if 1351 ≤ x5 then (some (0, D)) else (gd (inB x5 1351) (if 20 ≤ (D 31 (Int32.toNatClampNeg x5)) then (f_X8_find_h_119 k64 x3 r4 x5 D) else (bI (f_X8_goOn_h x5 x3 D) fun y7 D5 => if y7 = 0 then (f_X8_find_h_119 k64 x3 r4 x5 D5) else (bV (f_X8_spell ((D5 25 14) - 1) r4 D5) fun D9 => some (1, D9))))))
def f_X8_find_h_64 : Nat → Int32 → Nat → Int32 → Dm → Option (Int32 × Dm)
  | 0, _, _, _, _ => none
  | n + 1, x3, r4, x5, D => f_X8_find_h_64_b (f_X8_find_h_64 n) x3 r4 x5 D
def f_X8_find_h (x3 : Int32) (r4 : Nat) (D : Dm) : Option (Int32 × Dm) := bV (f_X10_clear r4 D) fun D1 => bV (f_J7_fill_53178 26 1290 0 D1) fun D3 => lt (ud D3 25 14 0) fun D5 => bV (f_X1_start 36 D5) fun D7 => bV (f_X1_start 38 D7) fun D9 => bI (f_X8_enter (-1) 0 0 D9) fun y13 D11 => bI (f_X4_takes 9 36 D11) fun y16 D14 => bI (f_X2_takes 38 D14) fun y19 D17 => if y16 = y19 then (f_X8_find_h_64 FU x3 r4 0 D17) else (some (1, D17))
set_option maxHeartbeats 4000000 in
theorem w_X8_likeness_69 {G : va_G} {tA : Nat → ClassId} {z : Nat} {E : Ex} {p : Program} {l : Launch} {e : Env} {s : State} {m : MethodId} {args : Array Value} {below : List Frame} {meth : Method} {c : Code} {r : Int32} {D' : Dm} (O : Ok G tA z E cX8_likeness RX8 7 p s m args c) (hr : meth.sig.returnType = some .int) (hlk : meth.locks = false) {k6 : Int32 → Int32 → Int32 → Dm → Option (Int32 × Dm)} (hk6 : ∀ (x1 : Int32) (x2 : Int32) (x3 : Int32) (D : Dm), k6 x1 x2 x3 D = some (r, D') → BI G tA z E p l e (rmC 1 0 0) s m args below meth c LAY D r D' 7 6 [(0, .ref (z + 25)), (1, .int x1), (2, .int x2), (3, .int x3)] []) {k42 : Int32 → Int32 → Int32 → Int32 → Int32 → Int32 → Dm → Option (Int32 × Dm)} (hk42 : ∀ (x1 : Int32) (x2 : Int32) (x3 : Int32) (x4 : Int32) (x5 : Int32) (x6 : Int32) (D : Dm), k42 x1 x2 x3 x4 x5 x6 D = some (r, D') → BI G tA z E p l e (rmC 1 0 0) s m args below meth c LAY D r D' 7 42 [(0, .ref (z + 25)), (1, .int x1), (2, .int x2), (3, .int x3), (4, .int x4), (5, .int x5), (6, .int x6)] []) (x1 : Int32) (x2 : Int32) (x3 : Int32) (x4 : Int32) (x5 : Int32) (x6 : Int32) (D : Dm) (h : f_X8_likeness_69 k6 k42 x1 x2 x3 x4 x5 x6 D = some (r, D')) : BI G tA z E p l e (rmC 1 0 0) s m args below meth c LAY D r D' 7 69 [(0, .ref (z + 25)), (1, .int x1), (2, .int x2), (3, .int x3), (4, .int x4), (5, .int x5), (6, .int x6)] [] := by
  obtain ⟨hx, hb, -, hown, hts, -⟩ := id O
  unfold f_X8_likeness_69 at h
  intro H locs ls hH hl
  refine lv_iload hx hb dX8_likeness_69 (lv_at hl 5 rfl) ?_
  refine lv_iconst (v := 5) hx hb dX8_likeness_71 (by decide) ?_
  refine lv_idiv hx hb dX8_likeness_72 (by decide) ?_
  refine lv_topi (fun y1 e2 => ?_)
  have h := lt_at e2 h
  refine lv_istore (lv' := [(5, .int y1), (0, .ref (z + 25)), (1, .int x1), (2, .int x2), (3, .int x3), (4, .int x4), (6, .int x6)]) hx hb dX8_likeness_73 hl (by decide) rfl (fun ls hl => ?_)
  obtain ⟨y3, e4, h⟩ := lt_some h
  refine lv_iinc (v := y3) (lv' := [(6, .int y3), (5, .int y1), (0, .ref (z + 25)), (1, .int x1), (2, .int x2), (3, .int x3), (4, .int x4)]) hx hb dX8_likeness_75 hl (k := 6) rfl (by rw [e4]; rfl) (by decide) rfl (fun ls hl => ?_)
  refine lv_goto (tgt := 42) hx hb dX8_likeness_78 (by decide) ?_
  exact hk42 _ _ _ _ _ _ _ h _ _ _ hH (lv_sub hl [2, 3, 4, 5, 6, 1, 0] rfl)
set_option maxHeartbeats 4000000 in
theorem w_X8_likeness_42_b {G : va_G} {tA : Nat → ClassId} {z : Nat} {E : Ex} {p : Program} {l : Launch} {e : Env} {s : State} {m : MethodId} {args : Array Value} {below : List Frame} {meth : Method} {c : Code} {r : Int32} {D' : Dm} (O : Ok G tA z E cX8_likeness RX8 7 p s m args c) (hr : meth.sig.returnType = some .int) (hlk : meth.locks = false) {k6 : Int32 → Int32 → Int32 → Dm → Option (Int32 × Dm)} (hk6 : ∀ (x1 : Int32) (x2 : Int32) (x3 : Int32) (D : Dm), k6 x1 x2 x3 D = some (r, D') → BI G tA z E p l e (rmC 1 0 0) s m args below meth c LAY D r D' 7 6 [(0, .ref (z + 25)), (1, .int x1), (2, .int x2), (3, .int x3)] []) {k42 : Int32 → Int32 → Int32 → Int32 → Int32 → Int32 → Dm → Option (Int32 × Dm)} (hk42 : ∀ (x1 : Int32) (x2 : Int32) (x3 : Int32) (x4 : Int32) (x5 : Int32) (x6 : Int32) (D : Dm), k42 x1 x2 x3 x4 x5 x6 D = some (r, D') → BI G tA z E p l e (rmC 1 0 0) s m args below meth c LAY D r D' 7 42 [(0, .ref (z + 25)), (1, .int x1), (2, .int x2), (3, .int x3), (4, .int x4), (5, .int x5), (6, .int x6)] []) (x1 : Int32) (x2 : Int32) (x3 : Int32) (x4 : Int32) (x5 : Int32) (x6 : Int32) (D : Dm) (h : f_X8_likeness_42_b k6 k42 x1 x2 x3 x4 x5 x6 D = some (r, D')) : BI G tA z E p l e (rmC 1 0 0) s m args below meth c LAY D r D' 7 42 [(0, .ref (z + 25)), (1, .int x1), (2, .int x2), (3, .int x3), (4, .int x4), (5, .int x5), (6, .int x6)] [] := by
  obtain ⟨hx, hb, -, hown, hts, -⟩ := id O
  unfold f_X8_likeness_42_b at h
  intro H locs ls hH hl
  refine lv_iload hx hb dX8_likeness_42 (lv_at hl 6 rfl) ?_
  refine lv_if_lt (tgt := 81) hx hb dX8_likeness_44 (by decide) (fun c1 => ?_) (fun c1 => ?_)
  · have h := it_pos h c1
    refine lv_iload_n hx hb dX8_likeness_81 rfl (lv_at hl 2 rfl) ?_
    refine lv_iload hx hb dX8_likeness_82 (lv_at hl 4 rfl) ?_
    refine h_max O hl.1 ww_811 (Nat.le_of_ble_eq_true rfl) (Nat.le_of_ble_eq_true rfl) dX8_likeness_84 ?_
    refine lv_topi (fun y2 e3 => ?_)
    have h := lt_at e3 h
    refine lv_istore_n (lv' := [(2, .int y2), (0, .ref (z + 25)), (1, .int x1), (3, .int x3), (4, .int x4), (5, .int x5), (6, .int x6)]) hx hb dX8_likeness_87 rfl hl (by decide) rfl (fun ls hl => ?_)
    refine lv_iload_n hx hb dX8_likeness_88 rfl (lv_at hl 2 rfl) ?_
    refine lv_iconst (v := 5) hx hb dX8_likeness_89 (by decide) ?_
    refine lv_imul hx hb dX8_likeness_90 ?_
    refine lv_iload hx hb dX8_likeness_91 (lv_at hl 4 rfl) ?_
    refine lv_iadd hx hb dX8_likeness_93 ?_
    refine lv_topi (fun y4 e5 => ?_)
    have h := lt_at e5 h
    refine lv_istore_n (lv' := [(1, .int y4), (2, .int y2), (0, .ref (z + 25)), (3, .int x3), (4, .int x4), (5, .int x5), (6, .int x6)]) hx hb dX8_likeness_94 rfl hl (by decide) rfl (fun ls hl => ?_)
    obtain ⟨y6, e7, h⟩ := lt_some h
    refine lv_iinc (v := y6) (lv' := [(3, .int y6), (1, .int y4), (2, .int y2), (0, .ref (z + 25)), (4, .int x4), (5, .int x5), (6, .int x6)]) hx hb dX8_likeness_95 hl (k := 3) rfl (by rw [e7]; rfl) (by decide) rfl (fun ls hl => ?_)
    refine lv_goto (tgt := 6) hx hb dX8_likeness_98 (by decide) ?_
    exact hk6 _ _ _ _ h _ _ _ hH (lv_sub hl [3, 1, 2, 0] rfl)
  · have h := it_neg h c1
    refine lv_aload_n hx hb dX8_likeness_47 rfl (lv_at hl 0 rfl) ?_
    refine h_getr O hH ly_25 rfl fl_X8_46 dX8_likeness_48 ?_
    refine lv_iload hx hb dX8_likeness_51 (lv_at hl 6 rfl) ?_
    obtain ⟨g8, h⟩ := gd_some h
    refine h_iald O hH ly_40 g8 dX8_likeness_53 ?_
    refine lv_aload_n hx hb dX8_likeness_54 rfl (lv_at hl 0 rfl) ?_
    refine h_getr O hH ly_25 rfl fl_X8_46 dX8_likeness_55 ?_
    refine lv_iload_n hx hb dX8_likeness_58 rfl (lv_at hl 3 rfl) ?_
    obtain ⟨g9, h⟩ := gd_some h
    refine h_iald O hH ly_40 g9 dX8_likeness_59 ?_
    refine lv_icmp_ne (tgt := 69) hx hb dX8_likeness_60 (by decide) (fun c10 => ?_) (fun c10 => ?_)
    · have h := it_neg h c10
      exact w_X8_likeness_69 O hr hlk hk6 hk42 _ _ _ _ _ _ _ h _ _ _ hH (lv_sub hl [0, 1, 2, 3, 4, 5, 6] rfl)
    · have h := it_pos h c10
      refine lv_iload hx hb dX8_likeness_63 (lv_at hl 5 rfl) ?_
      refine lv_iconst (v := 5) hx hb dX8_likeness_65 (by decide) ?_
      refine lv_irem hx hb dX8_likeness_66 (by decide) ?_
      refine lv_topi (fun y11 e12 => ?_)
      have h := lt_at e12 h
      refine lv_istore (lv' := [(4, .int y11), (0, .ref (z + 25)), (1, .int x1), (2, .int x2), (3, .int x3), (5, .int x5), (6, .int x6)]) hx hb dX8_likeness_67 hl (by decide) rfl (fun ls hl => ?_)
      exact w_X8_likeness_69 O hr hlk hk6 hk42 _ _ _ _ _ _ _ h _ _ _ hH (lv_sub hl [1, 2, 3, 4, 0, 5, 6] rfl)
set_option maxHeartbeats 4000000 in
theorem w_X8_likeness_42 {G : va_G} {tA : Nat → ClassId} {z : Nat} {E : Ex} {p : Program} {l : Launch} {e : Env} {s : State} {m : MethodId} {args : Array Value} {below : List Frame} {meth : Method} {c : Code} {r : Int32} {D' : Dm} (O : Ok G tA z E cX8_likeness RX8 7 p s m args c) (hr : meth.sig.returnType = some .int) (hlk : meth.locks = false) {k6 : Int32 → Int32 → Int32 → Dm → Option (Int32 × Dm)} (hk6 : ∀ (x1 : Int32) (x2 : Int32) (x3 : Int32) (D : Dm), k6 x1 x2 x3 D = some (r, D') → BI G tA z E p l e (rmC 1 0 0) s m args below meth c LAY D r D' 7 6 [(0, .ref (z + 25)), (1, .int x1), (2, .int x2), (3, .int x3)] []) : ∀ (n : Nat) (x1 : Int32) (x2 : Int32) (x3 : Int32) (x4 : Int32) (x5 : Int32) (x6 : Int32) (D : Dm) (h : f_X8_likeness_42 k6 n x1 x2 x3 x4 x5 x6 D = some (r, D')), BI G tA z E p l e (rmC 1 0 0) s m args below meth c LAY D r D' 7 42 [(0, .ref (z + 25)), (1, .int x1), (2, .int x2), (3, .int x3), (4, .int x4), (5, .int x5), (6, .int x6)] [] := by
  intro n
  induction n with
  | zero => intro x1 x2 x3 x4 x5 x6 D h; exact no_some h
  | succ n ih => intro x1 x2 x3 x4 x5 x6 D h; exact w_X8_likeness_42_b O hr hlk hk6 (fun x1 x2 x3 x4 x5 x6 D h => ih x1 x2 x3 x4 x5 x6 D h) x1 x2 x3 x4 x5 x6 D h
set_option maxHeartbeats 4000000 in
theorem w_X8_likeness_32 {G : va_G} {tA : Nat → ClassId} {z : Nat} {E : Ex} {p : Program} {l : Launch} {e : Env} {s : State} {m : MethodId} {args : Array Value} {below : List Frame} {meth : Method} {c : Code} {r : Int32} {D' : Dm} (O : Ok G tA z E cX8_likeness RX8 7 p s m args c) (hr : meth.sig.returnType = some .int) (hlk : meth.locks = false) {k6 : Int32 → Int32 → Int32 → Dm → Option (Int32 × Dm)} (hk6 : ∀ (x1 : Int32) (x2 : Int32) (x3 : Int32) (D : Dm), k6 x1 x2 x3 D = some (r, D') → BI G tA z E p l e (rmC 1 0 0) s m args below meth c LAY D r D' 7 6 [(0, .ref (z + 25)), (1, .int x1), (2, .int x2), (3, .int x3)] []) (x1 : Int32) (x2 : Int32) (x3 : Int32) (xs0 : Int32) (D : Dm) (h : f_X8_likeness_32 k6 x1 x2 x3 xs0 D = some (r, D')) : BI G tA z E p l e (rmC 1 0 0) s m args below meth c LAY D r D' 7 32 [(0, .ref (z + 25)), (1, .int x1), (2, .int x2), (3, .int x3)] [.int xs0] := by
  obtain ⟨hx, hb, -, hown, hts, -⟩ := id O
  unfold f_X8_likeness_32 at h
  intro H locs ls hH hl
  refine lv_istore (lv' := [(4, .int xs0), (0, .ref (z + 25)), (1, .int x1), (2, .int x2), (3, .int x3)]) hx hb dX8_likeness_32 hl (by decide) rfl (fun ls hl => ?_)
  refine lv_iload_n hx hb dX8_likeness_34 rfl (lv_at hl 2 rfl) ?_
  refine lv_istore (lv' := [(5, .int x1), (4, .int xs0), (0, .ref (z + 25)), (1, .int x1), (2, .int x2), (3, .int x3)]) hx hb dX8_likeness_35 hl (by decide) rfl (fun ls hl => ?_)
  refine lv_iload_n hx hb dX8_likeness_37 rfl (lv_at hl 5 rfl) ?_
  refine lv_iconst (v := 1) hx hb dX8_likeness_38 (by decide) ?_
  refine lv_isub hx hb dX8_likeness_39 ?_
  refine lv_topi (fun y1 e2 => ?_)
  have h := lt_at e2 h
  refine lv_istore (lv' := [(6, .int y1), (5, .int x1), (4, .int xs0), (0, .ref (z + 25)), (1, .int x1), (2, .int x2), (3, .int x3)]) hx hb dX8_likeness_40 hl (by decide) rfl (fun ls hl => ?_)
  exact w_X8_likeness_42 O hr hlk hk6 FU _ _ _ _ _ _ _ h _ _ _ hH (lv_sub hl [3, 4, 5, 6, 2, 1, 0] rfl)
set_option maxHeartbeats 4000000 in
theorem w_X8_likeness_6_b {G : va_G} {tA : Nat → ClassId} {z : Nat} {E : Ex} {p : Program} {l : Launch} {e : Env} {s : State} {m : MethodId} {args : Array Value} {below : List Frame} {meth : Method} {c : Code} {r : Int32} {D' : Dm} (O : Ok G tA z E cX8_likeness RX8 7 p s m args c) (hr : meth.sig.returnType = some .int) (hlk : meth.locks = false) {k6 : Int32 → Int32 → Int32 → Dm → Option (Int32 × Dm)} (hk6 : ∀ (x1 : Int32) (x2 : Int32) (x3 : Int32) (D : Dm), k6 x1 x2 x3 D = some (r, D') → BI G tA z E p l e (rmC 1 0 0) s m args below meth c LAY D r D' 7 6 [(0, .ref (z + 25)), (1, .int x1), (2, .int x2), (3, .int x3)] []) (x1 : Int32) (x2 : Int32) (x3 : Int32) (D : Dm) (h : f_X8_likeness_6_b k6 x1 x2 x3 D = some (r, D')) : BI G tA z E p l e (rmC 1 0 0) s m args below meth c LAY D r D' 7 6 [(0, .ref (z + 25)), (1, .int x1), (2, .int x2), (3, .int x3)] [] := by
  obtain ⟨hx, hb, -, hown, hts, -⟩ := id O
  unfold f_X8_likeness_6_b at h
  intro H locs ls hH hl
  refine lv_iload_n hx hb dX8_likeness_6 rfl (lv_at hl 3 rfl) ?_
  refine lv_aload_n hx hb dX8_likeness_7 rfl (lv_at hl 0 rfl) ?_
  refine h_getr O hH ly_25 rfl fl_X8_46 dX8_likeness_8 ?_
  refine h_alen (v := 4) O hH ly_40 rfl (by decide) dX8_likeness_11 ?_
  refine lv_icmp_ge (tgt := 101) hx hb dX8_likeness_12 (by decide) (fun c1 => ?_) (fun c1 => ?_)
  · have h := it_pos h c1
    refine lv_iload_n hx hb dX8_likeness_101 rfl (lv_at hl 1 rfl) ?_
    obtain ⟨rfl, rfl⟩ := ret_i h
    exact h_iret O hr hlk hH dX8_likeness_102
  · have h := it_neg h c1
    refine lv_aload_n hx hb dX8_likeness_15 rfl (lv_at hl 0 rfl) ?_
    refine h_getr O hH ly_25 rfl fl_X8_46 dX8_likeness_16 ?_
    refine lv_iload_n hx hb dX8_likeness_19 rfl (lv_at hl 3 rfl) ?_
    obtain ⟨g2, h⟩ := gd_some h
    refine h_iald O hH ly_40 g2 dX8_likeness_20 ?_
    refine lv_iconst (v := (-1)) hx hb dX8_likeness_21 (by decide) ?_
    refine lv_icmp_ne (tgt := 29) hx hb dX8_likeness_22 (by decide) (fun c3 => ?_) (fun c3 => ?_)
    · have h := it_neg h c3
      refine lv_iload_n hx hb dX8_likeness_29 rfl (lv_at hl 2 rfl) ?_
      refine lv_iconst (v := 1) hx hb dX8_likeness_30 (by decide) ?_
      refine lv_iadd hx hb dX8_likeness_31 ?_
      exact w_X8_likeness_32 O hr hlk hk6 _ _ _ _ _ h _ _ _ hH (lv_sub hl [0, 1, 2, 3] rfl)
    · have h := it_pos h c3
      refine lv_iconst (v := 0) hx hb dX8_likeness_25 (by decide) ?_
      refine lv_goto (tgt := 32) hx hb dX8_likeness_26 (by decide) ?_
      exact w_X8_likeness_32 O hr hlk hk6 _ _ _ _ _ h _ _ _ hH (lv_sub hl [0, 1, 2, 3] rfl)
set_option maxHeartbeats 4000000 in
theorem w_X8_likeness_6 {G : va_G} {tA : Nat → ClassId} {z : Nat} {E : Ex} {p : Program} {l : Launch} {e : Env} {s : State} {m : MethodId} {args : Array Value} {below : List Frame} {meth : Method} {c : Code} {r : Int32} {D' : Dm} (O : Ok G tA z E cX8_likeness RX8 7 p s m args c) (hr : meth.sig.returnType = some .int) (hlk : meth.locks = false) : ∀ (n : Nat) (x1 : Int32) (x2 : Int32) (x3 : Int32) (D : Dm) (h : f_X8_likeness_6 n x1 x2 x3 D = some (r, D')), BI G tA z E p l e (rmC 1 0 0) s m args below meth c LAY D r D' 7 6 [(0, .ref (z + 25)), (1, .int x1), (2, .int x2), (3, .int x3)] [] := by
  intro n
  induction n with
  | zero => intro x1 x2 x3 D h; exact no_some h
  | succ n ih => intro x1 x2 x3 D h; exact w_X8_likeness_6_b O hr hlk (fun x1 x2 x3 D h => ih x1 x2 x3 D h) x1 x2 x3 D h
set_option maxHeartbeats 4000000 in
theorem w_X8_likeness {G : va_G} {tA : Nat → ClassId} {z : Nat} {E : Ex} {p : Program} {l : Launch} {e : Env} {s : State} {m : MethodId} {args : Array Value} {below : List Frame} {meth : Method} {c : Code} {r : Int32} {D' : Dm} (O : Ok G tA z E cX8_likeness RX8 7 p s m args c) (hr : meth.sig.returnType = some .int) (hlk : meth.locks = false)  (D : Dm) (h : f_X8_likeness  D = some (r, D')) : BI G tA z E p l e (rmC 1 0 0) s m args below meth c LAY D r D' 7 0 [(0, .ref (z + 25))] [] := by
  obtain ⟨hx, hb, -, hown, hts, -⟩ := id O
  unfold f_X8_likeness at h
  intro H locs ls hH hl
  refine lv_iconst (v := 0) hx hb dX8_likeness_0 (by decide) ?_
  refine lv_istore_n (lv' := [(1, .int 0), (0, .ref (z + 25))]) hx hb dX8_likeness_1 rfl hl (by decide) rfl (fun ls hl => ?_)
  refine lv_iconst (v := 0) hx hb dX8_likeness_2 (by decide) ?_
  refine lv_istore_n (lv' := [(2, .int 0), (1, .int 0), (0, .ref (z + 25))]) hx hb dX8_likeness_3 rfl hl (by decide) rfl (fun ls hl => ?_)
  refine lv_iconst (v := 0) hx hb dX8_likeness_4 (by decide) ?_
  refine lv_istore_n (lv' := [(3, .int 0), (2, .int 0), (1, .int 0), (0, .ref (z + 25))]) hx hb dX8_likeness_5 rfl hl (by decide) rfl (fun ls hl => ?_)
  exact w_X8_likeness_6 O hr hlk FU _ _ _ _ h _ _ _ hH (lv_sub hl [3, 2, 1, 0] rfl)
set_option maxHeartbeats 4000000 in
theorem c_X8_likeness {l : Launch} {G : va_G} {tA : Nat → ClassId} {z : Nat} {E : Ex}  {D D' : Dm} {r : Int32} (h : f_X8_likeness  D = some (r, D')) : CtI l yX8_likeness cX8_likeness 7 (some .int) G tA z E 1 0 0 [.ref (z + 25)] LAY D r LAY D' :=
  ct_BI (by decide +kernel) (Nat.le_of_ble_eq_true rfl) (fun _ _ _ _ _ _ _ _ O hr hlk => w_X8_likeness O hr hlk  _ h)
set_option maxHeartbeats 4000000 in
theorem w_X8_pack_25_b {G : va_G} {tA : Nat → ClassId} {z : Nat} {E : Ex} {p : Program} {l : Launch} {e : Env} {s : State} {m : MethodId} {args : Array Value} {below : List Frame} {meth : Method} {c : Code} {r : Int32} {D' : Dm} (O : Ok G tA z E cX8_pack RX8 3 p s m args c) (hr : meth.sig.returnType = some .int) (hlk : meth.locks = false) {k25 : Int32 → Int32 → Dm → Option (Int32 × Dm)} (hk25 : ∀ (x1 : Int32) (x2 : Int32) (D : Dm), k25 x1 x2 D = some (r, D') → BI G tA z E p l e (rmC 1 0 0) s m args below meth c LAY D r D' 3 25 [(0, .ref (z + 25)), (1, .int x1), (2, .int x2)] []) (x1 : Int32) (x2 : Int32) (D : Dm) (h : f_X8_pack_25_b k25 x1 x2 D = some (r, D')) : BI G tA z E p l e (rmC 1 0 0) s m args below meth c LAY D r D' 3 25 [(0, .ref (z + 25)), (1, .int x1), (2, .int x2)] [] := by
  obtain ⟨hx, hb, -, hown, hts, -⟩ := id O
  unfold f_X8_pack_25_b at h
  intro H locs ls hH hl
  refine lv_iload_n hx hb dX8_pack_25 rfl (lv_at hl 2 rfl) ?_
  refine lv_aload_n hx hb dX8_pack_26 rfl (lv_at hl 0 rfl) ?_
  refine h_getr O hH ly_25 rfl fl_X8_46 dX8_pack_27 ?_
  refine h_alen (v := 4) O hH ly_40 rfl (by decide) dX8_pack_30 ?_
  refine lv_icmp_ge (tgt := 54) hx hb dX8_pack_31 (by decide) (fun c1 => ?_) (fun c1 => ?_)
  · have h := it_pos h c1
    refine lv_iload_n hx hb dX8_pack_54 rfl (lv_at hl 1 rfl) ?_
    obtain ⟨rfl, rfl⟩ := ret_i h
    exact h_iret O hr hlk hH dX8_pack_55
  · have h := it_neg h c1
    refine lv_iload_n hx hb dX8_pack_34 rfl (lv_at hl 1 rfl) ?_
    refine lv_bipush (v := 32) hx hb dX8_pack_35 (by decide) ?_
    refine lv_imul hx hb dX8_pack_37 ?_
    refine lv_aload_n hx hb dX8_pack_38 rfl (lv_at hl 0 rfl) ?_
    refine h_getr O hH ly_25 rfl fl_X8_46 dX8_pack_39 ?_
    refine lv_iload_n hx hb dX8_pack_42 rfl (lv_at hl 2 rfl) ?_
    obtain ⟨g2, h⟩ := gd_some h
    refine h_iald O hH ly_40 g2 dX8_pack_43 ?_
    refine lv_iadd hx hb dX8_pack_44 ?_
    refine lv_iconst (v := 1) hx hb dX8_pack_45 (by decide) ?_
    refine lv_iadd hx hb dX8_pack_46 ?_
    refine lv_topi (fun y3 e4 => ?_)
    have h := lt_at e4 h
    refine lv_istore_n (lv' := [(1, .int y3), (0, .ref (z + 25)), (2, .int x2)]) hx hb dX8_pack_47 rfl hl (by decide) rfl (fun ls hl => ?_)
    obtain ⟨y5, e6, h⟩ := lt_some h
    refine lv_iinc (v := y5) (lv' := [(2, .int y5), (1, .int y3), (0, .ref (z + 25))]) hx hb dX8_pack_48 hl (k := 2) rfl (by rw [e6]; rfl) (by decide) rfl (fun ls hl => ?_)
    refine lv_goto (tgt := 25) hx hb dX8_pack_51 (by decide) ?_
    exact hk25 _ _ _ h _ _ _ hH (lv_sub hl [2, 1, 0] rfl)
set_option maxHeartbeats 4000000 in
theorem w_X8_pack_25 {G : va_G} {tA : Nat → ClassId} {z : Nat} {E : Ex} {p : Program} {l : Launch} {e : Env} {s : State} {m : MethodId} {args : Array Value} {below : List Frame} {meth : Method} {c : Code} {r : Int32} {D' : Dm} (O : Ok G tA z E cX8_pack RX8 3 p s m args c) (hr : meth.sig.returnType = some .int) (hlk : meth.locks = false) : ∀ (n : Nat) (x1 : Int32) (x2 : Int32) (D : Dm) (h : f_X8_pack_25 n x1 x2 D = some (r, D')), BI G tA z E p l e (rmC 1 0 0) s m args below meth c LAY D r D' 3 25 [(0, .ref (z + 25)), (1, .int x1), (2, .int x2)] [] := by
  intro n
  induction n with
  | zero => intro x1 x2 D h; exact no_some h
  | succ n ih => intro x1 x2 D h; exact w_X8_pack_25_b O hr hlk (fun x1 x2 D h => ih x1 x2 D h) x1 x2 D h
set_option maxHeartbeats 4000000 in
theorem w_X8_pack {G : va_G} {tA : Nat → ClassId} {z : Nat} {E : Ex} {p : Program} {l : Launch} {e : Env} {s : State} {m : MethodId} {args : Array Value} {below : List Frame} {meth : Method} {c : Code} {r : Int32} {D' : Dm} (O : Ok G tA z E cX8_pack RX8 3 p s m args c) (hr : meth.sig.returnType = some .int) (hlk : meth.locks = false)  (D : Dm) (h : f_X8_pack  D = some (r, D')) : BI G tA z E p l e (rmC 1 0 0) s m args below meth c LAY D r D' 3 0 [(0, .ref (z + 25))] [] := by
  obtain ⟨hx, hb, -, hown, hts, -⟩ := id O
  unfold f_X8_pack at h
  intro H locs ls hH hl
  refine lv_aload_n hx hb dX8_pack_0 rfl (lv_at hl 0 rfl) ?_
  refine h_getr O hH ly_25 rfl fl_X8_40 dX8_pack_1 ?_
  refine h_geti O hH ly_36 rfl fl_X8_113 dX8_pack_4 ?_
  refine lv_iconst (v := 1) hx hb dX8_pack_7 (by decide) ?_
  refine lv_iadd hx hb dX8_pack_8 ?_
  refine lv_bipush (v := 16) hx hb dX8_pack_9 (by decide) ?_
  refine lv_imul hx hb dX8_pack_11 ?_
  refine lv_aload_n hx hb dX8_pack_12 rfl (lv_at hl 0 rfl) ?_
  refine h_getr O hH ly_25 rfl fl_X8_43 dX8_pack_13 ?_
  refine h_geti O hH ly_38 rfl fl_X8_113 dX8_pack_16 ?_
  refine lv_iadd hx hb dX8_pack_19 ?_
  refine lv_iconst (v := 1) hx hb dX8_pack_20 (by decide) ?_
  refine lv_iadd hx hb dX8_pack_21 ?_
  refine lv_topi (fun y1 e2 => ?_)
  have h := lt_at e2 h
  refine lv_istore_n (lv' := [(1, .int y1), (0, .ref (z + 25))]) hx hb dX8_pack_22 rfl hl (by decide) rfl (fun ls hl => ?_)
  refine lv_iconst (v := 0) hx hb dX8_pack_23 (by decide) ?_
  refine lv_istore_n (lv' := [(2, .int 0), (1, .int y1), (0, .ref (z + 25))]) hx hb dX8_pack_24 rfl hl (by decide) rfl (fun ls hl => ?_)
  exact w_X8_pack_25 O hr hlk FU _ _ _ h _ _ _ hH (lv_sub hl [2, 1, 0] rfl)
set_option maxHeartbeats 4000000 in
theorem c_X8_pack {l : Launch} {G : va_G} {tA : Nat → ClassId} {z : Nat} {E : Ex}  {D D' : Dm} {r : Int32} (h : f_X8_pack  D = some (r, D')) : CtI l yX8_pack cX8_pack 3 (some .int) G tA z E 1 0 0 [.ref (z + 25)] LAY D r LAY D' :=
  ct_BI (by decide +kernel) (Nat.le_of_ble_eq_true rfl) (fun _ _ _ _ _ _ _ _ O hr hlk => w_X8_pack O hr hlk  _ h)
set_option maxHeartbeats 4000000 in
theorem w_X8_enter_237 {G : va_G} {tA : Nat → ClassId} {z : Nat} {E : Ex} {p : Program} {l : Launch} {e : Env} {s : State} {m : MethodId} {args : Array Value} {below : List Frame} {meth : Method} {c : Code} {r : Int32} {D' : Dm} (O : Ok G tA z E cX8_enter RX8 6 p s m args c) (hr : meth.sig.returnType = some .boolean) (hlk : meth.locks = false) (xs0 : Int32) (xs1 : Int32) (D : Dm) (h : f_X8_enter_237 xs0 xs1 D = some (r, D')) : BI G tA z E p l e (rmC 2 0 0) s m args below meth c LAY D r D' 6 237 [(0, .ref (z + 25))] [.int xs0, .int xs1, .ref (z + 30)] := by
  obtain ⟨hx, hb, -, hown, hts, -⟩ := id O
  unfold f_X8_enter_237 at h
  intro H locs ls hH hl
  obtain ⟨g1, h⟩ := gd_some h
  obtain ⟨D2, e3, h⟩ := lt_some h
  refine h_iast O hH ly_30 g1 e3 dX8_enter_237 (fun H locs hH => ?_)
  refine lv_aload_n hx hb dX8_enter_238 rfl (lv_at hl 0 rfl) ?_
  refine lv_dup hx hb dX8_enter_239 rfl ?_
  refine h_geti O hH ly_25 rfl fl_X8_66 dX8_enter_240 ?_
  refine lv_iconst (v := 1) hx hb dX8_enter_243 (by decide) ?_
  refine lv_iadd hx hb dX8_enter_244 ?_
  obtain ⟨D4, e5, h⟩ := lt_some h
  refine h_puti O hH ly_25 rfl fl_X8_66 e5 dX8_enter_245 (fun H locs hH => ?_)
  refine lv_iconst (v := 1) hx hb dX8_enter_248 (by decide) ?_
  obtain ⟨rfl, rfl⟩ := ret_i h
  exact h_zret O hr hlk zb_1 hH dX8_enter_249
set_option maxHeartbeats 4000000 in
theorem w_X8_enter_207 {G : va_G} {tA : Nat → ClassId} {z : Nat} {E : Ex} {p : Program} {l : Launch} {e : Env} {s : State} {m : MethodId} {args : Array Value} {below : List Frame} {meth : Method} {c : Code} {r : Int32} {D' : Dm} (O : Ok G tA z E cX8_enter RX8 6 p s m args c) (hr : meth.sig.returnType = some .boolean) (hlk : meth.locks = false) (x1 : Int32) (x3 : Int32) (xs0 : Int32) (xs1 : Int32) (D : Dm) (h : f_X8_enter_207 x1 x3 xs0 xs1 D = some (r, D')) : BI G tA z E p l e (rmC 2 0 0) s m args below meth c LAY D r D' 6 207 [(0, .ref (z + 25)), (1, .int x1), (3, .int x3)] [.int xs0, .int xs1, .ref (z + 31)] := by
  obtain ⟨hx, hb, -, hown, hts, -⟩ := id O
  unfold f_X8_enter_207 at h
  intro H locs ls hH hl
  obtain ⟨g1, h⟩ := gd_some h
  obtain ⟨D2, e3, h⟩ := lt_some h
  refine h_iast O hH ly_31 g1 e3 dX8_enter_207 (fun H locs hH => ?_)
  refine lv_aload_n hx hb dX8_enter_208 rfl (lv_at hl 0 rfl) ?_
  refine h_getr O hH ly_25 rfl fl_X8_24 dX8_enter_209 ?_
  refine lv_aload_n hx hb dX8_enter_212 rfl (lv_at hl 0 rfl) ?_
  refine h_geti O hH ly_25 rfl fl_X8_66 dX8_enter_213 ?_
  refine lv_iload_n hx hb dX8_enter_216 rfl (lv_at hl 1 rfl) ?_
  refine lv_iconst (v := (-1)) hx hb dX8_enter_217 (by decide) ?_
  refine lv_icmp_ne (tgt := 225) hx hb dX8_enter_218 (by decide) (fun c4 => ?_) (fun c4 => ?_)
  · have h := it_neg h c4
    refine lv_aload_n hx hb dX8_enter_225 rfl (lv_at hl 0 rfl) ?_
    refine h_getr O hH ly_25 rfl fl_X8_24 dX8_enter_226 ?_
    refine lv_iload_n hx hb dX8_enter_229 rfl (lv_at hl 1 rfl) ?_
    obtain ⟨g5, h⟩ := gd_some h
    refine h_iald O hH ly_30 g5 dX8_enter_230 ?_
    refine lv_iload_n hx hb dX8_enter_231 rfl (lv_at hl 2 rfl) ?_
    refine lv_iconst (v := 1) hx hb dX8_enter_232 (by decide) ?_
    refine lv_iadd hx hb dX8_enter_233 ?_
    refine h_max O hl.1 ww_811 (Nat.le_of_ble_eq_true rfl) (Nat.le_of_ble_eq_true rfl) dX8_enter_234 ?_
    exact w_X8_enter_237 O hr hlk _ _ _ h _ _ _ hH (lv_sub hl [0] rfl)
  · have h := it_pos h c4
    refine lv_iconst (v := 0) hx hb dX8_enter_221 (by decide) ?_
    refine lv_goto (tgt := 237) hx hb dX8_enter_222 (by decide) ?_
    exact w_X8_enter_237 O hr hlk _ _ _ h _ _ _ hH (lv_sub hl [0] rfl)
set_option maxHeartbeats 4000000 in
theorem w_X8_enter {G : va_G} {tA : Nat → ClassId} {z : Nat} {E : Ex} {p : Program} {l : Launch} {e : Env} {s : State} {m : MethodId} {args : Array Value} {below : List Frame} {meth : Method} {c : Code} {r : Int32} {D' : Dm} (O : Ok G tA z E cX8_enter RX8 6 p s m args c) (hr : meth.sig.returnType = some .boolean) (hlk : meth.locks = false) (x1 : Int32) (x2 : Int32) (x3 : Int32) (D : Dm) (h : f_X8_enter x1 x2 x3 D = some (r, D')) : BI G tA z E p l e (rmC 2 0 0) s m args below meth c LAY D r D' 6 0 [(0, .ref (z + 25)), (1, .int x1), (2, .int x2), (3, .int x3)] [] := by
  obtain ⟨hx, hb, -, hown, hts, -⟩ := id O
  unfold f_X8_enter at h
  intro H locs ls hH hl
  refine lv_aload_n hx hb dX8_enter_0 rfl (lv_at hl 0 rfl) ?_
  refine h_getr O hH ly_25 rfl fl_X8_46 dX8_enter_1 ?_
  refine lv_iconst (v := 0) hx hb dX8_enter_4 (by decide) ?_
  refine lv_aload_n hx hb dX8_enter_5 rfl (lv_at hl 0 rfl) ?_
  refine h_getr O hH ly_25 rfl fl_X8_40 dX8_enter_6 ?_
  refine h_getr O hH ly_36 rfl fl_X8_109 dX8_enter_9 ?_
  refine lv_iconst (v := 0) hx hb dX8_enter_12 (by decide) ?_
  refine h_ialdk (k := 0) O hH ly_37 (by decide) (by decide) (by decide) dX8_enter_13 ?_
  obtain ⟨D3, e4, h⟩ := lt_some h
  refine h_iastk (k := 0) O hH ly_40 (by decide) (by decide) (by decide) e4 dX8_enter_14 (fun H locs hH => ?_)
  refine lv_aload_n hx hb dX8_enter_15 rfl (lv_at hl 0 rfl) ?_
  refine h_getr O hH ly_25 rfl fl_X8_46 dX8_enter_16 ?_
  refine lv_iconst (v := 1) hx hb dX8_enter_19 (by decide) ?_
  refine lv_aload_n hx hb dX8_enter_20 rfl (lv_at hl 0 rfl) ?_
  refine h_getr O hH ly_25 rfl fl_X8_40 dX8_enter_21 ?_
  refine h_getr O hH ly_36 rfl fl_X8_109 dX8_enter_24 ?_
  refine lv_iconst (v := 1) hx hb dX8_enter_27 (by decide) ?_
  refine h_ialdk (k := 1) O hH ly_37 (by decide) (by decide) (by decide) dX8_enter_28 ?_
  obtain ⟨D7, e8, h⟩ := lt_some h
  refine h_iastk (k := 1) O hH ly_40 (by decide) (by decide) (by decide) e8 dX8_enter_29 (fun H locs hH => ?_)
  refine lv_aload_n hx hb dX8_enter_30 rfl (lv_at hl 0 rfl) ?_
  refine h_getr O hH ly_25 rfl fl_X8_46 dX8_enter_31 ?_
  refine lv_iconst (v := 2) hx hb dX8_enter_34 (by decide) ?_
  refine lv_aload_n hx hb dX8_enter_35 rfl (lv_at hl 0 rfl) ?_
  refine h_getr O hH ly_25 rfl fl_X8_43 dX8_enter_36 ?_
  refine h_getr O hH ly_38 rfl fl_X8_109 dX8_enter_39 ?_
  refine lv_iconst (v := 0) hx hb dX8_enter_42 (by decide) ?_
  refine h_ialdk (k := 0) O hH ly_39 (by decide) (by decide) (by decide) dX8_enter_43 ?_
  obtain ⟨D11, e12, h⟩ := lt_some h
  refine h_iastk (k := 2) O hH ly_40 (by decide) (by decide) (by decide) e12 dX8_enter_44 (fun H locs hH => ?_)
  refine lv_aload_n hx hb dX8_enter_45 rfl (lv_at hl 0 rfl) ?_
  refine h_getr O hH ly_25 rfl fl_X8_46 dX8_enter_46 ?_
  refine lv_iconst (v := 3) hx hb dX8_enter_49 (by decide) ?_
  refine lv_aload_n hx hb dX8_enter_50 rfl (lv_at hl 0 rfl) ?_
  refine h_getr O hH ly_25 rfl fl_X8_43 dX8_enter_51 ?_
  refine h_getr O hH ly_38 rfl fl_X8_109 dX8_enter_54 ?_
  refine lv_iconst (v := 1) hx hb dX8_enter_57 (by decide) ?_
  refine h_ialdk (k := 1) O hH ly_39 (by decide) (by decide) (by decide) dX8_enter_58 ?_
  obtain ⟨D15, e16, h⟩ := lt_some h
  refine h_iastk (k := 3) O hH ly_40 (by decide) (by decide) (by decide) e16 dX8_enter_59 (fun H locs hH => ?_)
  refine lv_aload_n hx hb dX8_enter_60 rfl (lv_at hl 0 rfl) ?_
  refine h_getr O hH ly_25 rfl fl_X8_40 dX8_enter_61 ?_
  refine h_geti O hH ly_36 rfl fl_X8_113 dX8_enter_64 ?_
  refine lv_iconst (v := 1) hx hb dX8_enter_67 (by decide) ?_
  refine lv_iadd hx hb dX8_enter_68 ?_
  refine lv_bipush (v := 11) hx hb dX8_enter_69 (by decide) ?_
  refine lv_imul hx hb dX8_enter_71 ?_
  refine lv_aload_n hx hb dX8_enter_72 rfl (lv_at hl 0 rfl) ?_
  refine h_getr O hH ly_25 rfl fl_X8_43 dX8_enter_73 ?_
  refine h_geti O hH ly_38 rfl fl_X8_113 dX8_enter_76 ?_
  refine lv_iadd hx hb dX8_enter_79 ?_
  refine lv_iconst (v := 1) hx hb dX8_enter_80 (by decide) ?_
  refine lv_iadd hx hb dX8_enter_81 ?_
  refine lv_sipush (v := 625) hx hb dX8_enter_82 (by decide) ?_
  refine lv_imul hx hb dX8_enter_85 ?_
  refine lv_aload_n hx hb dX8_enter_86 rfl (lv_at hl 0 rfl) ?_
  obtain ⟨y19, D17, hc18, h⟩ := bI_some h
  refine h_callVi (As := []) (rest := [.int ((((((D15 36 0) + 1) * 11) + (D15 38 0)) + 1) * 625)]) O hH (c_X8_likeness hc18) ml_X8_116 ly_25 rfl rfl hl.1 rfl ⟨Nat.le_of_ble_eq_true rfl, Nat.le_of_ble_eq_true rfl⟩ (Nat.le_of_ble_eq_true rfl) dX8_enter_87 (fun H locs hH => ?_)
  refine lv_iadd hx hb dX8_enter_90 ?_
  refine lv_topi (fun y20 e21 => ?_)
  have h := lt_at e21 h
  refine lv_istore (lv' := [(4, .int y20), (0, .ref (z + 25)), (1, .int x1), (2, .int x2), (3, .int x3)]) hx hb dX8_enter_91 hl (by decide) rfl (fun ls hl => ?_)
  refine lv_iconst (v := 1) hx hb dX8_enter_93 (by decide) ?_
  refine lv_iload hx hb dX8_enter_94 (lv_at hl 0 rfl) ?_
  refine lv_bipush (v := 31) hx hb dX8_enter_96 (by decide) ?_
  refine lv_iand hx hb dX8_enter_98 ?_
  refine lv_ishl hx hb dX8_enter_99 ?_
  refine lv_topi (fun y22 e23 => ?_)
  have h := lt_at e23 h
  refine lv_istore (lv' := [(5, .int y22), (4, .int y20), (0, .ref (z + 25)), (1, .int x1), (2, .int x2), (3, .int x3)]) hx hb dX8_enter_100 hl (by decide) rfl (fun ls hl => ?_)
  refine lv_aload_n hx hb dX8_enter_102 rfl (lv_at hl 2 rfl) ?_
  refine h_getr O hH ly_25 rfl fl_X8_11 dX8_enter_103 ?_
  refine lv_iload hx hb dX8_enter_106 (lv_at hl 1 rfl) ?_
  refine lv_iconst (v := 5) hx hb dX8_enter_108 (by decide) ?_
  refine lv_ishr hx hb dX8_enter_109 ?_
  obtain ⟨g24, h⟩ := gd_some h
  refine h_iald O hH ly_26 g24 dX8_enter_110 ?_
  refine lv_iload hx hb dX8_enter_111 (lv_at hl 0 rfl) ?_
  refine lv_iand hx hb dX8_enter_113 ?_
  refine lv_if_ne (tgt := 127) hx hb dX8_enter_114 (by decide) (fun c25 => ?_) (fun c25 => ?_)
  · have h := it_neg h c25
    refine lv_iconst (v := 0) hx hb dX8_enter_127 (by decide) ?_
    obtain ⟨rfl, rfl⟩ := ret_i h
    exact h_zret O hr hlk zb_0 hH dX8_enter_128
  · have h := it_pos h c25
    refine lv_aload_n hx hb dX8_enter_117 rfl (lv_at hl 2 rfl) ?_
    refine h_geti O hH ly_25 rfl fl_X8_66 dX8_enter_118 ?_
    refine lv_sipush (v := 1351) hx hb dX8_enter_121 (by decide) ?_
    refine lv_icmp_lt (tgt := 129) hx hb dX8_enter_124 (by decide) (fun c26 => ?_) (fun c26 => ?_)
    · have h := it_pos h c26
      refine lv_aload_n hx hb dX8_enter_129 rfl (lv_at hl 2 rfl) ?_
      refine h_getr O hH ly_25 rfl fl_X8_11 dX8_enter_130 ?_
      refine lv_iload hx hb dX8_enter_133 (lv_at hl 1 rfl) ?_
      refine lv_iconst (v := 5) hx hb dX8_enter_135 (by decide) ?_
      refine lv_ishr hx hb dX8_enter_136 ?_
      refine lv_dup2_11 hx hb dX8_enter_137 rfl rfl ?_
      obtain ⟨g27, h⟩ := gd_some h
      refine h_iald O hH ly_26 g27 dX8_enter_138 ?_
      refine lv_iload hx hb dX8_enter_139 (lv_at hl 0 rfl) ?_
      refine lv_ior hx hb dX8_enter_141 ?_
      obtain ⟨g28, h⟩ := gd_some h
      obtain ⟨D29, e30, h⟩ := lt_some h
      refine h_iast O hH ly_26 g28 e30 dX8_enter_142 (fun H locs hH => ?_)
      refine lv_aload_n hx hb dX8_enter_143 rfl (lv_at hl 2 rfl) ?_
      refine h_getr O hH ly_25 rfl fl_X8_15 dX8_enter_144 ?_
      refine lv_aload_n hx hb dX8_enter_147 rfl (lv_at hl 2 rfl) ?_
      refine h_geti O hH ly_25 rfl fl_X8_66 dX8_enter_148 ?_
      refine lv_aload_n hx hb dX8_enter_151 rfl (lv_at hl 2 rfl) ?_
      obtain ⟨y33, D31, hc32, h⟩ := bI_some h
      refine h_callVi (As := []) (rest := [.int (D29 25 14), .ref (z + 27)]) O hH (c_X8_pack hc32) ml_X8_120 ly_25 rfl rfl hl.1 rfl ⟨Nat.le_of_ble_eq_true rfl, Nat.le_of_ble_eq_true rfl⟩ (Nat.le_of_ble_eq_true rfl) dX8_enter_152 (fun H locs hH => ?_)
      obtain ⟨g34, h⟩ := gd_some h
      obtain ⟨D35, e36, h⟩ := lt_some h
      refine h_iast O hH ly_27 g34 e36 dX8_enter_155 (fun H locs hH => ?_)
      refine lv_aload_n hx hb dX8_enter_156 rfl (lv_at hl 2 rfl) ?_
      refine h_getr O hH ly_25 rfl fl_X8_18 dX8_enter_157 ?_
      refine lv_aload_n hx hb dX8_enter_160 rfl (lv_at hl 2 rfl) ?_
      refine h_geti O hH ly_25 rfl fl_X8_66 dX8_enter_161 ?_
      refine lv_iload_n hx hb dX8_enter_164 rfl (lv_at hl 3 rfl) ?_
      obtain ⟨g37, h⟩ := gd_some h
      obtain ⟨D38, e39, h⟩ := lt_some h
      refine h_iast O hH ly_28 g37 e39 dX8_enter_165 (fun H locs hH => ?_)
      refine lv_aload_n hx hb dX8_enter_166 rfl (lv_at hl 2 rfl) ?_
      refine h_getr O hH ly_25 rfl fl_X8_21 dX8_enter_167 ?_
      refine lv_aload_n hx hb dX8_enter_170 rfl (lv_at hl 2 rfl) ?_
      refine h_geti O hH ly_25 rfl fl_X8_66 dX8_enter_171 ?_
      refine lv_iload_n hx hb dX8_enter_174 rfl (lv_at hl 4 rfl) ?_
      refine lv_sipush (v := 1000) hx hb dX8_enter_175 (by decide) ?_
      refine lv_imul hx hb dX8_enter_178 ?_
      refine lv_iload_n hx hb dX8_enter_179 rfl (lv_at hl 5 rfl) ?_
      refine lv_iadd hx hb dX8_enter_180 ?_
      obtain ⟨g40, h⟩ := gd_some h
      obtain ⟨D41, e42, h⟩ := lt_some h
      refine h_iast O hH ly_29 g40 e42 dX8_enter_181 (fun H locs hH => ?_)
      refine lv_aload_n hx hb dX8_enter_182 rfl (lv_at hl 2 rfl) ?_
      refine h_getr O hH ly_25 rfl fl_X8_27 dX8_enter_183 ?_
      refine lv_aload_n hx hb dX8_enter_186 rfl (lv_at hl 2 rfl) ?_
      refine h_geti O hH ly_25 rfl fl_X8_66 dX8_enter_187 ?_
      refine lv_iload_n hx hb dX8_enter_190 rfl (lv_at hl 3 rfl) ?_
      refine lv_iconst (v := (-1)) hx hb dX8_enter_191 (by decide) ?_
      refine lv_icmp_ne (tgt := 199) hx hb dX8_enter_192 (by decide) (fun c43 => ?_) (fun c43 => ?_)
      · have h := it_neg h c43
        refine lv_aload_n hx hb dX8_enter_199 rfl (lv_at hl 2 rfl) ?_
        refine h_getr O hH ly_25 rfl fl_X8_27 dX8_enter_200 ?_
        refine lv_iload_n hx hb dX8_enter_203 rfl (lv_at hl 3 rfl) ?_
        obtain ⟨g44, h⟩ := gd_some h
        refine h_iald O hH ly_31 g44 dX8_enter_204 ?_
        refine lv_iconst (v := 1) hx hb dX8_enter_205 (by decide) ?_
        refine lv_iadd hx hb dX8_enter_206 ?_
        exact w_X8_enter_207 O hr hlk _ _ _ _ _ h _ _ _ hH (lv_sub hl [2, 3, 5] rfl)
      · have h := it_pos h c43
        refine lv_iconst (v := 0) hx hb dX8_enter_195 (by decide) ?_
        refine lv_goto (tgt := 207) hx hb dX8_enter_196 (by decide) ?_
        exact w_X8_enter_207 O hr hlk _ _ _ _ _ h _ _ _ hH (lv_sub hl [2, 3, 5] rfl)
    · have h := it_neg h c26
      refine lv_iconst (v := 0) hx hb dX8_enter_127 (by decide) ?_
      obtain ⟨rfl, rfl⟩ := ret_i h
      exact h_zret O hr hlk zb_0 hH dX8_enter_128
set_option maxHeartbeats 4000000 in
theorem c_X8_enter {l : Launch} {G : va_G} {tA : Nat → ClassId} {z : Nat} {E : Ex} {x1 : Int32} {x2 : Int32} {x3 : Int32} {D D' : Dm} {r : Int32} (h : f_X8_enter x1 x2 x3 D = some (r, D')) : CtI l yX8_enter cX8_enter 6 (some .boolean) G tA z E 2 0 0 [.ref (z + 25), .int x1, .int x2, .int x3] LAY D r LAY D' :=
  ct_BI (by decide +kernel) (Nat.le_of_ble_eq_true rfl) (fun _ _ _ _ _ _ _ _ O hr hlk => w_X8_enter O hr hlk _ _ _ _ h)
set_option maxHeartbeats 4000000 in
theorem w_X8_unpack {G : va_G} {tA : Nat → ClassId} {z : Nat} {E : Ex} {p : Program} {l : Launch} {e : Env} {s : State} {m : MethodId} {args : Array Value} {below : List Frame} {meth : Method} {c : Code} {D' : Dm} (O : Ok G tA z E cX8_unpack RX8 2 p s m args c) (hr : meth.sig.returnType = none) (hlk : meth.locks = false) (x1 : Int32) (D : Dm) (h : f_X8_unpack x1 D = some D') : BV G tA z E p l e (rmC 1 0 0) s m args below meth c LAY D D' 2 0 [(0, .ref (z + 25)), (1, .int x1)] [] := by
  obtain ⟨hx, hb, -, hown, hts, -⟩ := id O
  unfold f_X8_unpack at h
  intro H locs ls hH hl
  refine lv_aload_n hx hb dX8_unpack_0 rfl (lv_at hl 0 rfl) ?_
  refine h_getr O hH ly_25 rfl fl_X8_37 dX8_unpack_1 ?_
  refine h_getr O hH ly_34 rfl fl_X8_109 dX8_unpack_4 ?_
  refine lv_iconst (v := 1) hx hb dX8_unpack_7 (by decide) ?_
  refine lv_iload_n hx hb dX8_unpack_8 rfl (lv_at hl 1 rfl) ?_
  refine lv_bipush (v := 31) hx hb dX8_unpack_9 (by decide) ?_
  refine lv_iand hx hb dX8_unpack_11 ?_
  refine lv_iconst (v := 1) hx hb dX8_unpack_12 (by decide) ?_
  refine lv_isub hx hb dX8_unpack_13 ?_
  obtain ⟨D2, e3, h⟩ := lt_some h
  refine h_iastk (k := 1) O hH ly_35 (by decide) (by decide) (by decide) e3 dX8_unpack_14 (fun H locs hH => ?_)
  refine lv_aload_n hx hb dX8_unpack_15 rfl (lv_at hl 0 rfl) ?_
  refine h_getr O hH ly_25 rfl fl_X8_37 dX8_unpack_16 ?_
  refine h_getr O hH ly_34 rfl fl_X8_109 dX8_unpack_19 ?_
  refine lv_iconst (v := 0) hx hb dX8_unpack_22 (by decide) ?_
  refine lv_iload_n hx hb dX8_unpack_23 rfl (lv_at hl 1 rfl) ?_
  refine lv_iconst (v := 5) hx hb dX8_unpack_24 (by decide) ?_
  refine lv_ishr hx hb dX8_unpack_25 ?_
  refine lv_bipush (v := 31) hx hb dX8_unpack_26 (by decide) ?_
  refine lv_iand hx hb dX8_unpack_28 ?_
  refine lv_iconst (v := 1) hx hb dX8_unpack_29 (by decide) ?_
  refine lv_isub hx hb dX8_unpack_30 ?_
  obtain ⟨D5, e6, h⟩ := lt_some h
  refine h_iastk (k := 0) O hH ly_35 (by decide) (by decide) (by decide) e6 dX8_unpack_31 (fun H locs hH => ?_)
  refine lv_aload_n hx hb dX8_unpack_32 rfl (lv_at hl 0 rfl) ?_
  refine h_getr O hH ly_25 rfl fl_X8_33 dX8_unpack_33 ?_
  refine h_getr O hH ly_32 rfl fl_X8_109 dX8_unpack_36 ?_
  refine lv_iconst (v := 1) hx hb dX8_unpack_39 (by decide) ?_
  refine lv_iload_n hx hb dX8_unpack_40 rfl (lv_at hl 1 rfl) ?_
  refine lv_bipush (v := 10) hx hb dX8_unpack_41 (by decide) ?_
  refine lv_ishr hx hb dX8_unpack_43 ?_
  refine lv_bipush (v := 31) hx hb dX8_unpack_44 (by decide) ?_
  refine lv_iand hx hb dX8_unpack_46 ?_
  refine lv_iconst (v := 1) hx hb dX8_unpack_47 (by decide) ?_
  refine lv_isub hx hb dX8_unpack_48 ?_
  obtain ⟨D8, e9, h⟩ := lt_some h
  refine h_iastk (k := 1) O hH ly_33 (by decide) (by decide) (by decide) e9 dX8_unpack_49 (fun H locs hH => ?_)
  refine lv_aload_n hx hb dX8_unpack_50 rfl (lv_at hl 0 rfl) ?_
  refine h_getr O hH ly_25 rfl fl_X8_33 dX8_unpack_51 ?_
  refine h_getr O hH ly_32 rfl fl_X8_109 dX8_unpack_54 ?_
  refine lv_iconst (v := 0) hx hb dX8_unpack_57 (by decide) ?_
  refine lv_iload_n hx hb dX8_unpack_58 rfl (lv_at hl 1 rfl) ?_
  refine lv_bipush (v := 15) hx hb dX8_unpack_59 (by decide) ?_
  refine lv_ishr hx hb dX8_unpack_61 ?_
  refine lv_bipush (v := 31) hx hb dX8_unpack_62 (by decide) ?_
  refine lv_iand hx hb dX8_unpack_64 ?_
  refine lv_iconst (v := 1) hx hb dX8_unpack_65 (by decide) ?_
  refine lv_isub hx hb dX8_unpack_66 ?_
  obtain ⟨D11, e12, h⟩ := lt_some h
  refine h_iastk (k := 0) O hH ly_33 (by decide) (by decide) (by decide) e12 dX8_unpack_67 (fun H locs hH => ?_)
  refine lv_aload_n hx hb dX8_unpack_68 rfl (lv_at hl 0 rfl) ?_
  refine h_getr O hH ly_25 rfl fl_X8_37 dX8_unpack_69 ?_
  refine lv_iload_n hx hb dX8_unpack_72 rfl (lv_at hl 1 rfl) ?_
  refine lv_bipush (v := 20) hx hb dX8_unpack_73 (by decide) ?_
  refine lv_ishr hx hb dX8_unpack_75 ?_
  refine lv_bipush (v := 15) hx hb dX8_unpack_76 (by decide) ?_
  refine lv_iand hx hb dX8_unpack_78 ?_
  refine lv_iconst (v := 1) hx hb dX8_unpack_79 (by decide) ?_
  refine lv_isub hx hb dX8_unpack_80 ?_
  obtain ⟨D13, e14, h⟩ := lt_some h
  refine h_puti O hH ly_34 rfl fl_X8_113 e14 dX8_unpack_81 (fun H locs hH => ?_)
  refine lv_aload_n hx hb dX8_unpack_84 rfl (lv_at hl 0 rfl) ?_
  refine h_getr O hH ly_25 rfl fl_X8_33 dX8_unpack_85 ?_
  refine lv_iload_n hx hb dX8_unpack_88 rfl (lv_at hl 1 rfl) ?_
  refine lv_bipush (v := 24) hx hb dX8_unpack_89 (by decide) ?_
  refine lv_ishr hx hb dX8_unpack_91 ?_
  refine lv_bipush (v := 15) hx hb dX8_unpack_92 (by decide) ?_
  refine lv_iand hx hb dX8_unpack_94 ?_
  refine lv_iconst (v := 1) hx hb dX8_unpack_95 (by decide) ?_
  refine lv_isub hx hb dX8_unpack_96 ?_
  obtain ⟨D15, e16, h⟩ := lt_some h
  refine h_puti O hH ly_32 rfl fl_X8_113 e16 dX8_unpack_97 (fun H locs hH => ?_)
  obtain rfl := ret_v h
  exact h_vret O hr hlk hH dX8_unpack_100
set_option maxHeartbeats 4000000 in
theorem c_X8_unpack {l : Launch} {G : va_G} {tA : Nat → ClassId} {z : Nat} {E : Ex} {x1 : Int32} {D D' : Dm} (h : f_X8_unpack x1 D = some D') : CtV l yX8_unpack cX8_unpack 2 G tA z E 1 0 0 [.ref (z + 25), .int x1] LAY D LAY D' :=
  ct_BV (by decide +kernel) (Nat.le_of_ble_eq_true rfl) (fun _ _ _ _ _ _ _ _ O hr hlk => w_X8_unpack O hr hlk _ _ h)
set_option maxHeartbeats 4000000 in
theorem w_X8_gatherName_40 {G : va_G} {tA : Nat → ClassId} {z : Nat} {E : Ex} {p : Program} {l : Launch} {e : Env} {s : State} {m : MethodId} {args : Array Value} {below : List Frame} {meth : Method} {c : Code} {D' : Dm} (O : Ok G tA z E cX8_gatherName RX8 4 p s m args c) (hr : meth.sig.returnType = none) (hlk : meth.locks = false) {k13 : Int32 → Int32 → Int32 → Dm → Option Dm} (hk13 : ∀ (x1 : Int32) (x2 : Int32) (x3 : Int32) (D : Dm), k13 x1 x2 x3 D = some D' → BV G tA z E p l e (rmC 1 0 0) s m args below meth c LAY D D' 4 13 [(0, .ref (z + 25)), (1, .int x1), (2, .int x2), (3, .int x3)] []) (x1 : Int32) (x3 : Int32) (xs0 : Int32) (D : Dm) (h : f_X8_gatherName_40 k13 x1 x3 xs0 D = some D') : BV G tA z E p l e (rmC 1 0 0) s m args below meth c LAY D D' 4 40 [(0, .ref (z + 25)), (1, .int x1), (3, .int x3)] [.int xs0] := by
  obtain ⟨hx, hb, -, hown, hts, -⟩ := id O
  unfold f_X8_gatherName_40 at h
  intro H locs ls hH hl
  refine lv_istore_n (lv' := [(2, .int xs0), (0, .ref (z + 25)), (1, .int x1), (3, .int x3)]) hx hb dX8_gatherName_40 rfl hl (by decide) rfl (fun ls hl => ?_)
  obtain ⟨y1, e2, h⟩ := lt_some h
  refine lv_iinc (v := y1) (lv' := [(3, .int y1), (2, .int xs0), (0, .ref (z + 25)), (1, .int x1)]) hx hb dX8_gatherName_41 hl (k := 3) rfl (by rw [e2]; rfl) (by decide) rfl (fun ls hl => ?_)
  refine lv_goto (tgt := 13) hx hb dX8_gatherName_44 (by decide) ?_
  exact hk13 _ _ _ _ h _ _ _ hH (lv_sub hl [2, 3, 1, 0] rfl)
set_option maxHeartbeats 4000000 in
theorem w_X8_gatherName_39 {G : va_G} {tA : Nat → ClassId} {z : Nat} {E : Ex} {p : Program} {l : Launch} {e : Env} {s : State} {m : MethodId} {args : Array Value} {below : List Frame} {meth : Method} {c : Code} {D' : Dm} (O : Ok G tA z E cX8_gatherName RX8 4 p s m args c) (hr : meth.sig.returnType = none) (hlk : meth.locks = false) {k13 : Int32 → Int32 → Int32 → Dm → Option Dm} (hk13 : ∀ (x1 : Int32) (x2 : Int32) (x3 : Int32) (D : Dm), k13 x1 x2 x3 D = some D' → BV G tA z E p l e (rmC 1 0 0) s m args below meth c LAY D D' 4 13 [(0, .ref (z + 25)), (1, .int x1), (2, .int x2), (3, .int x3)] []) (x1 : Int32) (x3 : Int32) (D : Dm) (h : f_X8_gatherName_39 k13 x1 x3 D = some D') : BV G tA z E p l e (rmC 1 0 0) s m args below meth c LAY D D' 4 39 [(0, .ref (z + 25)), (1, .int x1), (3, .int x3)] [] := by
  obtain ⟨hx, hb, -, hown, hts, -⟩ := id O
  unfold f_X8_gatherName_39 at h
  intro H locs ls hH hl
  refine lv_iconst (v := 0) hx hb dX8_gatherName_39 (by decide) ?_
  exact w_X8_gatherName_40 O hr hlk hk13 _ _ _ _ h _ _ _ hH (lv_sub hl [0, 1, 2] rfl)
set_option maxHeartbeats 4000000 in
theorem w_X8_gatherName_13_b {G : va_G} {tA : Nat → ClassId} {z : Nat} {E : Ex} {p : Program} {l : Launch} {e : Env} {s : State} {m : MethodId} {args : Array Value} {below : List Frame} {meth : Method} {c : Code} {D' : Dm} (O : Ok G tA z E cX8_gatherName RX8 4 p s m args c) (hr : meth.sig.returnType = none) (hlk : meth.locks = false) {k13 : Int32 → Int32 → Int32 → Dm → Option Dm} (hk13 : ∀ (x1 : Int32) (x2 : Int32) (x3 : Int32) (D : Dm), k13 x1 x2 x3 D = some D' → BV G tA z E p l e (rmC 1 0 0) s m args below meth c LAY D D' 4 13 [(0, .ref (z + 25)), (1, .int x1), (2, .int x2), (3, .int x3)] []) (x1 : Int32) (x2 : Int32) (x3 : Int32) (D : Dm) (h : f_X8_gatherName_13_b k13 x1 x2 x3 D = some D') : BV G tA z E p l e (rmC 1 0 0) s m args below meth c LAY D D' 4 13 [(0, .ref (z + 25)), (1, .int x1), (2, .int x2), (3, .int x3)] [] := by
  obtain ⟨hx, hb, -, hown, hts, -⟩ := id O
  unfold f_X8_gatherName_13_b at h
  intro H locs ls hH hl
  refine lv_iload_n hx hb dX8_gatherName_13 rfl (lv_at hl 3 rfl) ?_
  refine lv_aload_n hx hb dX8_gatherName_14 rfl (lv_at hl 0 rfl) ?_
  refine h_geti O hH ly_25 rfl fl_X8_98 dX8_gatherName_15 ?_
  refine lv_icmp_ge (tgt := 47) hx hb dX8_gatherName_18 (by decide) (fun c1 => ?_) (fun c1 => ?_)
  · have h := it_pos h c1
    refine lv_iload_n hx hb dX8_gatherName_47 rfl (lv_at hl 2 rfl) ?_
    refine lv_if_eq (tgt := 83) hx hb dX8_gatherName_48 (by decide) (fun c2 => ?_) (fun c2 => ?_)
    · have h := it_pos h c2
      obtain rfl := ret_v h
      exact h_vret O hr hlk hH dX8_gatherName_83
    · have h := it_neg h c2
      refine lv_aload_n hx hb dX8_gatherName_51 rfl (lv_at hl 0 rfl) ?_
      refine h_geti O hH ly_25 rfl fl_X8_98 dX8_gatherName_52 ?_
      refine lv_aload_n hx hb dX8_gatherName_55 rfl (lv_at hl 0 rfl) ?_
      refine h_getr O hH ly_25 rfl fl_X8_49 dX8_gatherName_56 ?_
      refine h_alen (v := 5) O hH ly_41 rfl (by decide) dX8_gatherName_59 ?_
      refine lv_icmp_ge (tgt := 83) hx hb dX8_gatherName_60 (by decide) (fun c3 => ?_) (fun c3 => ?_)
      · have h := it_pos h c3
        obtain rfl := ret_v h
        exact h_vret O hr hlk hH dX8_gatherName_83
      · have h := it_neg h c3
        refine lv_aload_n hx hb dX8_gatherName_63 rfl (lv_at hl 0 rfl) ?_
        refine h_getr O hH ly_25 rfl fl_X8_49 dX8_gatherName_64 ?_
        refine lv_aload_n hx hb dX8_gatherName_67 rfl (lv_at hl 0 rfl) ?_
        refine h_geti O hH ly_25 rfl fl_X8_98 dX8_gatherName_68 ?_
        refine lv_iload_n hx hb dX8_gatherName_71 rfl (lv_at hl 1 rfl) ?_
        obtain ⟨g4, h⟩ := gd_some h
        obtain ⟨D5, e6, h⟩ := lt_some h
        refine h_iast O hH ly_41 g4 e6 dX8_gatherName_72 (fun H locs hH => ?_)
        refine lv_aload_n hx hb dX8_gatherName_73 rfl (lv_at hl 0 rfl) ?_
        refine lv_dup hx hb dX8_gatherName_74 rfl ?_
        refine h_geti O hH ly_25 rfl fl_X8_98 dX8_gatherName_75 ?_
        refine lv_iconst (v := 1) hx hb dX8_gatherName_78 (by decide) ?_
        refine lv_iadd hx hb dX8_gatherName_79 ?_
        obtain ⟨D7, e8, h⟩ := lt_some h
        refine h_puti O hH ly_25 rfl fl_X8_98 e8 dX8_gatherName_80 (fun H locs hH => ?_)
        obtain rfl := ret_v h
        exact h_vret O hr hlk hH dX8_gatherName_83
  · have h := it_neg h c1
    refine lv_iload_n hx hb dX8_gatherName_21 rfl (lv_at hl 2 rfl) ?_
    refine lv_if_eq (tgt := 39) hx hb dX8_gatherName_22 (by decide) (fun c9 => ?_) (fun c9 => ?_)
    · have h := it_pos h c9
      exact w_X8_gatherName_39 O hr hlk hk13 _ _ _ h _ _ _ hH (lv_sub hl [0, 1, 3] rfl)
    · have h := it_neg h c9
      refine lv_aload_n hx hb dX8_gatherName_25 rfl (lv_at hl 0 rfl) ?_
      refine h_getr O hH ly_25 rfl fl_X8_49 dX8_gatherName_26 ?_
      refine lv_iload_n hx hb dX8_gatherName_29 rfl (lv_at hl 3 rfl) ?_
      obtain ⟨g10, h⟩ := gd_some h
      refine h_iald O hH ly_41 g10 dX8_gatherName_30 ?_
      refine lv_iload_n hx hb dX8_gatherName_31 rfl (lv_at hl 1 rfl) ?_
      refine lv_icmp_eq (tgt := 39) hx hb dX8_gatherName_32 (by decide) (fun c11 => ?_) (fun c11 => ?_)
      · have h := it_pos h c11
        exact w_X8_gatherName_39 O hr hlk hk13 _ _ _ h _ _ _ hH (lv_sub hl [0, 1, 3] rfl)
      · have h := it_neg h c11
        refine lv_iconst (v := 1) hx hb dX8_gatherName_35 (by decide) ?_
        refine lv_goto (tgt := 40) hx hb dX8_gatherName_36 (by decide) ?_
        exact w_X8_gatherName_40 O hr hlk hk13 _ _ _ _ h _ _ _ hH (lv_sub hl [0, 1, 3] rfl)
set_option maxHeartbeats 4000000 in
theorem w_X8_gatherName_13 {G : va_G} {tA : Nat → ClassId} {z : Nat} {E : Ex} {p : Program} {l : Launch} {e : Env} {s : State} {m : MethodId} {args : Array Value} {below : List Frame} {meth : Method} {c : Code} {D' : Dm} (O : Ok G tA z E cX8_gatherName RX8 4 p s m args c) (hr : meth.sig.returnType = none) (hlk : meth.locks = false) : ∀ (n : Nat) (x1 : Int32) (x2 : Int32) (x3 : Int32) (D : Dm) (h : f_X8_gatherName_13 n x1 x2 x3 D = some D'), BV G tA z E p l e (rmC 1 0 0) s m args below meth c LAY D D' 4 13 [(0, .ref (z + 25)), (1, .int x1), (2, .int x2), (3, .int x3)] [] := by
  intro n
  induction n with
  | zero => intro x1 x2 x3 D h; exact no_some h
  | succ n ih => intro x1 x2 x3 D h; exact w_X8_gatherName_13_b O hr hlk (fun x1 x2 x3 D h => ih x1 x2 x3 D h) x1 x2 x3 D h
set_option maxHeartbeats 4000000 in
theorem w_X8_gatherName_10 {G : va_G} {tA : Nat → ClassId} {z : Nat} {E : Ex} {p : Program} {l : Launch} {e : Env} {s : State} {m : MethodId} {args : Array Value} {below : List Frame} {meth : Method} {c : Code} {D' : Dm} (O : Ok G tA z E cX8_gatherName RX8 4 p s m args c) (hr : meth.sig.returnType = none) (hlk : meth.locks = false) (x1 : Int32) (xs0 : Int32) (D : Dm) (h : f_X8_gatherName_10 x1 xs0 D = some D') : BV G tA z E p l e (rmC 1 0 0) s m args below meth c LAY D D' 4 10 [(0, .ref (z + 25)), (1, .int x1)] [.int xs0] := by
  obtain ⟨hx, hb, -, hown, hts, -⟩ := id O
  unfold f_X8_gatherName_10 at h
  intro H locs ls hH hl
  refine lv_istore_n (lv' := [(2, .int xs0), (0, .ref (z + 25)), (1, .int x1)]) hx hb dX8_gatherName_10 rfl hl (by decide) rfl (fun ls hl => ?_)
  refine lv_iconst (v := 0) hx hb dX8_gatherName_11 (by decide) ?_
  refine lv_istore_n (lv' := [(3, .int 0), (2, .int xs0), (0, .ref (z + 25)), (1, .int x1)]) hx hb dX8_gatherName_12 rfl hl (by decide) rfl (fun ls hl => ?_)
  exact w_X8_gatherName_13 O hr hlk FU _ _ _ _ h _ _ _ hH (lv_sub hl [2, 3, 1, 0] rfl)
set_option maxHeartbeats 4000000 in
theorem w_X8_gatherName {G : va_G} {tA : Nat → ClassId} {z : Nat} {E : Ex} {p : Program} {l : Launch} {e : Env} {s : State} {m : MethodId} {args : Array Value} {below : List Frame} {meth : Method} {c : Code} {D' : Dm} (O : Ok G tA z E cX8_gatherName RX8 4 p s m args c) (hr : meth.sig.returnType = none) (hlk : meth.locks = false) (x1 : Int32) (D : Dm) (h : f_X8_gatherName x1 D = some D') : BV G tA z E p l e (rmC 1 0 0) s m args below meth c LAY D D' 4 0 [(0, .ref (z + 25)), (1, .int x1)] [] := by
  obtain ⟨hx, hb, -, hown, hts, -⟩ := id O
  unfold f_X8_gatherName at h
  intro H locs ls hH hl
  refine lv_iload_n hx hb dX8_gatherName_0 rfl (lv_at hl 1 rfl) ?_
  refine lv_iconst (v := (-1)) hx hb dX8_gatherName_1 (by decide) ?_
  refine lv_icmp_eq (tgt := 9) hx hb dX8_gatherName_2 (by decide) (fun c1 => ?_) (fun c1 => ?_)
  · have h := it_pos h c1
    refine lv_iconst (v := 0) hx hb dX8_gatherName_9 (by decide) ?_
    exact w_X8_gatherName_10 O hr hlk _ _ _ h _ _ _ hH (lv_sub hl [0, 1] rfl)
  · have h := it_neg h c1
    refine lv_iconst (v := 1) hx hb dX8_gatherName_5 (by decide) ?_
    refine lv_goto (tgt := 10) hx hb dX8_gatherName_6 (by decide) ?_
    exact w_X8_gatherName_10 O hr hlk _ _ _ h _ _ _ hH (lv_sub hl [0, 1] rfl)
set_option maxHeartbeats 4000000 in
theorem c_X8_gatherName {l : Launch} {G : va_G} {tA : Nat → ClassId} {z : Nat} {E : Ex} {x1 : Int32} {D D' : Dm} (h : f_X8_gatherName x1 D = some D') : CtV l yX8_gatherName cX8_gatherName 4 G tA z E 1 0 0 [.ref (z + 25), .int x1] LAY D LAY D' :=
  ct_BV (by decide +kernel) (Nat.le_of_ble_eq_true rfl) (fun _ _ _ _ _ _ _ _ O hr hlk => w_X8_gatherName O hr hlk _ _ h)
set_option maxHeartbeats 4000000 in
theorem w_X8_gatherNames {G : va_G} {tA : Nat → ClassId} {z : Nat} {E : Ex} {p : Program} {l : Launch} {e : Env} {s : State} {m : MethodId} {args : Array Value} {below : List Frame} {meth : Method} {c : Code} {D' : Dm} (O : Ok G tA z E cX8_gatherNames RX8 2 p s m args c) (hr : meth.sig.returnType = none) (hlk : meth.locks = false) (x1 : Int32) (D : Dm) (h : f_X8_gatherNames x1 D = some D') : BV G tA z E p l e (rmC 2 0 0) s m args below meth c LAY D D' 2 0 [(0, .ref (z + 25)), (1, .int x1)] [] := by
  obtain ⟨hx, hb, -, hown, hts, -⟩ := id O
  unfold f_X8_gatherNames at h
  intro H locs ls hH hl
  refine lv_aload_n hx hb dX8_gatherNames_0 rfl (lv_at hl 0 rfl) ?_
  refine lv_iconst (v := 0) hx hb dX8_gatherNames_1 (by decide) ?_
  obtain ⟨D1, e2, h⟩ := lt_some h
  refine h_puti O hH ly_25 rfl fl_X8_98 e2 dX8_gatherNames_2 (fun H locs hH => ?_)
  refine lv_aload_n hx hb dX8_gatherNames_5 rfl (lv_at hl 0 rfl) ?_
  refine lv_aload_n hx hb dX8_gatherNames_6 rfl (lv_at hl 0 rfl) ?_
  refine h_getr O hH ly_25 rfl fl_X8_33 dX8_gatherNames_7 ?_
  refine h_getr O hH ly_32 rfl fl_X8_109 dX8_gatherNames_10 ?_
  refine lv_iconst (v := 0) hx hb dX8_gatherNames_13 (by decide) ?_
  refine h_ialdk (k := 0) O hH ly_33 (by decide) (by decide) (by decide) dX8_gatherNames_14 ?_
  obtain ⟨D4, hc5, h⟩ := bV_some h
  refine h_callVv (As := [.int (D1 33 0)]) (rest := []) O hH (c_X8_gatherName hc5) ml_X8_110 ly_25 rfl rfl hl.1 rfl ⟨Nat.le_of_ble_eq_true rfl, Nat.le_of_ble_eq_true rfl⟩ (Nat.le_of_ble_eq_true rfl) dX8_gatherNames_15 (fun H locs hH => ?_)
  refine lv_aload_n hx hb dX8_gatherNames_18 rfl (lv_at hl 0 rfl) ?_
  refine lv_aload_n hx hb dX8_gatherNames_19 rfl (lv_at hl 0 rfl) ?_
  refine h_getr O hH ly_25 rfl fl_X8_33 dX8_gatherNames_20 ?_
  refine h_getr O hH ly_32 rfl fl_X8_109 dX8_gatherNames_23 ?_
  refine lv_iconst (v := 1) hx hb dX8_gatherNames_26 (by decide) ?_
  refine h_ialdk (k := 1) O hH ly_33 (by decide) (by decide) (by decide) dX8_gatherNames_27 ?_
  obtain ⟨D7, hc8, h⟩ := bV_some h
  refine h_callVv (As := [.int (D4 33 1)]) (rest := []) O hH (c_X8_gatherName hc8) ml_X8_110 ly_25 rfl rfl hl.1 rfl ⟨Nat.le_of_ble_eq_true rfl, Nat.le_of_ble_eq_true rfl⟩ (Nat.le_of_ble_eq_true rfl) dX8_gatherNames_28 (fun H locs hH => ?_)
  refine lv_aload_n hx hb dX8_gatherNames_31 rfl (lv_at hl 0 rfl) ?_
  refine lv_aload_n hx hb dX8_gatherNames_32 rfl (lv_at hl 0 rfl) ?_
  refine h_getr O hH ly_25 rfl fl_X8_37 dX8_gatherNames_33 ?_
  refine h_getr O hH ly_34 rfl fl_X8_109 dX8_gatherNames_36 ?_
  refine lv_iconst (v := 0) hx hb dX8_gatherNames_39 (by decide) ?_
  refine h_ialdk (k := 0) O hH ly_35 (by decide) (by decide) (by decide) dX8_gatherNames_40 ?_
  obtain ⟨D10, hc11, h⟩ := bV_some h
  refine h_callVv (As := [.int (D7 35 0)]) (rest := []) O hH (c_X8_gatherName hc11) ml_X8_110 ly_25 rfl rfl hl.1 rfl ⟨Nat.le_of_ble_eq_true rfl, Nat.le_of_ble_eq_true rfl⟩ (Nat.le_of_ble_eq_true rfl) dX8_gatherNames_41 (fun H locs hH => ?_)
  refine lv_aload_n hx hb dX8_gatherNames_44 rfl (lv_at hl 0 rfl) ?_
  refine lv_aload_n hx hb dX8_gatherNames_45 rfl (lv_at hl 0 rfl) ?_
  refine h_getr O hH ly_25 rfl fl_X8_37 dX8_gatherNames_46 ?_
  refine h_getr O hH ly_34 rfl fl_X8_109 dX8_gatherNames_49 ?_
  refine lv_iconst (v := 1) hx hb dX8_gatherNames_52 (by decide) ?_
  refine h_ialdk (k := 1) O hH ly_35 (by decide) (by decide) (by decide) dX8_gatherNames_53 ?_
  obtain ⟨D13, hc14, h⟩ := bV_some h
  refine h_callVv (As := [.int (D10 35 1)]) (rest := []) O hH (c_X8_gatherName hc14) ml_X8_110 ly_25 rfl rfl hl.1 rfl ⟨Nat.le_of_ble_eq_true rfl, Nat.le_of_ble_eq_true rfl⟩ (Nat.le_of_ble_eq_true rfl) dX8_gatherNames_54 (fun H locs hH => ?_)
  refine lv_aload_n hx hb dX8_gatherNames_57 rfl (lv_at hl 0 rfl) ?_
  refine lv_iload_n hx hb dX8_gatherNames_58 rfl (lv_at hl 1 rfl) ?_
  obtain ⟨D15, hc16, h⟩ := bV_some h
  refine h_callVv (As := [.int x1]) (rest := []) O hH (c_X8_gatherName hc16) ml_X8_110 ly_25 rfl rfl hl.1 rfl ⟨Nat.le_of_ble_eq_true rfl, Nat.le_of_ble_eq_true rfl⟩ (Nat.le_of_ble_eq_true rfl) dX8_gatherNames_59 (fun H locs hH => ?_)
  obtain rfl := ret_v h
  exact h_vret O hr hlk hH dX8_gatherNames_62
set_option maxHeartbeats 4000000 in
theorem c_X8_gatherNames {l : Launch} {G : va_G} {tA : Nat → ClassId} {z : Nat} {E : Ex} {x1 : Int32} {D D' : Dm} (h : f_X8_gatherNames x1 D = some D') : CtV l yX8_gatherNames cX8_gatherNames 2 G tA z E 2 0 0 [.ref (z + 25), .int x1] LAY D LAY D' :=
  ct_BV (by decide +kernel) (Nat.le_of_ble_eq_true rfl) (fun _ _ _ _ _ _ _ _ O hr hlk => w_X8_gatherNames O hr hlk _ _ h)
set_option maxHeartbeats 4000000 in
theorem w_X8_goOn_m_136 {G : va_G} {tA : Nat → ClassId} {z : Nat} {E : Ex} {p : Program} {l : Launch} {e : Env} {s : State} {m : MethodId} {args : Array Value} {below : List Frame} {meth : Method} {c : Code} {r : Int32} {D' : Dm} (O : Ok G tA z E cX8_goOn RX8 7 p s m args c) (hr : meth.sig.returnType = some .boolean) (hlk : meth.locks = false) {k23 : Int32 → Int32 → Int32 → Dm → Option (Int32 × Dm)} (hk23 : ∀ (x1 : Int32) (x4 : Int32) (x5 : Int32) (D : Dm), k23 x1 x4 x5 D = some (r, D') → BI G tA z E p l e (rmC 3 0 0) s m args below meth c LAY D r D' 7 23 [(0, .ref (z + 25)), (1, .int x1), (2, .ref (z + 9)), (3, .ref (z + 13)), (4, .int x4), (5, .int x5)] []) {k33 : Int32 → Int32 → Int32 → Int32 → Dm → Option (Int32 × Dm)} (hk33 : ∀ (x1 : Int32) (x4 : Int32) (x5 : Int32) (x6 : Int32) (D : Dm), k33 x1 x4 x5 x6 D = some (r, D') → BI G tA z E p l e (rmC 3 0 0) s m args below meth c LAY D r D' 7 33 [(0, .ref (z + 25)), (1, .int x1), (2, .ref (z + 9)), (3, .ref (z + 13)), (4, .int x4), (5, .int x5), (6, .int x6)] []) (x1 : Int32) (x4 : Int32) (x5 : Int32) (x6 : Int32) (D : Dm) (h : f_X8_goOn_m_136 k23 k33 x1 x4 x5 x6 D = some (r, D')) : BI G tA z E p l e (rmC 3 0 0) s m args below meth c LAY D r D' 7 136 [(0, .ref (z + 25)), (1, .int x1), (2, .ref (z + 9)), (3, .ref (z + 13)), (4, .int x4), (5, .int x5), (6, .int x6)] [] := by
  obtain ⟨hx, hb, -, hown, hts, -⟩ := id O
  unfold f_X8_goOn_m_136 at h
  intro H locs ls hH hl
  obtain ⟨y1, e2, h⟩ := lt_some h
  refine lv_iinc (v := y1) (lv' := [(6, .int y1), (0, .ref (z + 25)), (1, .int x1), (2, .ref (z + 9)), (3, .ref (z + 13)), (4, .int x4), (5, .int x5)]) hx hb dX8_goOn_136 hl (k := 6) rfl (by rw [e2]; rfl) (by decide) rfl (fun ls hl => ?_)
  refine lv_goto (tgt := 33) hx hb dX8_goOn_139 (by decide) ?_
  exact hk33 _ _ _ _ _ h _ _ _ hH (lv_sub hl [1, 2, 3, 4, 5, 6, 0] rfl)
set_option maxHeartbeats 4000000 in
theorem w_X8_goOn_m_33_b {G : va_G} {tA : Nat → ClassId} {z : Nat} {E : Ex} {p : Program} {l : Launch} {e : Env} {s : State} {m : MethodId} {args : Array Value} {below : List Frame} {meth : Method} {c : Code} {r : Int32} {D' : Dm} (O : Ok G tA z E cX8_goOn RX8 7 p s m args c) (hr : meth.sig.returnType = some .boolean) (hlk : meth.locks = false) {k23 : Int32 → Int32 → Int32 → Dm → Option (Int32 × Dm)} (hk23 : ∀ (x1 : Int32) (x4 : Int32) (x5 : Int32) (D : Dm), k23 x1 x4 x5 D = some (r, D') → BI G tA z E p l e (rmC 3 0 0) s m args below meth c LAY D r D' 7 23 [(0, .ref (z + 25)), (1, .int x1), (2, .ref (z + 9)), (3, .ref (z + 13)), (4, .int x4), (5, .int x5)] []) {k33 : Int32 → Int32 → Int32 → Int32 → Dm → Option (Int32 × Dm)} (hk33 : ∀ (x1 : Int32) (x4 : Int32) (x5 : Int32) (x6 : Int32) (D : Dm), k33 x1 x4 x5 x6 D = some (r, D') → BI G tA z E p l e (rmC 3 0 0) s m args below meth c LAY D r D' 7 33 [(0, .ref (z + 25)), (1, .int x1), (2, .ref (z + 9)), (3, .ref (z + 13)), (4, .int x4), (5, .int x5), (6, .int x6)] []) (x1 : Int32) (x4 : Int32) (x5 : Int32) (x6 : Int32) (D : Dm) (h : f_X8_goOn_m_33_b k23 k33 x1 x4 x5 x6 D = some (r, D')) : BI G tA z E p l e (rmC 3 0 0) s m args below meth c LAY D r D' 7 33 [(0, .ref (z + 25)), (1, .int x1), (2, .ref (z + 9)), (3, .ref (z + 13)), (4, .int x4), (5, .int x5), (6, .int x6)] [] := by
  obtain ⟨hx, hb, -, hown, hts, -⟩ := id O
  unfold f_X8_goOn_m_33_b at h
  intro H locs ls hH hl
  refine lv_iload hx hb dX8_goOn_33 (lv_at hl 6 rfl) ?_
  refine lv_aload_n hx hb dX8_goOn_35 rfl (lv_at hl 0 rfl) ?_
  refine h_geti O hH ly_25 rfl fl_X8_98 dX8_goOn_36 ?_
  refine lv_icmp_ge (tgt := 142) hx hb dX8_goOn_39 (by decide) (fun c1 => ?_) (fun c1 => ?_)
  · have h := it_pos h c1
    obtain ⟨y2, e3, h⟩ := lt_some h
    refine lv_iinc (v := y2) (lv' := [(5, .int y2), (0, .ref (z + 25)), (1, .int x1), (2, .ref (z + 9)), (3, .ref (z + 13)), (4, .int x4), (6, .int x6)]) hx hb dX8_goOn_142 hl (k := 5) rfl (by rw [e3]; rfl) (by decide) rfl (fun ls hl => ?_)
    refine lv_goto (tgt := 23) hx hb dX8_goOn_145 (by decide) ?_
    exact hk23 _ _ _ _ h _ _ _ hH (lv_sub hl [1, 2, 3, 4, 5, 0] rfl)
  · have h := it_neg h c1
    refine lv_aload_n hx hb dX8_goOn_42 rfl (lv_at hl 0 rfl) ?_
    refine h_getr O hH ly_25 rfl fl_X8_40 dX8_goOn_43 ?_
    refine lv_aload_n hx hb dX8_goOn_46 rfl (lv_at hl 0 rfl) ?_
    refine h_getr O hH ly_25 rfl fl_X8_33 dX8_goOn_47 ?_
    obtain ⟨D4, hc5, h⟩ := bV_some h
    refine h_callVv (As := [.ref (z + 32)]) (rest := []) O hH (c_X1_copy ic_36 ic_32 hc5) ml_X8_101 ly_36 rfl rfl hl.1 rfl ⟨Nat.le_of_ble_eq_true rfl, Nat.le_of_ble_eq_true rfl⟩ (Nat.le_of_ble_eq_true rfl) dX8_goOn_50 (fun H locs hH => ?_)
    refine lv_aload_n hx hb dX8_goOn_53 rfl (lv_at hl 0 rfl) ?_
    refine h_getr O hH ly_25 rfl fl_X8_43 dX8_goOn_54 ?_
    refine lv_aload_n hx hb dX8_goOn_57 rfl (lv_at hl 0 rfl) ?_
    refine h_getr O hH ly_25 rfl fl_X8_37 dX8_goOn_58 ?_
    obtain ⟨D6, hc7, h⟩ := bV_some h
    refine h_callVv (As := [.ref (z + 34)]) (rest := []) O hH (c_X1_copy ic_38 ic_34 hc7) ml_X8_101 ly_38 rfl rfl hl.1 rfl ⟨Nat.le_of_ble_eq_true rfl, Nat.le_of_ble_eq_true rfl⟩ (Nat.le_of_ble_eq_true rfl) dX8_goOn_61 (fun H locs hH => ?_)
    refine lv_aload_n hx hb dX8_goOn_64 rfl (lv_at hl 2 rfl) ?_
    refine lv_aload_n hx hb dX8_goOn_65 rfl (lv_at hl 0 rfl) ?_
    refine h_getr O hH ly_25 rfl fl_X8_40 dX8_goOn_66 ?_
    refine lv_iload hx hb dX8_goOn_69 (lv_at hl 5 rfl) ?_
    refine lv_aload_n hx hb dX8_goOn_71 rfl (lv_at hl 0 rfl) ?_
    refine h_getr O hH ly_25 rfl fl_X8_49 dX8_goOn_72 ?_
    refine lv_iload hx hb dX8_goOn_75 (lv_at hl 6 rfl) ?_
    obtain ⟨g8, h⟩ := gd_some h
    refine h_iald O hH ly_41 g8 dX8_goOn_77 ?_
    obtain ⟨D9, hc10, h⟩ := bV_some h
    refine h_callUv (As := [.ref (z + 36), .int x5, .int (D6 41 (Int32.toNatClampNeg x6))]) (rest := []) O hH (c_X4_advance ic_9 ic_36 hc10) mu_X8_105_4 ly_9 rfl rfl hl.1 rfl ⟨Nat.le_of_ble_eq_true rfl, Nat.le_of_ble_eq_true rfl⟩ (Nat.le_of_ble_eq_true rfl) dX8_goOn_78 (fun H locs hH => ?_)
    refine lv_aload_n hx hb dX8_goOn_81 rfl (lv_at hl 3 rfl) ?_
    refine lv_aload_n hx hb dX8_goOn_82 rfl (lv_at hl 0 rfl) ?_
    refine h_getr O hH ly_25 rfl fl_X8_43 dX8_goOn_83 ?_
    refine lv_iload hx hb dX8_goOn_86 (lv_at hl 5 rfl) ?_
    refine lv_aload_n hx hb dX8_goOn_88 rfl (lv_at hl 0 rfl) ?_
    refine h_getr O hH ly_25 rfl fl_X8_49 dX8_goOn_89 ?_
    refine lv_iload hx hb dX8_goOn_92 (lv_at hl 6 rfl) ?_
    obtain ⟨g11, h⟩ := gd_some h
    refine h_iald O hH ly_41 g11 dX8_goOn_94 ?_
    obtain ⟨D12, hc13, h⟩ := bV_some h
    refine h_callUv (As := [.ref (z + 38), .int x5, .int (D9 41 (Int32.toNatClampNeg x6))]) (rest := []) O hH (c_X4_advance ic_13 ic_38 hc13) mu_X8_105_4 ly_13 rfl rfl hl.1 rfl ⟨Nat.le_of_ble_eq_true rfl, Nat.le_of_ble_eq_true rfl⟩ (Nat.le_of_ble_eq_true rfl) dX8_goOn_95 (fun H locs hH => ?_)
    refine lv_aload_n hx hb dX8_goOn_98 rfl (lv_at hl 0 rfl) ?_
    refine lv_iload_n hx hb dX8_goOn_99 rfl (lv_at hl 1 rfl) ?_
    refine lv_iload hx hb dX8_goOn_100 (lv_at hl 5 rfl) ?_
    refine lv_aload_n hx hb dX8_goOn_102 rfl (lv_at hl 0 rfl) ?_
    refine h_getr O hH ly_25 rfl fl_X8_49 dX8_goOn_103 ?_
    refine lv_iload hx hb dX8_goOn_106 (lv_at hl 6 rfl) ?_
    obtain ⟨g14, h⟩ := gd_some h
    refine h_iald O hH ly_41 g14 dX8_goOn_108 ?_
    obtain ⟨y17, D15, hc16, h⟩ := bI_some h
    refine h_callVi (As := [.int x1, .int x5, .int (D12 41 (Int32.toNatClampNeg x6))]) (rest := []) O hH (c_X8_enter hc16) ml_X8_73 ly_25 rfl rfl hl.1 rfl ⟨Nat.le_of_ble_eq_true rfl, Nat.le_of_ble_eq_true rfl⟩ (Nat.le_of_ble_eq_true rfl) dX8_goOn_109 (fun H locs hH => ?_)
    refine lv_if_eq (tgt := 136) hx hb dX8_goOn_112 (by decide) (fun c18 => ?_) (fun c18 => ?_)
    · have h := it_pos h c18
      exact w_X8_goOn_m_136 O hr hlk hk23 hk33 _ _ _ _ _ h _ _ _ hH (lv_sub hl [0, 1, 2, 3, 4, 5, 6] rfl)
    · have h := it_neg h c18
      refine lv_aload_n hx hb dX8_goOn_115 rfl (lv_at hl 2 rfl) ?_
      refine lv_aload_n hx hb dX8_goOn_116 rfl (lv_at hl 0 rfl) ?_
      refine h_getr O hH ly_25 rfl fl_X8_40 dX8_goOn_117 ?_
      obtain ⟨y21, D19, hc20, h⟩ := bI_some h
      refine h_callUi (As := [.ref (z + 36)]) (rest := []) O hH (c_X4_takes ic_9 ic_36 hc20) mu_X8_77_4 ly_9 rfl rfl hl.1 rfl ⟨Nat.le_of_ble_eq_true rfl, Nat.le_of_ble_eq_true rfl⟩ (Nat.le_of_ble_eq_true rfl) dX8_goOn_120 (fun H locs hH => ?_)
      refine lv_aload_n hx hb dX8_goOn_123 rfl (lv_at hl 3 rfl) ?_
      refine lv_aload_n hx hb dX8_goOn_124 rfl (lv_at hl 0 rfl) ?_
      refine h_getr O hH ly_25 rfl fl_X8_43 dX8_goOn_125 ?_
      obtain ⟨y24, D22, hc23, h⟩ := bI_some h
      refine h_callUi (As := [.ref (z + 38)]) (rest := [.int y21]) O hH (c_X4_takes ic_13 ic_38 hc23) mu_X8_77_4 ly_13 rfl rfl hl.1 rfl ⟨Nat.le_of_ble_eq_true rfl, Nat.le_of_ble_eq_true rfl⟩ (Nat.le_of_ble_eq_true rfl) dX8_goOn_128 (fun H locs hH => ?_)
      refine lv_icmp_eq (tgt := 136) hx hb dX8_goOn_131 (by decide) (fun c25 => ?_) (fun c25 => ?_)
      · have h := it_pos h c25
        exact w_X8_goOn_m_136 O hr hlk hk23 hk33 _ _ _ _ _ h _ _ _ hH (lv_sub hl [0, 1, 2, 3, 4, 5, 6] rfl)
      · have h := it_neg h c25
        refine lv_iconst (v := 1) hx hb dX8_goOn_134 (by decide) ?_
        obtain ⟨rfl, rfl⟩ := ret_i h
        exact h_zret O hr hlk zb_1 hH dX8_goOn_135
set_option maxHeartbeats 4000000 in
theorem w_X8_goOn_m_33 {G : va_G} {tA : Nat → ClassId} {z : Nat} {E : Ex} {p : Program} {l : Launch} {e : Env} {s : State} {m : MethodId} {args : Array Value} {below : List Frame} {meth : Method} {c : Code} {r : Int32} {D' : Dm} (O : Ok G tA z E cX8_goOn RX8 7 p s m args c) (hr : meth.sig.returnType = some .boolean) (hlk : meth.locks = false) {k23 : Int32 → Int32 → Int32 → Dm → Option (Int32 × Dm)} (hk23 : ∀ (x1 : Int32) (x4 : Int32) (x5 : Int32) (D : Dm), k23 x1 x4 x5 D = some (r, D') → BI G tA z E p l e (rmC 3 0 0) s m args below meth c LAY D r D' 7 23 [(0, .ref (z + 25)), (1, .int x1), (2, .ref (z + 9)), (3, .ref (z + 13)), (4, .int x4), (5, .int x5)] []) : ∀ (n : Nat) (x1 : Int32) (x4 : Int32) (x5 : Int32) (x6 : Int32) (D : Dm) (h : f_X8_goOn_m_33 k23 n x1 x4 x5 x6 D = some (r, D')), BI G tA z E p l e (rmC 3 0 0) s m args below meth c LAY D r D' 7 33 [(0, .ref (z + 25)), (1, .int x1), (2, .ref (z + 9)), (3, .ref (z + 13)), (4, .int x4), (5, .int x5), (6, .int x6)] [] := by
  intro n
  induction n with
  | zero => intro x1 x4 x5 x6 D h; exact no_some h
  | succ n ih => intro x1 x4 x5 x6 D h; exact w_X8_goOn_m_33_b O hr hlk hk23 (fun x1 x4 x5 x6 D h => ih x1 x4 x5 x6 D h) x1 x4 x5 x6 D h
set_option maxHeartbeats 4000000 in
theorem w_X8_goOn_m_23_b {G : va_G} {tA : Nat → ClassId} {z : Nat} {E : Ex} {p : Program} {l : Launch} {e : Env} {s : State} {m : MethodId} {args : Array Value} {below : List Frame} {meth : Method} {c : Code} {r : Int32} {D' : Dm} (O : Ok G tA z E cX8_goOn RX8 7 p s m args c) (hr : meth.sig.returnType = some .boolean) (hlk : meth.locks = false) {k23 : Int32 → Int32 → Int32 → Dm → Option (Int32 × Dm)} (hk23 : ∀ (x1 : Int32) (x4 : Int32) (x5 : Int32) (D : Dm), k23 x1 x4 x5 D = some (r, D') → BI G tA z E p l e (rmC 3 0 0) s m args below meth c LAY D r D' 7 23 [(0, .ref (z + 25)), (1, .int x1), (2, .ref (z + 9)), (3, .ref (z + 13)), (4, .int x4), (5, .int x5)] []) (x1 : Int32) (x4 : Int32) (x5 : Int32) (D : Dm) (h : f_X8_goOn_m_23_b k23 x1 x4 x5 D = some (r, D')) : BI G tA z E p l e (rmC 3 0 0) s m args below meth c LAY D r D' 7 23 [(0, .ref (z + 25)), (1, .int x1), (2, .ref (z + 9)), (3, .ref (z + 13)), (4, .int x4), (5, .int x5)] [] := by
  obtain ⟨hx, hb, -, hown, hts, -⟩ := id O
  unfold f_X8_goOn_m_23_b at h
  intro H locs ls hH hl
  refine lv_iload hx hb dX8_goOn_23 (lv_at hl 5 rfl) ?_
  refine lv_iload hx hb dX8_goOn_25 (lv_at hl 4 rfl) ?_
  refine lv_icmp_ge (tgt := 148) hx hb dX8_goOn_27 (by decide) (fun c1 => ?_) (fun c1 => ?_)
  · have h := it_pos h c1
    refine lv_iconst (v := 0) hx hb dX8_goOn_148 (by decide) ?_
    obtain ⟨rfl, rfl⟩ := ret_i h
    exact h_zret O hr hlk zb_0 hH dX8_goOn_149
  · have h := it_neg h c1
    refine lv_iconst (v := 0) hx hb dX8_goOn_30 (by decide) ?_
    refine lv_istore (lv' := [(6, .int 0), (0, .ref (z + 25)), (1, .int x1), (2, .ref (z + 9)), (3, .ref (z + 13)), (4, .int x4), (5, .int x5)]) hx hb dX8_goOn_31 hl (by decide) rfl (fun ls hl => ?_)
    exact w_X8_goOn_m_33 O hr hlk hk23 FU _ _ _ _ _ h _ _ _ hH (lv_sub hl [1, 2, 3, 4, 5, 6, 0] rfl)
set_option maxHeartbeats 4000000 in
theorem w_X8_goOn_m_23 {G : va_G} {tA : Nat → ClassId} {z : Nat} {E : Ex} {p : Program} {l : Launch} {e : Env} {s : State} {m : MethodId} {args : Array Value} {below : List Frame} {meth : Method} {c : Code} {r : Int32} {D' : Dm} (O : Ok G tA z E cX8_goOn RX8 7 p s m args c) (hr : meth.sig.returnType = some .boolean) (hlk : meth.locks = false) : ∀ (n : Nat) (x1 : Int32) (x4 : Int32) (x5 : Int32) (D : Dm) (h : f_X8_goOn_m_23 n x1 x4 x5 D = some (r, D')), BI G tA z E p l e (rmC 3 0 0) s m args below meth c LAY D r D' 7 23 [(0, .ref (z + 25)), (1, .int x1), (2, .ref (z + 9)), (3, .ref (z + 13)), (4, .int x4), (5, .int x5)] [] := by
  intro n
  induction n with
  | zero => intro x1 x4 x5 D h; exact no_some h
  | succ n ih => intro x1 x4 x5 D h; exact w_X8_goOn_m_23_b O hr hlk (fun x1 x4 x5 D h => ih x1 x4 x5 D h) x1 x4 x5 D h
set_option maxHeartbeats 4000000 in
theorem w_X8_goOn_m {G : va_G} {tA : Nat → ClassId} {z : Nat} {E : Ex} {p : Program} {l : Launch} {e : Env} {s : State} {m : MethodId} {args : Array Value} {below : List Frame} {meth : Method} {c : Code} {r : Int32} {D' : Dm} (O : Ok G tA z E cX8_goOn RX8 7 p s m args c) (hr : meth.sig.returnType = some .boolean) (hlk : meth.locks = false) (x1 : Int32) (x4 : Int32) (D : Dm) (h : f_X8_goOn_m x1 x4 D = some (r, D')) : BI G tA z E p l e (rmC 3 0 0) s m args below meth c LAY D r D' 7 0 [(0, .ref (z + 25)), (1, .int x1), (2, .ref (z + 9)), (3, .ref (z + 13)), (4, .int x4)] [] := by
  obtain ⟨hx, hb, -, hown, hts, -⟩ := id O
  unfold f_X8_goOn_m at h
  intro H locs ls hH hl
  refine lv_aload_n hx hb dX8_goOn_0 rfl (lv_at hl 0 rfl) ?_
  refine lv_aload_n hx hb dX8_goOn_1 rfl (lv_at hl 0 rfl) ?_
  refine h_getr O hH ly_25 rfl fl_X8_15 dX8_goOn_2 ?_
  refine lv_iload_n hx hb dX8_goOn_5 rfl (lv_at hl 1 rfl) ?_
  obtain ⟨g1, h⟩ := gd_some h
  refine h_iald O hH ly_27 g1 dX8_goOn_6 ?_
  obtain ⟨D2, hc3, h⟩ := bV_some h
  refine h_callVv (As := [.int (D 27 (Int32.toNatClampNeg x1))]) (rest := []) O hH (c_X8_unpack hc3) ml_X8_91 ly_25 rfl rfl hl.1 rfl ⟨Nat.le_of_ble_eq_true rfl, Nat.le_of_ble_eq_true rfl⟩ (Nat.le_of_ble_eq_true rfl) dX8_goOn_7 (fun H locs hH => ?_)
  refine lv_aload_n hx hb dX8_goOn_10 rfl (lv_at hl 0 rfl) ?_
  refine lv_aload_n hx hb dX8_goOn_11 rfl (lv_at hl 0 rfl) ?_
  refine h_getr O hH ly_25 rfl fl_X8_24 dX8_goOn_12 ?_
  refine lv_iload_n hx hb dX8_goOn_15 rfl (lv_at hl 1 rfl) ?_
  obtain ⟨g4, h⟩ := gd_some h
  refine h_iald O hH ly_30 g4 dX8_goOn_16 ?_
  obtain ⟨D5, hc6, h⟩ := bV_some h
  refine h_callVv (As := [.int (D2 30 (Int32.toNatClampNeg x1))]) (rest := []) O hH (c_X8_gatherNames hc6) ml_X8_95 ly_25 rfl rfl hl.1 rfl ⟨Nat.le_of_ble_eq_true rfl, Nat.le_of_ble_eq_true rfl⟩ (Nat.le_of_ble_eq_true rfl) dX8_goOn_17 (fun H locs hH => ?_)
  refine lv_iconst (v := 0) hx hb dX8_goOn_20 (by decide) ?_
  refine lv_istore (lv' := [(5, .int 0), (0, .ref (z + 25)), (1, .int x1), (2, .ref (z + 9)), (3, .ref (z + 13)), (4, .int x4)]) hx hb dX8_goOn_21 hl (by decide) rfl (fun ls hl => ?_)
  exact w_X8_goOn_m_23 O hr hlk FU _ _ _ _ h _ _ _ hH (lv_sub hl [1, 2, 3, 4, 5, 0] rfl)
set_option maxHeartbeats 4000000 in
theorem c_X8_goOn_m {l : Launch} {G : va_G} {tA : Nat → ClassId} {z : Nat} {E : Ex} {x1 : Int32} {x4 : Int32} {D D' : Dm} {r : Int32} (h : f_X8_goOn_m x1 x4 D = some (r, D')) : CtI l yX8_goOn cX8_goOn 7 (some .boolean) G tA z E 3 0 0 [.ref (z + 25), .int x1, .ref (z + 9), .ref (z + 13), .int x4] LAY D r LAY D' :=
  ct_BI (by decide +kernel) (Nat.le_of_ble_eq_true rfl) (fun _ _ _ _ _ _ _ _ O hr hlk => w_X8_goOn_m O hr hlk _ _ _ h)
set_option maxHeartbeats 4000000 in
theorem w_X8_goOn_h_136 {G : va_G} {tA : Nat → ClassId} {z : Nat} {E : Ex} {p : Program} {l : Launch} {e : Env} {s : State} {m : MethodId} {args : Array Value} {below : List Frame} {meth : Method} {c : Code} {r : Int32} {D' : Dm} (O : Ok G tA z E cX8_goOn RX8 7 p s m args c) (hr : meth.sig.returnType = some .boolean) (hlk : meth.locks = false) {k23 : Int32 → Int32 → Int32 → Dm → Option (Int32 × Dm)} (hk23 : ∀ (x1 : Int32) (x4 : Int32) (x5 : Int32) (D : Dm), k23 x1 x4 x5 D = some (r, D') → BI G tA z E p l e (rmC 3 0 0) s m args below meth c LAY D r D' 7 23 [(0, .ref (z + 25)), (1, .int x1), (2, .ref (z + 9)), (3, .ref (z + 56)), (4, .int x4), (5, .int x5)] []) {k33 : Int32 → Int32 → Int32 → Int32 → Dm → Option (Int32 × Dm)} (hk33 : ∀ (x1 : Int32) (x4 : Int32) (x5 : Int32) (x6 : Int32) (D : Dm), k33 x1 x4 x5 x6 D = some (r, D') → BI G tA z E p l e (rmC 3 0 0) s m args below meth c LAY D r D' 7 33 [(0, .ref (z + 25)), (1, .int x1), (2, .ref (z + 9)), (3, .ref (z + 56)), (4, .int x4), (5, .int x5), (6, .int x6)] []) (x1 : Int32) (x4 : Int32) (x5 : Int32) (x6 : Int32) (D : Dm) (h : f_X8_goOn_h_136 k23 k33 x1 x4 x5 x6 D = some (r, D')) : BI G tA z E p l e (rmC 3 0 0) s m args below meth c LAY D r D' 7 136 [(0, .ref (z + 25)), (1, .int x1), (2, .ref (z + 9)), (3, .ref (z + 56)), (4, .int x4), (5, .int x5), (6, .int x6)] [] := by
  obtain ⟨hx, hb, -, hown, hts, -⟩ := id O
  unfold f_X8_goOn_h_136 at h
  intro H locs ls hH hl
  obtain ⟨y1, e2, h⟩ := lt_some h
  refine lv_iinc (v := y1) (lv' := [(6, .int y1), (0, .ref (z + 25)), (1, .int x1), (2, .ref (z + 9)), (3, .ref (z + 56)), (4, .int x4), (5, .int x5)]) hx hb dX8_goOn_136 hl (k := 6) rfl (by rw [e2]; rfl) (by decide) rfl (fun ls hl => ?_)
  refine lv_goto (tgt := 33) hx hb dX8_goOn_139 (by decide) ?_
  exact hk33 _ _ _ _ _ h _ _ _ hH (lv_sub hl [1, 2, 3, 4, 5, 6, 0] rfl)
set_option maxHeartbeats 4000000 in
theorem w_X8_goOn_h_33_b {G : va_G} {tA : Nat → ClassId} {z : Nat} {E : Ex} {p : Program} {l : Launch} {e : Env} {s : State} {m : MethodId} {args : Array Value} {below : List Frame} {meth : Method} {c : Code} {r : Int32} {D' : Dm} (O : Ok G tA z E cX8_goOn RX8 7 p s m args c) (hr : meth.sig.returnType = some .boolean) (hlk : meth.locks = false) {k23 : Int32 → Int32 → Int32 → Dm → Option (Int32 × Dm)} (hk23 : ∀ (x1 : Int32) (x4 : Int32) (x5 : Int32) (D : Dm), k23 x1 x4 x5 D = some (r, D') → BI G tA z E p l e (rmC 3 0 0) s m args below meth c LAY D r D' 7 23 [(0, .ref (z + 25)), (1, .int x1), (2, .ref (z + 9)), (3, .ref (z + 56)), (4, .int x4), (5, .int x5)] []) {k33 : Int32 → Int32 → Int32 → Int32 → Dm → Option (Int32 × Dm)} (hk33 : ∀ (x1 : Int32) (x4 : Int32) (x5 : Int32) (x6 : Int32) (D : Dm), k33 x1 x4 x5 x6 D = some (r, D') → BI G tA z E p l e (rmC 3 0 0) s m args below meth c LAY D r D' 7 33 [(0, .ref (z + 25)), (1, .int x1), (2, .ref (z + 9)), (3, .ref (z + 56)), (4, .int x4), (5, .int x5), (6, .int x6)] []) (x1 : Int32) (x4 : Int32) (x5 : Int32) (x6 : Int32) (D : Dm) (h : f_X8_goOn_h_33_b k23 k33 x1 x4 x5 x6 D = some (r, D')) : BI G tA z E p l e (rmC 3 0 0) s m args below meth c LAY D r D' 7 33 [(0, .ref (z + 25)), (1, .int x1), (2, .ref (z + 9)), (3, .ref (z + 56)), (4, .int x4), (5, .int x5), (6, .int x6)] [] := by
  obtain ⟨hx, hb, -, hown, hts, -⟩ := id O
  unfold f_X8_goOn_h_33_b at h
  intro H locs ls hH hl
  refine lv_iload hx hb dX8_goOn_33 (lv_at hl 6 rfl) ?_
  refine lv_aload_n hx hb dX8_goOn_35 rfl (lv_at hl 0 rfl) ?_
  refine h_geti O hH ly_25 rfl fl_X8_98 dX8_goOn_36 ?_
  refine lv_icmp_ge (tgt := 142) hx hb dX8_goOn_39 (by decide) (fun c1 => ?_) (fun c1 => ?_)
  · have h := it_pos h c1
    obtain ⟨y2, e3, h⟩ := lt_some h
    refine lv_iinc (v := y2) (lv' := [(5, .int y2), (0, .ref (z + 25)), (1, .int x1), (2, .ref (z + 9)), (3, .ref (z + 56)), (4, .int x4), (6, .int x6)]) hx hb dX8_goOn_142 hl (k := 5) rfl (by rw [e3]; rfl) (by decide) rfl (fun ls hl => ?_)
    refine lv_goto (tgt := 23) hx hb dX8_goOn_145 (by decide) ?_
    exact hk23 _ _ _ _ h _ _ _ hH (lv_sub hl [1, 2, 3, 4, 5, 0] rfl)
  · have h := it_neg h c1
    refine lv_aload_n hx hb dX8_goOn_42 rfl (lv_at hl 0 rfl) ?_
    refine h_getr O hH ly_25 rfl fl_X8_40 dX8_goOn_43 ?_
    refine lv_aload_n hx hb dX8_goOn_46 rfl (lv_at hl 0 rfl) ?_
    refine h_getr O hH ly_25 rfl fl_X8_33 dX8_goOn_47 ?_
    obtain ⟨D4, hc5, h⟩ := bV_some h
    refine h_callVv (As := [.ref (z + 32)]) (rest := []) O hH (c_X1_copy ic_36 ic_32 hc5) ml_X8_101 ly_36 rfl rfl hl.1 rfl ⟨Nat.le_of_ble_eq_true rfl, Nat.le_of_ble_eq_true rfl⟩ (Nat.le_of_ble_eq_true rfl) dX8_goOn_50 (fun H locs hH => ?_)
    refine lv_aload_n hx hb dX8_goOn_53 rfl (lv_at hl 0 rfl) ?_
    refine h_getr O hH ly_25 rfl fl_X8_43 dX8_goOn_54 ?_
    refine lv_aload_n hx hb dX8_goOn_57 rfl (lv_at hl 0 rfl) ?_
    refine h_getr O hH ly_25 rfl fl_X8_37 dX8_goOn_58 ?_
    obtain ⟨D6, hc7, h⟩ := bV_some h
    refine h_callVv (As := [.ref (z + 34)]) (rest := []) O hH (c_X1_copy ic_38 ic_34 hc7) ml_X8_101 ly_38 rfl rfl hl.1 rfl ⟨Nat.le_of_ble_eq_true rfl, Nat.le_of_ble_eq_true rfl⟩ (Nat.le_of_ble_eq_true rfl) dX8_goOn_61 (fun H locs hH => ?_)
    refine lv_aload_n hx hb dX8_goOn_64 rfl (lv_at hl 2 rfl) ?_
    refine lv_aload_n hx hb dX8_goOn_65 rfl (lv_at hl 0 rfl) ?_
    refine h_getr O hH ly_25 rfl fl_X8_40 dX8_goOn_66 ?_
    refine lv_iload hx hb dX8_goOn_69 (lv_at hl 5 rfl) ?_
    refine lv_aload_n hx hb dX8_goOn_71 rfl (lv_at hl 0 rfl) ?_
    refine h_getr O hH ly_25 rfl fl_X8_49 dX8_goOn_72 ?_
    refine lv_iload hx hb dX8_goOn_75 (lv_at hl 6 rfl) ?_
    obtain ⟨g8, h⟩ := gd_some h
    refine h_iald O hH ly_41 g8 dX8_goOn_77 ?_
    obtain ⟨D9, hc10, h⟩ := bV_some h
    refine h_callUv (As := [.ref (z + 36), .int x5, .int (D6 41 (Int32.toNatClampNeg x6))]) (rest := []) O hH (c_X4_advance ic_9 ic_36 hc10) mu_X8_105_4 ly_9 rfl rfl hl.1 rfl ⟨Nat.le_of_ble_eq_true rfl, Nat.le_of_ble_eq_true rfl⟩ (Nat.le_of_ble_eq_true rfl) dX8_goOn_78 (fun H locs hH => ?_)
    refine lv_aload_n hx hb dX8_goOn_81 rfl (lv_at hl 3 rfl) ?_
    refine lv_aload_n hx hb dX8_goOn_82 rfl (lv_at hl 0 rfl) ?_
    refine h_getr O hH ly_25 rfl fl_X8_43 dX8_goOn_83 ?_
    refine lv_iload hx hb dX8_goOn_86 (lv_at hl 5 rfl) ?_
    refine lv_aload_n hx hb dX8_goOn_88 rfl (lv_at hl 0 rfl) ?_
    refine h_getr O hH ly_25 rfl fl_X8_49 dX8_goOn_89 ?_
    refine lv_iload hx hb dX8_goOn_92 (lv_at hl 6 rfl) ?_
    obtain ⟨g11, h⟩ := gd_some h
    refine h_iald O hH ly_41 g11 dX8_goOn_94 ?_
    obtain ⟨D12, hc13, h⟩ := bV_some h
    refine h_callUv (As := [.ref (z + 38), .int x5, .int (D9 41 (Int32.toNatClampNeg x6))]) (rest := []) O hH (c_X2_advance ic_38 hc13) mu_X8_105_2 ly_56 rfl rfl hl.1 rfl ⟨Nat.le_of_ble_eq_true rfl, Nat.le_of_ble_eq_true rfl⟩ (Nat.le_of_ble_eq_true rfl) dX8_goOn_95 (fun H locs hH => ?_)
    refine lv_aload_n hx hb dX8_goOn_98 rfl (lv_at hl 0 rfl) ?_
    refine lv_iload_n hx hb dX8_goOn_99 rfl (lv_at hl 1 rfl) ?_
    refine lv_iload hx hb dX8_goOn_100 (lv_at hl 5 rfl) ?_
    refine lv_aload_n hx hb dX8_goOn_102 rfl (lv_at hl 0 rfl) ?_
    refine h_getr O hH ly_25 rfl fl_X8_49 dX8_goOn_103 ?_
    refine lv_iload hx hb dX8_goOn_106 (lv_at hl 6 rfl) ?_
    obtain ⟨g14, h⟩ := gd_some h
    refine h_iald O hH ly_41 g14 dX8_goOn_108 ?_
    obtain ⟨y17, D15, hc16, h⟩ := bI_some h
    refine h_callVi (As := [.int x1, .int x5, .int (D12 41 (Int32.toNatClampNeg x6))]) (rest := []) O hH (c_X8_enter hc16) ml_X8_73 ly_25 rfl rfl hl.1 rfl ⟨Nat.le_of_ble_eq_true rfl, Nat.le_of_ble_eq_true rfl⟩ (Nat.le_of_ble_eq_true rfl) dX8_goOn_109 (fun H locs hH => ?_)
    refine lv_if_eq (tgt := 136) hx hb dX8_goOn_112 (by decide) (fun c18 => ?_) (fun c18 => ?_)
    · have h := it_pos h c18
      exact w_X8_goOn_h_136 O hr hlk hk23 hk33 _ _ _ _ _ h _ _ _ hH (lv_sub hl [0, 1, 2, 3, 4, 5, 6] rfl)
    · have h := it_neg h c18
      refine lv_aload_n hx hb dX8_goOn_115 rfl (lv_at hl 2 rfl) ?_
      refine lv_aload_n hx hb dX8_goOn_116 rfl (lv_at hl 0 rfl) ?_
      refine h_getr O hH ly_25 rfl fl_X8_40 dX8_goOn_117 ?_
      obtain ⟨y21, D19, hc20, h⟩ := bI_some h
      refine h_callUi (As := [.ref (z + 36)]) (rest := []) O hH (c_X4_takes ic_9 ic_36 hc20) mu_X8_77_4 ly_9 rfl rfl hl.1 rfl ⟨Nat.le_of_ble_eq_true rfl, Nat.le_of_ble_eq_true rfl⟩ (Nat.le_of_ble_eq_true rfl) dX8_goOn_120 (fun H locs hH => ?_)
      refine lv_aload_n hx hb dX8_goOn_123 rfl (lv_at hl 3 rfl) ?_
      refine lv_aload_n hx hb dX8_goOn_124 rfl (lv_at hl 0 rfl) ?_
      refine h_getr O hH ly_25 rfl fl_X8_43 dX8_goOn_125 ?_
      obtain ⟨y24, D22, hc23, h⟩ := bI_some h
      refine h_callUi (As := [.ref (z + 38)]) (rest := [.int y21]) O hH (c_X2_takes ic_38 hc23) mu_X8_77_2 ly_56 rfl rfl hl.1 rfl ⟨Nat.le_of_ble_eq_true rfl, Nat.le_of_ble_eq_true rfl⟩ (Nat.le_of_ble_eq_true rfl) dX8_goOn_128 (fun H locs hH => ?_)
      refine lv_icmp_eq (tgt := 136) hx hb dX8_goOn_131 (by decide) (fun c25 => ?_) (fun c25 => ?_)
      · have h := it_pos h c25
        exact w_X8_goOn_h_136 O hr hlk hk23 hk33 _ _ _ _ _ h _ _ _ hH (lv_sub hl [0, 1, 2, 3, 4, 5, 6] rfl)
      · have h := it_neg h c25
        refine lv_iconst (v := 1) hx hb dX8_goOn_134 (by decide) ?_
        obtain ⟨rfl, rfl⟩ := ret_i h
        exact h_zret O hr hlk zb_1 hH dX8_goOn_135
set_option maxHeartbeats 4000000 in
theorem w_X8_goOn_h_33 {G : va_G} {tA : Nat → ClassId} {z : Nat} {E : Ex} {p : Program} {l : Launch} {e : Env} {s : State} {m : MethodId} {args : Array Value} {below : List Frame} {meth : Method} {c : Code} {r : Int32} {D' : Dm} (O : Ok G tA z E cX8_goOn RX8 7 p s m args c) (hr : meth.sig.returnType = some .boolean) (hlk : meth.locks = false) {k23 : Int32 → Int32 → Int32 → Dm → Option (Int32 × Dm)} (hk23 : ∀ (x1 : Int32) (x4 : Int32) (x5 : Int32) (D : Dm), k23 x1 x4 x5 D = some (r, D') → BI G tA z E p l e (rmC 3 0 0) s m args below meth c LAY D r D' 7 23 [(0, .ref (z + 25)), (1, .int x1), (2, .ref (z + 9)), (3, .ref (z + 56)), (4, .int x4), (5, .int x5)] []) : ∀ (n : Nat) (x1 : Int32) (x4 : Int32) (x5 : Int32) (x6 : Int32) (D : Dm) (h : f_X8_goOn_h_33 k23 n x1 x4 x5 x6 D = some (r, D')), BI G tA z E p l e (rmC 3 0 0) s m args below meth c LAY D r D' 7 33 [(0, .ref (z + 25)), (1, .int x1), (2, .ref (z + 9)), (3, .ref (z + 56)), (4, .int x4), (5, .int x5), (6, .int x6)] [] := by
  intro n
  induction n with
  | zero => intro x1 x4 x5 x6 D h; exact no_some h
  | succ n ih => intro x1 x4 x5 x6 D h; exact w_X8_goOn_h_33_b O hr hlk hk23 (fun x1 x4 x5 x6 D h => ih x1 x4 x5 x6 D h) x1 x4 x5 x6 D h
set_option maxHeartbeats 4000000 in
theorem w_X8_goOn_h_23_b {G : va_G} {tA : Nat → ClassId} {z : Nat} {E : Ex} {p : Program} {l : Launch} {e : Env} {s : State} {m : MethodId} {args : Array Value} {below : List Frame} {meth : Method} {c : Code} {r : Int32} {D' : Dm} (O : Ok G tA z E cX8_goOn RX8 7 p s m args c) (hr : meth.sig.returnType = some .boolean) (hlk : meth.locks = false) {k23 : Int32 → Int32 → Int32 → Dm → Option (Int32 × Dm)} (hk23 : ∀ (x1 : Int32) (x4 : Int32) (x5 : Int32) (D : Dm), k23 x1 x4 x5 D = some (r, D') → BI G tA z E p l e (rmC 3 0 0) s m args below meth c LAY D r D' 7 23 [(0, .ref (z + 25)), (1, .int x1), (2, .ref (z + 9)), (3, .ref (z + 56)), (4, .int x4), (5, .int x5)] []) (x1 : Int32) (x4 : Int32) (x5 : Int32) (D : Dm) (h : f_X8_goOn_h_23_b k23 x1 x4 x5 D = some (r, D')) : BI G tA z E p l e (rmC 3 0 0) s m args below meth c LAY D r D' 7 23 [(0, .ref (z + 25)), (1, .int x1), (2, .ref (z + 9)), (3, .ref (z + 56)), (4, .int x4), (5, .int x5)] [] := by
  obtain ⟨hx, hb, -, hown, hts, -⟩ := id O
  unfold f_X8_goOn_h_23_b at h
  intro H locs ls hH hl
  refine lv_iload hx hb dX8_goOn_23 (lv_at hl 5 rfl) ?_
  refine lv_iload hx hb dX8_goOn_25 (lv_at hl 4 rfl) ?_
  refine lv_icmp_ge (tgt := 148) hx hb dX8_goOn_27 (by decide) (fun c1 => ?_) (fun c1 => ?_)
  · have h := it_pos h c1
    refine lv_iconst (v := 0) hx hb dX8_goOn_148 (by decide) ?_
    obtain ⟨rfl, rfl⟩ := ret_i h
    exact h_zret O hr hlk zb_0 hH dX8_goOn_149
  · have h := it_neg h c1
    refine lv_iconst (v := 0) hx hb dX8_goOn_30 (by decide) ?_
    refine lv_istore (lv' := [(6, .int 0), (0, .ref (z + 25)), (1, .int x1), (2, .ref (z + 9)), (3, .ref (z + 56)), (4, .int x4), (5, .int x5)]) hx hb dX8_goOn_31 hl (by decide) rfl (fun ls hl => ?_)
    exact w_X8_goOn_h_33 O hr hlk hk23 FU _ _ _ _ _ h _ _ _ hH (lv_sub hl [1, 2, 3, 4, 5, 6, 0] rfl)
set_option maxHeartbeats 4000000 in
theorem w_X8_goOn_h_23 {G : va_G} {tA : Nat → ClassId} {z : Nat} {E : Ex} {p : Program} {l : Launch} {e : Env} {s : State} {m : MethodId} {args : Array Value} {below : List Frame} {meth : Method} {c : Code} {r : Int32} {D' : Dm} (O : Ok G tA z E cX8_goOn RX8 7 p s m args c) (hr : meth.sig.returnType = some .boolean) (hlk : meth.locks = false) : ∀ (n : Nat) (x1 : Int32) (x4 : Int32) (x5 : Int32) (D : Dm) (h : f_X8_goOn_h_23 n x1 x4 x5 D = some (r, D')), BI G tA z E p l e (rmC 3 0 0) s m args below meth c LAY D r D' 7 23 [(0, .ref (z + 25)), (1, .int x1), (2, .ref (z + 9)), (3, .ref (z + 56)), (4, .int x4), (5, .int x5)] [] := by
  intro n
  induction n with
  | zero => intro x1 x4 x5 D h; exact no_some h
  | succ n ih => intro x1 x4 x5 D h; exact w_X8_goOn_h_23_b O hr hlk (fun x1 x4 x5 D h => ih x1 x4 x5 D h) x1 x4 x5 D h
set_option maxHeartbeats 4000000 in
theorem w_X8_goOn_h {G : va_G} {tA : Nat → ClassId} {z : Nat} {E : Ex} {p : Program} {l : Launch} {e : Env} {s : State} {m : MethodId} {args : Array Value} {below : List Frame} {meth : Method} {c : Code} {r : Int32} {D' : Dm} (O : Ok G tA z E cX8_goOn RX8 7 p s m args c) (hr : meth.sig.returnType = some .boolean) (hlk : meth.locks = false) (x1 : Int32) (x4 : Int32) (D : Dm) (h : f_X8_goOn_h x1 x4 D = some (r, D')) : BI G tA z E p l e (rmC 3 0 0) s m args below meth c LAY D r D' 7 0 [(0, .ref (z + 25)), (1, .int x1), (2, .ref (z + 9)), (3, .ref (z + 56)), (4, .int x4)] [] := by
  obtain ⟨hx, hb, -, hown, hts, -⟩ := id O
  unfold f_X8_goOn_h at h
  intro H locs ls hH hl
  refine lv_aload_n hx hb dX8_goOn_0 rfl (lv_at hl 0 rfl) ?_
  refine lv_aload_n hx hb dX8_goOn_1 rfl (lv_at hl 0 rfl) ?_
  refine h_getr O hH ly_25 rfl fl_X8_15 dX8_goOn_2 ?_
  refine lv_iload_n hx hb dX8_goOn_5 rfl (lv_at hl 1 rfl) ?_
  obtain ⟨g1, h⟩ := gd_some h
  refine h_iald O hH ly_27 g1 dX8_goOn_6 ?_
  obtain ⟨D2, hc3, h⟩ := bV_some h
  refine h_callVv (As := [.int (D 27 (Int32.toNatClampNeg x1))]) (rest := []) O hH (c_X8_unpack hc3) ml_X8_91 ly_25 rfl rfl hl.1 rfl ⟨Nat.le_of_ble_eq_true rfl, Nat.le_of_ble_eq_true rfl⟩ (Nat.le_of_ble_eq_true rfl) dX8_goOn_7 (fun H locs hH => ?_)
  refine lv_aload_n hx hb dX8_goOn_10 rfl (lv_at hl 0 rfl) ?_
  refine lv_aload_n hx hb dX8_goOn_11 rfl (lv_at hl 0 rfl) ?_
  refine h_getr O hH ly_25 rfl fl_X8_24 dX8_goOn_12 ?_
  refine lv_iload_n hx hb dX8_goOn_15 rfl (lv_at hl 1 rfl) ?_
  obtain ⟨g4, h⟩ := gd_some h
  refine h_iald O hH ly_30 g4 dX8_goOn_16 ?_
  obtain ⟨D5, hc6, h⟩ := bV_some h
  refine h_callVv (As := [.int (D2 30 (Int32.toNatClampNeg x1))]) (rest := []) O hH (c_X8_gatherNames hc6) ml_X8_95 ly_25 rfl rfl hl.1 rfl ⟨Nat.le_of_ble_eq_true rfl, Nat.le_of_ble_eq_true rfl⟩ (Nat.le_of_ble_eq_true rfl) dX8_goOn_17 (fun H locs hH => ?_)
  refine lv_iconst (v := 0) hx hb dX8_goOn_20 (by decide) ?_
  refine lv_istore (lv' := [(5, .int 0), (0, .ref (z + 25)), (1, .int x1), (2, .ref (z + 9)), (3, .ref (z + 56)), (4, .int x4)]) hx hb dX8_goOn_21 hl (by decide) rfl (fun ls hl => ?_)
  exact w_X8_goOn_h_23 O hr hlk FU _ _ _ _ h _ _ _ hH (lv_sub hl [1, 2, 3, 4, 5, 0] rfl)
set_option maxHeartbeats 4000000 in
theorem c_X8_goOn_h {l : Launch} {G : va_G} {tA : Nat → ClassId} {z : Nat} {E : Ex} {x1 : Int32} {x4 : Int32} {D D' : Dm} {r : Int32} (h : f_X8_goOn_h x1 x4 D = some (r, D')) : CtI l yX8_goOn cX8_goOn 7 (some .boolean) G tA z E 3 0 0 [.ref (z + 25), .int x1, .ref (z + 9), .ref (z + 56), .int x4] LAY D r LAY D' :=
  ct_BI (by decide +kernel) (Nat.le_of_ble_eq_true rfl) (fun _ _ _ _ _ _ _ _ O hr hlk => w_X8_goOn_h O hr hlk _ _ _ h)
set_option maxHeartbeats 4000000 in
theorem w_X8_spell_57_b {G : va_G} {tA : Nat → ClassId} {z : Nat} {E : Ex} {p : Program} {l : Launch} {e : Env} {s : State} {m : MethodId} {args : Array Value} {below : List Frame} {meth : Method} {c : Code} {D' : Dm} (O : Ok G tA z E cX8_spell RX8 6 p s m args c) (hr : meth.sig.returnType = none) (hlk : meth.locks = false) {k57 : Nat → Int32 → Int32 → Dm → Option Dm} (hk57 : ∀ (r2 : Nat) (x3 : Int32) (x5 : Int32) (h2 : isC10 r2) (D : Dm), k57 r2 x3 x5 D = some D' → BV G tA z E p l e (rmC 3 0 0) s m args below meth c LAY D D' 6 57 [(0, .ref (z + 25)), (2, .ref (z + r2)), (3, .int x3), (5, .int x5)] []) (r2 : Nat) (x3 : Int32) (x5 : Int32) (h2 : isC10 r2) (D : Dm) (h : f_X8_spell_57_b k57 r2 x3 x5 D = some D') : BV G tA z E p l e (rmC 3 0 0) s m args below meth c LAY D D' 6 57 [(0, .ref (z + 25)), (2, .ref (z + r2)), (3, .int x3), (5, .int x5)] [] := by
  obtain ⟨hx, hb, -, hown, hts, -⟩ := id O
  unfold f_X8_spell_57_b at h
  intro H locs ls hH hl
  refine lv_iload hx hb dX8_spell_57 (lv_at hl 3 rfl) ?_
  refine lv_iload_n hx hb dX8_spell_59 rfl (lv_at hl 2 rfl) ?_
  refine lv_icmp_ge (tgt := 95) hx hb dX8_spell_60 (by decide) (fun c1 => ?_) (fun c1 => ?_)
  · have h := it_pos h c1
    obtain rfl := ret_v h
    exact h_vret O hr hlk hH dX8_spell_95
  · have h := it_neg h c1
    refine lv_aload_n hx hb dX8_spell_63 rfl (lv_at hl 1 rfl) ?_
    refine lv_aload_n hx hb dX8_spell_64 rfl (lv_at hl 0 rfl) ?_
    refine h_getr O hH ly_25 rfl fl_X8_52 dX8_spell_65 ?_
    refine lv_iload hx hb dX8_spell_68 (lv_at hl 3 rfl) ?_
    obtain ⟨g2, h⟩ := gd_some h
    refine h_iald O hH ly_42 g2 dX8_spell_70 ?_
    refine lv_sipush (v := 1000) hx hb dX8_spell_71 (by decide) ?_
    refine lv_idiv hx hb dX8_spell_74 (by decide) ?_
    refine lv_aload_n hx hb dX8_spell_75 rfl (lv_at hl 0 rfl) ?_
    refine h_getr O hH ly_25 rfl fl_X8_52 dX8_spell_76 ?_
    refine lv_iload hx hb dX8_spell_79 (lv_at hl 3 rfl) ?_
    obtain ⟨g3, h⟩ := gd_some h
    refine h_iald O hH ly_42 g3 dX8_spell_81 ?_
    refine lv_sipush (v := 1000) hx hb dX8_spell_82 (by decide) ?_
    refine lv_irem hx hb dX8_spell_85 (by decide) ?_
    obtain ⟨D4, hc5, h⟩ := bV_some h
    refine h_callVv (As := [.int ((D 42 (Int32.toNatClampNeg x5)) / 1000), .int ((D 42 (Int32.toNatClampNeg x5)) - (D 42 (Int32.toNatClampNeg x5)) / 1000 * 1000)]) (rest := []) O hH (c_X10_add h2 hc5) ml_X8_129 h2.1 rfl rfl hl.1 rfl ⟨Nat.le_of_ble_eq_true rfl, Nat.le_of_ble_eq_true rfl⟩ (Nat.le_of_ble_eq_true rfl) dX8_spell_86 (fun H locs hH => ?_)
    obtain ⟨y6, e7, h⟩ := lt_some h
    refine lv_iinc (v := y6) (lv' := [(5, .int y6), (0, .ref (z + 25)), (2, .ref (z + r2)), (3, .int x3)]) hx hb dX8_spell_89 hl (k := 3) rfl (by rw [e7]; rfl) (by decide) rfl (fun ls hl => ?_)
    refine lv_goto (tgt := 57) hx hb dX8_spell_92 (by decide) ?_
    exact hk57 _ _ _ h2 _ h _ _ _ hH (lv_sub hl [1, 2, 3, 0] rfl)
set_option maxHeartbeats 4000000 in
theorem w_X8_spell_57 {G : va_G} {tA : Nat → ClassId} {z : Nat} {E : Ex} {p : Program} {l : Launch} {e : Env} {s : State} {m : MethodId} {args : Array Value} {below : List Frame} {meth : Method} {c : Code} {D' : Dm} (O : Ok G tA z E cX8_spell RX8 6 p s m args c) (hr : meth.sig.returnType = none) (hlk : meth.locks = false) : ∀ (n : Nat) (r2 : Nat) (x3 : Int32) (x5 : Int32) (h2 : isC10 r2) (D : Dm) (h : f_X8_spell_57 n r2 x3 x5 D = some D'), BV G tA z E p l e (rmC 3 0 0) s m args below meth c LAY D D' 6 57 [(0, .ref (z + 25)), (2, .ref (z + r2)), (3, .int x3), (5, .int x5)] [] := by
  intro n
  induction n with
  | zero => intro r2 x3 x5 h2 D h; exact no_some h
  | succ n ih => intro r2 x3 x5 h2 D h; exact w_X8_spell_57_b O hr hlk (fun r2 x3 x5 h2 D h => ih r2 x3 x5 h2 D h) r2 x3 x5 h2 D h
set_option maxHeartbeats 4000000 in
theorem w_X8_spell_54 {G : va_G} {tA : Nat → ClassId} {z : Nat} {E : Ex} {p : Program} {l : Launch} {e : Env} {s : State} {m : MethodId} {args : Array Value} {below : List Frame} {meth : Method} {c : Code} {D' : Dm} (O : Ok G tA z E cX8_spell RX8 6 p s m args c) (hr : meth.sig.returnType = none) (hlk : meth.locks = false) (r2 : Nat) (x3 : Int32) (h2 : isC10 r2) (D : Dm) (h : f_X8_spell_54 r2 x3 D = some D') : BV G tA z E p l e (rmC 3 0 0) s m args below meth c LAY D D' 6 54 [(0, .ref (z + 25)), (2, .ref (z + r2)), (3, .int x3)] [] := by
  obtain ⟨hx, hb, -, hown, hts, -⟩ := id O
  unfold f_X8_spell_54 at h
  intro H locs ls hH hl
  refine lv_iconst (v := 0) hx hb dX8_spell_54 (by decide) ?_
  refine lv_istore (lv' := [(5, .int 0), (0, .ref (z + 25)), (2, .ref (z + r2)), (3, .int x3)]) hx hb dX8_spell_55 hl (by decide) rfl (fun ls hl => ?_)
  exact w_X8_spell_57 O hr hlk FU _ _ _ h2 _ h _ _ _ hH (lv_sub hl [1, 2, 3, 0] rfl)
set_option maxHeartbeats 4000000 in
theorem w_X8_spell_15_b {G : va_G} {tA : Nat → ClassId} {z : Nat} {E : Ex} {p : Program} {l : Launch} {e : Env} {s : State} {m : MethodId} {args : Array Value} {below : List Frame} {meth : Method} {c : Code} {D' : Dm} (O : Ok G tA z E cX8_spell RX8 6 p s m args c) (hr : meth.sig.returnType = none) (hlk : meth.locks = false) {k15 : Nat → Int32 → Int32 → Int32 → Dm → Option Dm} (hk15 : ∀ (r2 : Nat) (x3 : Int32) (x4 : Int32) (x5 : Int32) (h2 : isC10 r2) (D : Dm), k15 r2 x3 x4 x5 D = some D' → BV G tA z E p l e (rmC 3 0 0) s m args below meth c LAY D D' 6 15 [(0, .ref (z + 25)), (2, .ref (z + r2)), (3, .int x3), (4, .int x4), (5, .int x5)] []) (r2 : Nat) (x3 : Int32) (x4 : Int32) (x5 : Int32) (h2 : isC10 r2) (D : Dm) (h : f_X8_spell_15_b k15 r2 x3 x4 x5 D = some D') : BV G tA z E p l e (rmC 3 0 0) s m args below meth c LAY D D' 6 15 [(0, .ref (z + 25)), (2, .ref (z + r2)), (3, .int x3), (4, .int x4), (5, .int x5)] [] := by
  obtain ⟨hx, hb, -, hown, hts, -⟩ := id O
  unfold f_X8_spell_15_b at h
  intro H locs ls hH hl
  refine lv_iload hx hb dX8_spell_15 (lv_at hl 4 rfl) ?_
  refine lv_if_lt (tgt := 54) hx hb dX8_spell_17 (by decide) (fun c1 => ?_) (fun c1 => ?_)
  · have h := it_pos h c1
    exact w_X8_spell_54 O hr hlk _ _ h2 _ h _ _ _ hH (lv_sub hl [0, 1, 2] rfl)
  · have h := it_neg h c1
    refine lv_iload hx hb dX8_spell_20 (lv_at hl 3 rfl) ?_
    refine lv_if_le (tgt := 54) hx hb dX8_spell_22 (by decide) (fun c2 => ?_) (fun c2 => ?_)
    · have h := it_pos h c2
      exact w_X8_spell_54 O hr hlk _ _ h2 _ h _ _ _ hH (lv_sub hl [0, 1, 2] rfl)
    · have h := it_neg h c2
      refine lv_aload_n hx hb dX8_spell_25 rfl (lv_at hl 0 rfl) ?_
      refine h_getr O hH ly_25 rfl fl_X8_52 dX8_spell_26 ?_
      refine lv_iload hx hb dX8_spell_29 (lv_at hl 4 rfl) ?_
      refine lv_aload_n hx hb dX8_spell_31 rfl (lv_at hl 0 rfl) ?_
      refine h_getr O hH ly_25 rfl fl_X8_21 dX8_spell_32 ?_
      refine lv_iload hx hb dX8_spell_35 (lv_at hl 3 rfl) ?_
      obtain ⟨g3, h⟩ := gd_some h
      refine h_iald O hH ly_29 g3 dX8_spell_37 ?_
      obtain ⟨g4, h⟩ := gd_some h
      obtain ⟨D5, e6, h⟩ := lt_some h
      refine h_iast O hH ly_42 g4 e6 dX8_spell_38 (fun H locs hH => ?_)
      refine lv_aload_n hx hb dX8_spell_39 rfl (lv_at hl 0 rfl) ?_
      refine h_getr O hH ly_25 rfl fl_X8_18 dX8_spell_40 ?_
      refine lv_iload hx hb dX8_spell_43 (lv_at hl 3 rfl) ?_
      obtain ⟨g7, h⟩ := gd_some h
      refine h_iald O hH ly_28 g7 dX8_spell_45 ?_
      refine lv_topi (fun y8 e9 => ?_)
      have h := lt_at e9 h
      refine lv_istore (lv' := [(4, .int y8), (0, .ref (z + 25)), (2, .ref (z + r2)), (3, .int x3), (5, .int x5)]) hx hb dX8_spell_46 hl (by decide) rfl (fun ls hl => ?_)
      obtain ⟨y10, e11, h⟩ := lt_some h
      refine lv_iinc (v := y10) (lv' := [(5, .int y10), (4, .int y8), (0, .ref (z + 25)), (2, .ref (z + r2)), (3, .int x3)]) hx hb dX8_spell_48 hl (k := 4) rfl (by rw [e11]; rfl) (by decide) rfl (fun ls hl => ?_)
      refine lv_goto (tgt := 15) hx hb dX8_spell_51 (by decide) ?_
      exact hk15 _ _ _ _ h2 _ h _ _ _ hH (lv_sub hl [2, 3, 4, 1, 0] rfl)
set_option maxHeartbeats 4000000 in
theorem w_X8_spell_15 {G : va_G} {tA : Nat → ClassId} {z : Nat} {E : Ex} {p : Program} {l : Launch} {e : Env} {s : State} {m : MethodId} {args : Array Value} {below : List Frame} {meth : Method} {c : Code} {D' : Dm} (O : Ok G tA z E cX8_spell RX8 6 p s m args c) (hr : meth.sig.returnType = none) (hlk : meth.locks = false) : ∀ (n : Nat) (r2 : Nat) (x3 : Int32) (x4 : Int32) (x5 : Int32) (h2 : isC10 r2) (D : Dm) (h : f_X8_spell_15 n r2 x3 x4 x5 D = some D'), BV G tA z E p l e (rmC 3 0 0) s m args below meth c LAY D D' 6 15 [(0, .ref (z + 25)), (2, .ref (z + r2)), (3, .int x3), (4, .int x4), (5, .int x5)] [] := by
  intro n
  induction n with
  | zero => intro r2 x3 x4 x5 h2 D h; exact no_some h
  | succ n ih => intro r2 x3 x4 x5 h2 D h; exact w_X8_spell_15_b O hr hlk (fun r2 x3 x4 x5 h2 D h => ih r2 x3 x4 x5 h2 D h) r2 x3 x4 x5 h2 D h
set_option maxHeartbeats 4000000 in
theorem w_X8_spell {G : va_G} {tA : Nat → ClassId} {z : Nat} {E : Ex} {p : Program} {l : Launch} {e : Env} {s : State} {m : MethodId} {args : Array Value} {below : List Frame} {meth : Method} {c : Code} {D' : Dm} (O : Ok G tA z E cX8_spell RX8 6 p s m args c) (hr : meth.sig.returnType = none) (hlk : meth.locks = false) (x1 : Int32) (r2 : Nat) (h2 : isC10 r2) (D : Dm) (h : f_X8_spell x1 r2 D = some D') : BV G tA z E p l e (rmC 3 0 0) s m args below meth c LAY D D' 6 0 [(0, .ref (z + 25)), (1, .int x1), (2, .ref (z + r2))] [] := by
  obtain ⟨hx, hb, -, hown, hts, -⟩ := id O
  unfold f_X8_spell at h
  intro H locs ls hH hl
  refine lv_aload_n hx hb dX8_spell_0 rfl (lv_at hl 0 rfl) ?_
  refine h_getr O hH ly_25 rfl fl_X8_27 dX8_spell_1 ?_
  refine lv_iload_n hx hb dX8_spell_4 rfl (lv_at hl 1 rfl) ?_
  obtain ⟨g1, h⟩ := gd_some h
  refine h_iald O hH ly_31 g1 dX8_spell_5 ?_
  refine lv_topi (fun y2 e3 => ?_)
  have h := lt_at e3 h
  refine lv_istore_n (lv' := [(3, .int y2), (0, .ref (z + 25)), (1, .int x1), (2, .ref (z + r2))]) hx hb dX8_spell_6 rfl hl (by decide) rfl (fun ls hl => ?_)
  refine lv_iload_n hx hb dX8_spell_7 rfl (lv_at hl 2 rfl) ?_
  refine lv_istore (lv' := [(4, .int x1), (3, .int y2), (0, .ref (z + 25)), (1, .int x1), (2, .ref (z + r2))]) hx hb dX8_spell_8 hl (by decide) rfl (fun ls hl => ?_)
  refine lv_iload_n hx hb dX8_spell_10 rfl (lv_at hl 1 rfl) ?_
  refine lv_iconst (v := 1) hx hb dX8_spell_11 (by decide) ?_
  refine lv_isub hx hb dX8_spell_12 ?_
  refine lv_topi (fun y4 e5 => ?_)
  have h := lt_at e5 h
  refine lv_istore (lv' := [(5, .int y4), (4, .int x1), (3, .int y2), (0, .ref (z + 25)), (1, .int x1), (2, .ref (z + r2))]) hx hb dX8_spell_13 hl (by decide) rfl (fun ls hl => ?_)
  exact w_X8_spell_15 O hr hlk FU _ _ _ _ h2 _ h _ _ _ hH (lv_sub hl [3, 5, 2, 1, 0] rfl)
set_option maxHeartbeats 4000000 in
theorem c_X8_spell {l : Launch} {G : va_G} {tA : Nat → ClassId} {z : Nat} {E : Ex} {x1 : Int32} {r2 : Nat} (h2 : isC10 r2) {D D' : Dm} (h : f_X8_spell x1 r2 D = some D') : CtV l yX8_spell cX8_spell 6 G tA z E 3 0 0 [.ref (z + 25), .int x1, .ref (z + r2)] LAY D LAY D' :=
  ct_BV (by decide +kernel) (Nat.le_of_ble_eq_true rfl) (fun _ _ _ _ _ _ _ _ O hr hlk => w_X8_spell O hr hlk _ _ h2 _ h)
set_option maxHeartbeats 4000000 in
theorem w_X8_find_m_119 {G : va_G} {tA : Nat → ClassId} {z : Nat} {E : Ex} {p : Program} {l : Launch} {e : Env} {s : State} {m : MethodId} {args : Array Value} {below : List Frame} {meth : Method} {c : Code} {r : Int32} {D' : Dm} (O : Ok G tA z E cX8_find RX8 6 p s m args c) (hr : meth.sig.returnType = some .boolean) (hlk : meth.locks = false) {k64 : Int32 → Nat → Int32 → Dm → Option (Int32 × Dm)} (hk64 : ∀ (x3 : Int32) (r4 : Nat) (x5 : Int32) (h4 : isC10 r4) (D : Dm), k64 x3 r4 x5 D = some (r, D') → BI G tA z E p l e (rmC 4 0 0) s m args below meth c LAY D r D' 6 64 [(0, .ref (z + 25)), (1, .ref (z + 9)), (2, .ref (z + 13)), (3, .int x3), (4, .ref (z + r4)), (5, .int x5)] []) (x3 : Int32) (r4 : Nat) (x5 : Int32) (h4 : isC10 r4) (D : Dm) (h : f_X8_find_m_119 k64 x3 r4 x5 D = some (r, D')) : BI G tA z E p l e (rmC 4 0 0) s m args below meth c LAY D r D' 6 119 [(0, .ref (z + 25)), (1, .ref (z + 9)), (2, .ref (z + 13)), (3, .int x3), (4, .ref (z + r4)), (5, .int x5)] [] := by
  obtain ⟨hx, hb, -, hown, hts, -⟩ := id O
  unfold f_X8_find_m_119 at h
  intro H locs ls hH hl
  obtain ⟨y1, e2, h⟩ := lt_some h
  refine lv_iinc (v := y1) (lv' := [(5, .int y1), (0, .ref (z + 25)), (1, .ref (z + 9)), (2, .ref (z + 13)), (3, .int x3), (4, .ref (z + r4))]) hx hb dX8_find_119 hl (k := 5) rfl (by rw [e2]; rfl) (by decide) rfl (fun ls hl => ?_)
  refine lv_goto (tgt := 64) hx hb dX8_find_122 (by decide) ?_
  exact hk64 _ _ _ h4 _ h _ _ _ hH (lv_sub hl [1, 2, 3, 4, 5, 0] rfl)
set_option maxHeartbeats 4000000 in
theorem w_X8_find_m_64_b {G : va_G} {tA : Nat → ClassId} {z : Nat} {E : Ex} {p : Program} {l : Launch} {e : Env} {s : State} {m : MethodId} {args : Array Value} {below : List Frame} {meth : Method} {c : Code} {r : Int32} {D' : Dm} (O : Ok G tA z E cX8_find RX8 6 p s m args c) (hr : meth.sig.returnType = some .boolean) (hlk : meth.locks = false) {k64 : Int32 → Nat → Int32 → Dm → Option (Int32 × Dm)} (hk64 : ∀ (x3 : Int32) (r4 : Nat) (x5 : Int32) (h4 : isC10 r4) (D : Dm), k64 x3 r4 x5 D = some (r, D') → BI G tA z E p l e (rmC 4 0 0) s m args below meth c LAY D r D' 6 64 [(0, .ref (z + 25)), (1, .ref (z + 9)), (2, .ref (z + 13)), (3, .int x3), (4, .ref (z + r4)), (5, .int x5)] []) (x3 : Int32) (r4 : Nat) (x5 : Int32) (h4 : isC10 r4) (D : Dm) (h : f_X8_find_m_64_b k64 x3 r4 x5 D = some (r, D')) : BI G tA z E p l e (rmC 4 0 0) s m args below meth c LAY D r D' 6 64 [(0, .ref (z + 25)), (1, .ref (z + 9)), (2, .ref (z + 13)), (3, .int x3), (4, .ref (z + r4)), (5, .int x5)] [] := by
  obtain ⟨hx, hb, -, hown, hts, -⟩ := id O
  unfold f_X8_find_m_64_b at h
  intro H locs ls hH hl
  refine lv_iload hx hb dX8_find_64 (lv_at hl 5 rfl) ?_
  refine lv_aload_n hx hb dX8_find_66 rfl (lv_at hl 0 rfl) ?_
  refine h_geti O hH ly_25 rfl fl_X8_66 dX8_find_67 ?_
  refine lv_icmp_ge (tgt := 125) hx hb dX8_find_70 (by decide) (fun c1 => ?_) (fun c1 => ?_)
  · have h := it_pos h c1
    refine lv_iconst (v := 0) hx hb dX8_find_125 (by decide) ?_
    obtain ⟨rfl, rfl⟩ := ret_i h
    exact h_zret O hr hlk zb_0 hH dX8_find_126
  · have h := it_neg h c1
    refine lv_iload hx hb dX8_find_73 (lv_at hl 5 rfl) ?_
    refine lv_sipush (v := 1351) hx hb dX8_find_75 (by decide) ?_
    refine lv_icmp_ge (tgt := 125) hx hb dX8_find_78 (by decide) (fun c2 => ?_) (fun c2 => ?_)
    · have h := it_pos h c2
      refine lv_iconst (v := 0) hx hb dX8_find_125 (by decide) ?_
      obtain ⟨rfl, rfl⟩ := ret_i h
      exact h_zret O hr hlk zb_0 hH dX8_find_126
    · have h := it_neg h c2
      refine lv_aload_n hx hb dX8_find_81 rfl (lv_at hl 0 rfl) ?_
      refine h_getr O hH ly_25 rfl fl_X8_27 dX8_find_82 ?_
      refine lv_iload hx hb dX8_find_85 (lv_at hl 5 rfl) ?_
      obtain ⟨g3, h⟩ := gd_some h
      refine h_iald O hH ly_31 g3 dX8_find_87 ?_
      refine lv_bipush (v := 20) hx hb dX8_find_88 (by decide) ?_
      refine lv_icmp_ge (tgt := 119) hx hb dX8_find_90 (by decide) (fun c4 => ?_) (fun c4 => ?_)
      · have h := it_pos h c4
        exact w_X8_find_m_119 O hr hlk hk64 _ _ _ h4 _ h _ _ _ hH (lv_sub hl [0, 1, 2, 3, 4, 5] rfl)
      · have h := it_neg h c4
        refine lv_aload_n hx hb dX8_find_93 rfl (lv_at hl 0 rfl) ?_
        refine lv_iload hx hb dX8_find_94 (lv_at hl 5 rfl) ?_
        refine lv_aload_n hx hb dX8_find_96 rfl (lv_at hl 1 rfl) ?_
        refine lv_aload_n hx hb dX8_find_97 rfl (lv_at hl 2 rfl) ?_
        refine lv_iload_n hx hb dX8_find_98 rfl (lv_at hl 3 rfl) ?_
        obtain ⟨y7, D5, hc6, h⟩ := bI_some h
        refine h_callVi (As := [.int x5, .ref (z + 9), .ref (z + 13), .int x3]) (rest := []) O hH (c_X8_goOn_m hc6) ml_X8_83 ly_25 rfl rfl hl.1 rfl ⟨Nat.le_of_ble_eq_true rfl, Nat.le_of_ble_eq_true rfl⟩ (Nat.le_of_ble_eq_true rfl) dX8_find_99 (fun H locs hH => ?_)
        refine lv_if_eq (tgt := 119) hx hb dX8_find_102 (by decide) (fun c8 => ?_) (fun c8 => ?_)
        · have h := it_pos h c8
          exact w_X8_find_m_119 O hr hlk hk64 _ _ _ h4 _ h _ _ _ hH (lv_sub hl [0, 1, 2, 3, 4, 5] rfl)
        · have h := it_neg h c8
          refine lv_aload_n hx hb dX8_find_105 rfl (lv_at hl 0 rfl) ?_
          refine lv_aload_n hx hb dX8_find_106 rfl (lv_at hl 0 rfl) ?_
          refine h_geti O hH ly_25 rfl fl_X8_66 dX8_find_107 ?_
          refine lv_iconst (v := 1) hx hb dX8_find_110 (by decide) ?_
          refine lv_isub hx hb dX8_find_111 ?_
          refine lv_aload hx hb dX8_find_112 (lv_at hl 4 rfl) ?_
          obtain ⟨D9, hc10, h⟩ := bV_some h
          refine h_callVv (As := [.int ((D5 25 14) - 1), .ref (z + r4)]) (rest := []) O hH (c_X8_spell h4 hc10) ml_X8_87 ly_25 rfl rfl hl.1 rfl ⟨Nat.le_of_ble_eq_true rfl, Nat.le_of_ble_eq_true rfl⟩ (Nat.le_of_ble_eq_true rfl) dX8_find_114 (fun H locs hH => ?_)
          refine lv_iconst (v := 1) hx hb dX8_find_117 (by decide) ?_
          obtain ⟨rfl, rfl⟩ := ret_i h
          exact h_zret O hr hlk zb_1 hH dX8_find_118
set_option maxHeartbeats 4000000 in
theorem w_X8_find_m_64 {G : va_G} {tA : Nat → ClassId} {z : Nat} {E : Ex} {p : Program} {l : Launch} {e : Env} {s : State} {m : MethodId} {args : Array Value} {below : List Frame} {meth : Method} {c : Code} {r : Int32} {D' : Dm} (O : Ok G tA z E cX8_find RX8 6 p s m args c) (hr : meth.sig.returnType = some .boolean) (hlk : meth.locks = false) : ∀ (n : Nat) (x3 : Int32) (r4 : Nat) (x5 : Int32) (h4 : isC10 r4) (D : Dm) (h : f_X8_find_m_64 n x3 r4 x5 D = some (r, D')), BI G tA z E p l e (rmC 4 0 0) s m args below meth c LAY D r D' 6 64 [(0, .ref (z + 25)), (1, .ref (z + 9)), (2, .ref (z + 13)), (3, .int x3), (4, .ref (z + r4)), (5, .int x5)] [] := by
  intro n
  induction n with
  | zero => intro x3 r4 x5 h4 D h; exact no_some h
  | succ n ih => intro x3 r4 x5 h4 D h; exact w_X8_find_m_64_b O hr hlk (fun x3 r4 x5 h4 D h => ih x3 r4 x5 h4 D h) x3 r4 x5 h4 D h
set_option maxHeartbeats 4000000 in
theorem w_X8_find_m {G : va_G} {tA : Nat → ClassId} {z : Nat} {E : Ex} {p : Program} {l : Launch} {e : Env} {s : State} {m : MethodId} {args : Array Value} {below : List Frame} {meth : Method} {c : Code} {r : Int32} {D' : Dm} (O : Ok G tA z E cX8_find RX8 6 p s m args c) (hr : meth.sig.returnType = some .boolean) (hlk : meth.locks = false) (x3 : Int32) (r4 : Nat) (h4 : isC10 r4) (D : Dm) (h : f_X8_find_m x3 r4 D = some (r, D')) : BI G tA z E p l e (rmC 4 0 0) s m args below meth c LAY D r D' 6 0 [(0, .ref (z + 25)), (1, .ref (z + 9)), (2, .ref (z + 13)), (3, .int x3), (4, .ref (z + r4))] [] := by
  obtain ⟨hx, hb, -, hown, hts, -⟩ := id O
  unfold f_X8_find_m at h
  intro H locs ls hH hl
  refine lv_aload hx hb dX8_find_0 (lv_at hl 4 rfl) ?_
  obtain ⟨D1, hc2, h⟩ := bV_some h
  refine h_callVv (As := []) (rest := []) O hH (c_X10_clear h4 hc2) ml_X8_55 h4.1 rfl rfl hl.1 rfl ⟨Nat.le_of_ble_eq_true rfl, Nat.le_of_ble_eq_true rfl⟩ (Nat.le_of_ble_eq_true rfl) dX8_find_2 (fun H locs hH => ?_)
  refine lv_aload_n hx hb dX8_find_5 rfl (lv_at hl 0 rfl) ?_
  refine h_getr O hH ly_25 rfl fl_X8_11 dX8_find_6 ?_
  refine lv_iconst (v := 0) hx hb dX8_find_9 (by decide) ?_
  obtain ⟨D3, hc4, h⟩ := bV_some h
  refine h_callSv (As := [.ref (z + 26), .int 0]) (rest := []) O hH (c_J7_fill_53178 ly_26 hc4) ml_X8_60 rfl hl.1 rfl ⟨Nat.le_of_ble_eq_true rfl, Nat.le_of_ble_eq_true rfl⟩ (Nat.le_of_ble_eq_true rfl) dX8_find_10 (fun H locs hH => ?_)
  refine lv_aload_n hx hb dX8_find_13 rfl (lv_at hl 0 rfl) ?_
  refine lv_iconst (v := 0) hx hb dX8_find_14 (by decide) ?_
  obtain ⟨D5, e6, h⟩ := lt_some h
  refine h_puti O hH ly_25 rfl fl_X8_66 e6 dX8_find_15 (fun H locs hH => ?_)
  refine lv_aload_n hx hb dX8_find_18 rfl (lv_at hl 0 rfl) ?_
  refine h_getr O hH ly_25 rfl fl_X8_40 dX8_find_19 ?_
  obtain ⟨D7, hc8, h⟩ := bV_some h
  refine h_callVv (As := []) (rest := []) O hH (c_X1_start ic_36 hc8) ml_X8_70 ly_36 rfl rfl hl.1 rfl ⟨Nat.le_of_ble_eq_true rfl, Nat.le_of_ble_eq_true rfl⟩ (Nat.le_of_ble_eq_true rfl) dX8_find_22 (fun H locs hH => ?_)
  refine lv_aload_n hx hb dX8_find_25 rfl (lv_at hl 0 rfl) ?_
  refine h_getr O hH ly_25 rfl fl_X8_43 dX8_find_26 ?_
  obtain ⟨D9, hc10, h⟩ := bV_some h
  refine h_callVv (As := []) (rest := []) O hH (c_X1_start ic_38 hc10) ml_X8_70 ly_38 rfl rfl hl.1 rfl ⟨Nat.le_of_ble_eq_true rfl, Nat.le_of_ble_eq_true rfl⟩ (Nat.le_of_ble_eq_true rfl) dX8_find_29 (fun H locs hH => ?_)
  refine lv_aload_n hx hb dX8_find_32 rfl (lv_at hl 0 rfl) ?_
  refine lv_iconst (v := (-1)) hx hb dX8_find_33 (by decide) ?_
  refine lv_iconst (v := 0) hx hb dX8_find_34 (by decide) ?_
  refine lv_iconst (v := 0) hx hb dX8_find_35 (by decide) ?_
  obtain ⟨y13, D11, hc12, h⟩ := bI_some h
  refine h_callVi (As := [.int (-1), .int 0, .int 0]) (rest := []) O hH (c_X8_enter hc12) ml_X8_73 ly_25 rfl rfl hl.1 rfl ⟨Nat.le_of_ble_eq_true rfl, Nat.le_of_ble_eq_true rfl⟩ (Nat.le_of_ble_eq_true rfl) dX8_find_36 (fun H locs hH => ?_)
  refine lv_pop hx hb dX8_find_39 rfl ?_
  refine lv_aload_n hx hb dX8_find_40 rfl (lv_at hl 1 rfl) ?_
  refine lv_aload_n hx hb dX8_find_41 rfl (lv_at hl 0 rfl) ?_
  refine h_getr O hH ly_25 rfl fl_X8_40 dX8_find_42 ?_
  obtain ⟨y16, D14, hc15, h⟩ := bI_some h
  refine h_callUi (As := [.ref (z + 36)]) (rest := []) O hH (c_X4_takes ic_9 ic_36 hc15) mu_X8_77_4 ly_9 rfl rfl hl.1 rfl ⟨Nat.le_of_ble_eq_true rfl, Nat.le_of_ble_eq_true rfl⟩ (Nat.le_of_ble_eq_true rfl) dX8_find_45 (fun H locs hH => ?_)
  refine lv_aload_n hx hb dX8_find_48 rfl (lv_at hl 2 rfl) ?_
  refine lv_aload_n hx hb dX8_find_49 rfl (lv_at hl 0 rfl) ?_
  refine h_getr O hH ly_25 rfl fl_X8_43 dX8_find_50 ?_
  obtain ⟨y19, D17, hc18, h⟩ := bI_some h
  refine h_callUi (As := [.ref (z + 38)]) (rest := [.int y16]) O hH (c_X4_takes ic_13 ic_38 hc18) mu_X8_77_4 ly_13 rfl rfl hl.1 rfl ⟨Nat.le_of_ble_eq_true rfl, Nat.le_of_ble_eq_true rfl⟩ (Nat.le_of_ble_eq_true rfl) dX8_find_53 (fun H locs hH => ?_)
  refine lv_icmp_eq (tgt := 61) hx hb dX8_find_56 (by decide) (fun c20 => ?_) (fun c20 => ?_)
  · have h := it_pos h c20
    refine lv_iconst (v := 0) hx hb dX8_find_61 (by decide) ?_
    refine lv_istore (lv' := [(5, .int 0), (0, .ref (z + 25)), (1, .ref (z + 9)), (2, .ref (z + 13)), (3, .int x3), (4, .ref (z + r4))]) hx hb dX8_find_62 hl (by decide) rfl (fun ls hl => ?_)
    exact w_X8_find_m_64 O hr hlk FU _ _ _ h4 _ h _ _ _ hH (lv_sub hl [1, 2, 3, 4, 5, 0] rfl)
  · have h := it_neg h c20
    refine lv_iconst (v := 1) hx hb dX8_find_59 (by decide) ?_
    obtain ⟨rfl, rfl⟩ := ret_i h
    exact h_zret O hr hlk zb_1 hH dX8_find_60
set_option maxHeartbeats 4000000 in
theorem c_X8_find_m {l : Launch} {G : va_G} {tA : Nat → ClassId} {z : Nat} {E : Ex} {x3 : Int32} {r4 : Nat} (h4 : isC10 r4) {D D' : Dm} {r : Int32} (h : f_X8_find_m x3 r4 D = some (r, D')) : CtI l yX8_find cX8_find 6 (some .boolean) G tA z E 4 0 0 [.ref (z + 25), .ref (z + 9), .ref (z + 13), .int x3, .ref (z + r4)] LAY D r LAY D' :=
  ct_BI (by decide +kernel) (Nat.le_of_ble_eq_true rfl) (fun _ _ _ _ _ _ _ _ O hr hlk => w_X8_find_m O hr hlk _ _ h4 _ h)
set_option maxHeartbeats 4000000 in
theorem w_X8_find_h_119 {G : va_G} {tA : Nat → ClassId} {z : Nat} {E : Ex} {p : Program} {l : Launch} {e : Env} {s : State} {m : MethodId} {args : Array Value} {below : List Frame} {meth : Method} {c : Code} {r : Int32} {D' : Dm} (O : Ok G tA z E cX8_find RX8 6 p s m args c) (hr : meth.sig.returnType = some .boolean) (hlk : meth.locks = false) {k64 : Int32 → Nat → Int32 → Dm → Option (Int32 × Dm)} (hk64 : ∀ (x3 : Int32) (r4 : Nat) (x5 : Int32) (h4 : isC10 r4) (D : Dm), k64 x3 r4 x5 D = some (r, D') → BI G tA z E p l e (rmC 4 0 0) s m args below meth c LAY D r D' 6 64 [(0, .ref (z + 25)), (1, .ref (z + 9)), (2, .ref (z + 56)), (3, .int x3), (4, .ref (z + r4)), (5, .int x5)] []) (x3 : Int32) (r4 : Nat) (x5 : Int32) (h4 : isC10 r4) (D : Dm) (h : f_X8_find_h_119 k64 x3 r4 x5 D = some (r, D')) : BI G tA z E p l e (rmC 4 0 0) s m args below meth c LAY D r D' 6 119 [(0, .ref (z + 25)), (1, .ref (z + 9)), (2, .ref (z + 56)), (3, .int x3), (4, .ref (z + r4)), (5, .int x5)] [] := by
  obtain ⟨hx, hb, -, hown, hts, -⟩ := id O
  unfold f_X8_find_h_119 at h
  intro H locs ls hH hl
  obtain ⟨y1, e2, h⟩ := lt_some h
  refine lv_iinc (v := y1) (lv' := [(5, .int y1), (0, .ref (z + 25)), (1, .ref (z + 9)), (2, .ref (z + 56)), (3, .int x3), (4, .ref (z + r4))]) hx hb dX8_find_119 hl (k := 5) rfl (by rw [e2]; rfl) (by decide) rfl (fun ls hl => ?_)
  refine lv_goto (tgt := 64) hx hb dX8_find_122 (by decide) ?_
  exact hk64 _ _ _ h4 _ h _ _ _ hH (lv_sub hl [1, 2, 3, 4, 5, 0] rfl)
set_option maxHeartbeats 4000000 in
theorem w_X8_find_h_64_b {G : va_G} {tA : Nat → ClassId} {z : Nat} {E : Ex} {p : Program} {l : Launch} {e : Env} {s : State} {m : MethodId} {args : Array Value} {below : List Frame} {meth : Method} {c : Code} {r : Int32} {D' : Dm} (O : Ok G tA z E cX8_find RX8 6 p s m args c) (hr : meth.sig.returnType = some .boolean) (hlk : meth.locks = false) {k64 : Int32 → Nat → Int32 → Dm → Option (Int32 × Dm)} (hk64 : ∀ (x3 : Int32) (r4 : Nat) (x5 : Int32) (h4 : isC10 r4) (D : Dm), k64 x3 r4 x5 D = some (r, D') → BI G tA z E p l e (rmC 4 0 0) s m args below meth c LAY D r D' 6 64 [(0, .ref (z + 25)), (1, .ref (z + 9)), (2, .ref (z + 56)), (3, .int x3), (4, .ref (z + r4)), (5, .int x5)] []) (x3 : Int32) (r4 : Nat) (x5 : Int32) (h4 : isC10 r4) (D : Dm) (h : f_X8_find_h_64_b k64 x3 r4 x5 D = some (r, D')) : BI G tA z E p l e (rmC 4 0 0) s m args below meth c LAY D r D' 6 64 [(0, .ref (z + 25)), (1, .ref (z + 9)), (2, .ref (z + 56)), (3, .int x3), (4, .ref (z + r4)), (5, .int x5)] [] := by
  obtain ⟨hx, hb, -, hown, hts, -⟩ := id O
  unfold f_X8_find_h_64_b at h
  intro H locs ls hH hl
  refine lv_iload hx hb dX8_find_64 (lv_at hl 5 rfl) ?_
  refine lv_aload_n hx hb dX8_find_66 rfl (lv_at hl 0 rfl) ?_
  refine h_geti O hH ly_25 rfl fl_X8_66 dX8_find_67 ?_
  refine lv_icmp_ge (tgt := 125) hx hb dX8_find_70 (by decide) (fun c1 => ?_) (fun c1 => ?_)
  · have h := it_pos h c1
    refine lv_iconst (v := 0) hx hb dX8_find_125 (by decide) ?_
    obtain ⟨rfl, rfl⟩ := ret_i h
    exact h_zret O hr hlk zb_0 hH dX8_find_126
  · have h := it_neg h c1
    refine lv_iload hx hb dX8_find_73 (lv_at hl 5 rfl) ?_
    refine lv_sipush (v := 1351) hx hb dX8_find_75 (by decide) ?_
    refine lv_icmp_ge (tgt := 125) hx hb dX8_find_78 (by decide) (fun c2 => ?_) (fun c2 => ?_)
    · have h := it_pos h c2
      refine lv_iconst (v := 0) hx hb dX8_find_125 (by decide) ?_
      obtain ⟨rfl, rfl⟩ := ret_i h
      exact h_zret O hr hlk zb_0 hH dX8_find_126
    · have h := it_neg h c2
      refine lv_aload_n hx hb dX8_find_81 rfl (lv_at hl 0 rfl) ?_
      refine h_getr O hH ly_25 rfl fl_X8_27 dX8_find_82 ?_
      refine lv_iload hx hb dX8_find_85 (lv_at hl 5 rfl) ?_
      obtain ⟨g3, h⟩ := gd_some h
      refine h_iald O hH ly_31 g3 dX8_find_87 ?_
      refine lv_bipush (v := 20) hx hb dX8_find_88 (by decide) ?_
      refine lv_icmp_ge (tgt := 119) hx hb dX8_find_90 (by decide) (fun c4 => ?_) (fun c4 => ?_)
      · have h := it_pos h c4
        exact w_X8_find_h_119 O hr hlk hk64 _ _ _ h4 _ h _ _ _ hH (lv_sub hl [0, 1, 2, 3, 4, 5] rfl)
      · have h := it_neg h c4
        refine lv_aload_n hx hb dX8_find_93 rfl (lv_at hl 0 rfl) ?_
        refine lv_iload hx hb dX8_find_94 (lv_at hl 5 rfl) ?_
        refine lv_aload_n hx hb dX8_find_96 rfl (lv_at hl 1 rfl) ?_
        refine lv_aload_n hx hb dX8_find_97 rfl (lv_at hl 2 rfl) ?_
        refine lv_iload_n hx hb dX8_find_98 rfl (lv_at hl 3 rfl) ?_
        obtain ⟨y7, D5, hc6, h⟩ := bI_some h
        refine h_callVi (As := [.int x5, .ref (z + 9), .ref (z + 56), .int x3]) (rest := []) O hH (c_X8_goOn_h hc6) ml_X8_83 ly_25 rfl rfl hl.1 rfl ⟨Nat.le_of_ble_eq_true rfl, Nat.le_of_ble_eq_true rfl⟩ (Nat.le_of_ble_eq_true rfl) dX8_find_99 (fun H locs hH => ?_)
        refine lv_if_eq (tgt := 119) hx hb dX8_find_102 (by decide) (fun c8 => ?_) (fun c8 => ?_)
        · have h := it_pos h c8
          exact w_X8_find_h_119 O hr hlk hk64 _ _ _ h4 _ h _ _ _ hH (lv_sub hl [0, 1, 2, 3, 4, 5] rfl)
        · have h := it_neg h c8
          refine lv_aload_n hx hb dX8_find_105 rfl (lv_at hl 0 rfl) ?_
          refine lv_aload_n hx hb dX8_find_106 rfl (lv_at hl 0 rfl) ?_
          refine h_geti O hH ly_25 rfl fl_X8_66 dX8_find_107 ?_
          refine lv_iconst (v := 1) hx hb dX8_find_110 (by decide) ?_
          refine lv_isub hx hb dX8_find_111 ?_
          refine lv_aload hx hb dX8_find_112 (lv_at hl 4 rfl) ?_
          obtain ⟨D9, hc10, h⟩ := bV_some h
          refine h_callVv (As := [.int ((D5 25 14) - 1), .ref (z + r4)]) (rest := []) O hH (c_X8_spell h4 hc10) ml_X8_87 ly_25 rfl rfl hl.1 rfl ⟨Nat.le_of_ble_eq_true rfl, Nat.le_of_ble_eq_true rfl⟩ (Nat.le_of_ble_eq_true rfl) dX8_find_114 (fun H locs hH => ?_)
          refine lv_iconst (v := 1) hx hb dX8_find_117 (by decide) ?_
          obtain ⟨rfl, rfl⟩ := ret_i h
          exact h_zret O hr hlk zb_1 hH dX8_find_118
set_option maxHeartbeats 4000000 in
theorem w_X8_find_h_64 {G : va_G} {tA : Nat → ClassId} {z : Nat} {E : Ex} {p : Program} {l : Launch} {e : Env} {s : State} {m : MethodId} {args : Array Value} {below : List Frame} {meth : Method} {c : Code} {r : Int32} {D' : Dm} (O : Ok G tA z E cX8_find RX8 6 p s m args c) (hr : meth.sig.returnType = some .boolean) (hlk : meth.locks = false) : ∀ (n : Nat) (x3 : Int32) (r4 : Nat) (x5 : Int32) (h4 : isC10 r4) (D : Dm) (h : f_X8_find_h_64 n x3 r4 x5 D = some (r, D')), BI G tA z E p l e (rmC 4 0 0) s m args below meth c LAY D r D' 6 64 [(0, .ref (z + 25)), (1, .ref (z + 9)), (2, .ref (z + 56)), (3, .int x3), (4, .ref (z + r4)), (5, .int x5)] [] := by
  intro n
  induction n with
  | zero => intro x3 r4 x5 h4 D h; exact no_some h
  | succ n ih => intro x3 r4 x5 h4 D h; exact w_X8_find_h_64_b O hr hlk (fun x3 r4 x5 h4 D h => ih x3 r4 x5 h4 D h) x3 r4 x5 h4 D h
set_option maxHeartbeats 4000000 in
theorem w_X8_find_h {G : va_G} {tA : Nat → ClassId} {z : Nat} {E : Ex} {p : Program} {l : Launch} {e : Env} {s : State} {m : MethodId} {args : Array Value} {below : List Frame} {meth : Method} {c : Code} {r : Int32} {D' : Dm} (O : Ok G tA z E cX8_find RX8 6 p s m args c) (hr : meth.sig.returnType = some .boolean) (hlk : meth.locks = false) (x3 : Int32) (r4 : Nat) (h4 : isC10 r4) (D : Dm) (h : f_X8_find_h x3 r4 D = some (r, D')) : BI G tA z E p l e (rmC 4 0 0) s m args below meth c LAY D r D' 6 0 [(0, .ref (z + 25)), (1, .ref (z + 9)), (2, .ref (z + 56)), (3, .int x3), (4, .ref (z + r4))] [] := by
  obtain ⟨hx, hb, -, hown, hts, -⟩ := id O
  unfold f_X8_find_h at h
  intro H locs ls hH hl
  refine lv_aload hx hb dX8_find_0 (lv_at hl 4 rfl) ?_
  obtain ⟨D1, hc2, h⟩ := bV_some h
  refine h_callVv (As := []) (rest := []) O hH (c_X10_clear h4 hc2) ml_X8_55 h4.1 rfl rfl hl.1 rfl ⟨Nat.le_of_ble_eq_true rfl, Nat.le_of_ble_eq_true rfl⟩ (Nat.le_of_ble_eq_true rfl) dX8_find_2 (fun H locs hH => ?_)
  refine lv_aload_n hx hb dX8_find_5 rfl (lv_at hl 0 rfl) ?_
  refine h_getr O hH ly_25 rfl fl_X8_11 dX8_find_6 ?_
  refine lv_iconst (v := 0) hx hb dX8_find_9 (by decide) ?_
  obtain ⟨D3, hc4, h⟩ := bV_some h
  refine h_callSv (As := [.ref (z + 26), .int 0]) (rest := []) O hH (c_J7_fill_53178 ly_26 hc4) ml_X8_60 rfl hl.1 rfl ⟨Nat.le_of_ble_eq_true rfl, Nat.le_of_ble_eq_true rfl⟩ (Nat.le_of_ble_eq_true rfl) dX8_find_10 (fun H locs hH => ?_)
  refine lv_aload_n hx hb dX8_find_13 rfl (lv_at hl 0 rfl) ?_
  refine lv_iconst (v := 0) hx hb dX8_find_14 (by decide) ?_
  obtain ⟨D5, e6, h⟩ := lt_some h
  refine h_puti O hH ly_25 rfl fl_X8_66 e6 dX8_find_15 (fun H locs hH => ?_)
  refine lv_aload_n hx hb dX8_find_18 rfl (lv_at hl 0 rfl) ?_
  refine h_getr O hH ly_25 rfl fl_X8_40 dX8_find_19 ?_
  obtain ⟨D7, hc8, h⟩ := bV_some h
  refine h_callVv (As := []) (rest := []) O hH (c_X1_start ic_36 hc8) ml_X8_70 ly_36 rfl rfl hl.1 rfl ⟨Nat.le_of_ble_eq_true rfl, Nat.le_of_ble_eq_true rfl⟩ (Nat.le_of_ble_eq_true rfl) dX8_find_22 (fun H locs hH => ?_)
  refine lv_aload_n hx hb dX8_find_25 rfl (lv_at hl 0 rfl) ?_
  refine h_getr O hH ly_25 rfl fl_X8_43 dX8_find_26 ?_
  obtain ⟨D9, hc10, h⟩ := bV_some h
  refine h_callVv (As := []) (rest := []) O hH (c_X1_start ic_38 hc10) ml_X8_70 ly_38 rfl rfl hl.1 rfl ⟨Nat.le_of_ble_eq_true rfl, Nat.le_of_ble_eq_true rfl⟩ (Nat.le_of_ble_eq_true rfl) dX8_find_29 (fun H locs hH => ?_)
  refine lv_aload_n hx hb dX8_find_32 rfl (lv_at hl 0 rfl) ?_
  refine lv_iconst (v := (-1)) hx hb dX8_find_33 (by decide) ?_
  refine lv_iconst (v := 0) hx hb dX8_find_34 (by decide) ?_
  refine lv_iconst (v := 0) hx hb dX8_find_35 (by decide) ?_
  obtain ⟨y13, D11, hc12, h⟩ := bI_some h
  refine h_callVi (As := [.int (-1), .int 0, .int 0]) (rest := []) O hH (c_X8_enter hc12) ml_X8_73 ly_25 rfl rfl hl.1 rfl ⟨Nat.le_of_ble_eq_true rfl, Nat.le_of_ble_eq_true rfl⟩ (Nat.le_of_ble_eq_true rfl) dX8_find_36 (fun H locs hH => ?_)
  refine lv_pop hx hb dX8_find_39 rfl ?_
  refine lv_aload_n hx hb dX8_find_40 rfl (lv_at hl 1 rfl) ?_
  refine lv_aload_n hx hb dX8_find_41 rfl (lv_at hl 0 rfl) ?_
  refine h_getr O hH ly_25 rfl fl_X8_40 dX8_find_42 ?_
  obtain ⟨y16, D14, hc15, h⟩ := bI_some h
  refine h_callUi (As := [.ref (z + 36)]) (rest := []) O hH (c_X4_takes ic_9 ic_36 hc15) mu_X8_77_4 ly_9 rfl rfl hl.1 rfl ⟨Nat.le_of_ble_eq_true rfl, Nat.le_of_ble_eq_true rfl⟩ (Nat.le_of_ble_eq_true rfl) dX8_find_45 (fun H locs hH => ?_)
  refine lv_aload_n hx hb dX8_find_48 rfl (lv_at hl 2 rfl) ?_
  refine lv_aload_n hx hb dX8_find_49 rfl (lv_at hl 0 rfl) ?_
  refine h_getr O hH ly_25 rfl fl_X8_43 dX8_find_50 ?_
  obtain ⟨y19, D17, hc18, h⟩ := bI_some h
  refine h_callUi (As := [.ref (z + 38)]) (rest := [.int y16]) O hH (c_X2_takes ic_38 hc18) mu_X8_77_2 ly_56 rfl rfl hl.1 rfl ⟨Nat.le_of_ble_eq_true rfl, Nat.le_of_ble_eq_true rfl⟩ (Nat.le_of_ble_eq_true rfl) dX8_find_53 (fun H locs hH => ?_)
  refine lv_icmp_eq (tgt := 61) hx hb dX8_find_56 (by decide) (fun c20 => ?_) (fun c20 => ?_)
  · have h := it_pos h c20
    refine lv_iconst (v := 0) hx hb dX8_find_61 (by decide) ?_
    refine lv_istore (lv' := [(5, .int 0), (0, .ref (z + 25)), (1, .ref (z + 9)), (2, .ref (z + 56)), (3, .int x3), (4, .ref (z + r4))]) hx hb dX8_find_62 hl (by decide) rfl (fun ls hl => ?_)
    exact w_X8_find_h_64 O hr hlk FU _ _ _ h4 _ h _ _ _ hH (lv_sub hl [1, 2, 3, 4, 5, 0] rfl)
  · have h := it_neg h c20
    refine lv_iconst (v := 1) hx hb dX8_find_59 (by decide) ?_
    obtain ⟨rfl, rfl⟩ := ret_i h
    exact h_zret O hr hlk zb_1 hH dX8_find_60
set_option maxHeartbeats 4000000 in
theorem c_X8_find_h {l : Launch} {G : va_G} {tA : Nat → ClassId} {z : Nat} {E : Ex} {x3 : Int32} {r4 : Nat} (h4 : isC10 r4) {D D' : Dm} {r : Int32} (h : f_X8_find_h x3 r4 D = some (r, D')) : CtI l yX8_find cX8_find 6 (some .boolean) G tA z E 4 0 0 [.ref (z + 25), .ref (z + 9), .ref (z + 56), .int x3, .ref (z + r4)] LAY D r LAY D' :=
  ct_BI (by decide +kernel) (Nat.le_of_ble_eq_true rfl) (fun _ _ _ _ _ _ _ _ O hr hlk => w_X8_find_h O hr hlk _ _ h4 _ h)
