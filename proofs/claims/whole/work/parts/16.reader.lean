theorem dX7_hasMore_0 : decode cX7_hasMore 0 = .ok (.aload_n 0, 1) := by decide +kernel
theorem dX7_hasMore_1 : decode cX7_hasMore 1 = .ok (.getfield 34, 3) := by decide +kernel
theorem dX7_hasMore_4 : decode cX7_hasMore 4 = .ok (.ifCond .ne 14, 3) := by decide +kernel
theorem dX7_hasMore_7 : decode cX7_hasMore 7 = .ok (.aload_n 0, 1) := by decide +kernel
theorem dX7_hasMore_8 : decode cX7_hasMore 8 = .ok (.getfield 43, 3) := by decide +kernel
theorem dX7_hasMore_11 : decode cX7_hasMore 11 = .ok (.ifCond .eq 7, 3) := by decide +kernel
theorem dX7_hasMore_14 : decode cX7_hasMore 14 = .ok (.iconst 1, 1) := by decide +kernel
theorem dX7_hasMore_15 : decode cX7_hasMore 15 = .ok (.goto 4, 3) := by decide +kernel
theorem dX7_hasMore_18 : decode cX7_hasMore 18 = .ok (.iconst 0, 1) := by decide +kernel
theorem dX7_hasMore_19 : decode cX7_hasMore 19 = .ok (.ireturn, 1) := by decide +kernel
theorem dX7_next_0 : decode cX7_next 0 = .ok (.aload_n 0, 1) := by decide +kernel
theorem dX7_next_1 : decode cX7_next 1 = .ok (.aload_n 0, 1) := by decide +kernel
theorem dX7_next_2 : decode cX7_next 2 = .ok (.getfield 31, 3) := by decide +kernel
theorem dX7_next_5 : decode cX7_next 5 = .ok (.putfield 40, 3) := by decide +kernel
theorem dX7_next_8 : decode cX7_next 8 = .ok (.aload_n 0, 1) := by decide +kernel
theorem dX7_next_9 : decode cX7_next 9 = .ok (.getfield 40, 3) := by decide +kernel
theorem dX7_next_12 : decode cX7_next 12 = .ok (.aload_n 0, 1) := by decide +kernel
theorem dX7_next_13 : decode cX7_next 13 = .ok (.getfield 28, 3) := by decide +kernel
theorem dX7_next_16 : decode cX7_next 16 = .ok (.if_icmp .ge 30, 3) := by decide +kernel
theorem dX7_next_19 : decode cX7_next 19 = .ok (.aload_n 0, 1) := by decide +kernel
theorem dX7_next_20 : decode cX7_next 20 = .ok (.getfield 9, 3) := by decide +kernel
theorem dX7_next_23 : decode cX7_next 23 = .ok (.aload_n 0, 1) := by decide +kernel
theorem dX7_next_24 : decode cX7_next 24 = .ok (.getfield 40, 3) := by decide +kernel
theorem dX7_next_27 : decode cX7_next 27 = .ok (.iaload, 1) := by decide +kernel
theorem dX7_next_28 : decode cX7_next 28 = .ok (.bipush 32, 2) := by decide +kernel
theorem dX7_next_30 : decode cX7_next 30 = .ok (.if_icmp .ne 16, 3) := by decide +kernel
theorem dX7_next_33 : decode cX7_next 33 = .ok (.aload_n 0, 1) := by decide +kernel
theorem dX7_next_34 : decode cX7_next 34 = .ok (.dup, 1) := by decide +kernel
theorem dX7_next_35 : decode cX7_next 35 = .ok (.getfield 40, 3) := by decide +kernel
theorem dX7_next_38 : decode cX7_next 38 = .ok (.iconst 1, 1) := by decide +kernel
theorem dX7_next_39 : decode cX7_next 39 = .ok (.iadd, 1) := by decide +kernel
theorem dX7_next_40 : decode cX7_next 40 = .ok (.putfield 40, 3) := by decide +kernel
theorem dX7_next_43 : decode cX7_next 43 = .ok (.goto (-35), 3) := by decide +kernel
theorem dX7_next_46 : decode cX7_next 46 = .ok (.aload_n 0, 1) := by decide +kernel
theorem dX7_next_47 : decode cX7_next 47 = .ok (.aload_n 0, 1) := by decide +kernel
theorem dX7_next_48 : decode cX7_next 48 = .ok (.getfield 40, 3) := by decide +kernel
theorem dX7_next_51 : decode cX7_next 51 = .ok (.putfield 31, 3) := by decide +kernel
theorem dX7_next_54 : decode cX7_next 54 = .ok (.aload_n 0, 1) := by decide +kernel
theorem dX7_next_55 : decode cX7_next 55 = .ok (.getfield 40, 3) := by decide +kernel
theorem dX7_next_58 : decode cX7_next 58 = .ok (.aload_n 0, 1) := by decide +kernel
theorem dX7_next_59 : decode cX7_next 59 = .ok (.getfield 28, 3) := by decide +kernel
theorem dX7_next_62 : decode cX7_next 62 = .ok (.if_icmp .lt 9, 3) := by decide +kernel
theorem dX7_next_65 : decode cX7_next 65 = .ok (.aload_n 0, 1) := by decide +kernel
theorem dX7_next_66 : decode cX7_next 66 = .ok (.iconst 0, 1) := by decide +kernel
theorem dX7_next_67 : decode cX7_next 67 = .ok (.putfield 43, 3) := by decide +kernel
theorem dX7_next_70 : decode cX7_next 70 = .ok (.return_, 1) := by decide +kernel
theorem dX7_next_71 : decode cX7_next 71 = .ok (.aload_n 0, 1) := by decide +kernel
theorem dX7_next_72 : decode cX7_next 72 = .ok (.getfield 9, 3) := by decide +kernel
theorem dX7_next_75 : decode cX7_next 75 = .ok (.aload_n 0, 1) := by decide +kernel
theorem dX7_next_76 : decode cX7_next 76 = .ok (.getfield 40, 3) := by decide +kernel
theorem dX7_next_79 : decode cX7_next 79 = .ok (.iaload, 1) := by decide +kernel
theorem dX7_next_80 : decode cX7_next 80 = .ok (.istore_n 1, 1) := by decide +kernel
theorem dX7_next_81 : decode cX7_next 81 = .ok (.aload_n 0, 1) := by decide +kernel
theorem dX7_next_82 : decode cX7_next 82 = .ok (.iconst 3, 1) := by decide +kernel
theorem dX7_next_83 : decode cX7_next 83 = .ok (.putfield 43, 3) := by decide +kernel
theorem dX7_next_86 : decode cX7_next 86 = .ok (.iload_n 1, 1) := by decide +kernel
theorem dX7_next_87 : decode cX7_next 87 = .ok (.bipush 97, 2) := by decide +kernel
theorem dX7_next_89 : decode cX7_next 89 = .ok (.if_icmp .lt 17, 3) := by decide +kernel
theorem dX7_next_92 : decode cX7_next 92 = .ok (.iload_n 1, 1) := by decide +kernel
theorem dX7_next_93 : decode cX7_next 93 = .ok (.bipush 122, 2) := by decide +kernel
theorem dX7_next_95 : decode cX7_next 95 = .ok (.if_icmp .gt 11, 3) := by decide +kernel
theorem dX7_next_98 : decode cX7_next 98 = .ok (.aload_n 0, 1) := by decide +kernel
theorem dX7_next_99 : decode cX7_next 99 = .ok (.iconst 1, 1) := by decide +kernel
theorem dX7_next_100 : decode cX7_next 100 = .ok (.putfield 43, 3) := by decide +kernel
theorem dX7_next_103 : decode cX7_next 103 = .ok (.goto 20, 3) := by decide +kernel
theorem dX7_next_106 : decode cX7_next 106 = .ok (.iload_n 1, 1) := by decide +kernel
theorem dX7_next_107 : decode cX7_next 107 = .ok (.bipush 48, 2) := by decide +kernel
theorem dX7_next_109 : decode cX7_next 109 = .ok (.if_icmp .lt 14, 3) := by decide +kernel
theorem dX7_next_112 : decode cX7_next 112 = .ok (.iload_n 1, 1) := by decide +kernel
theorem dX7_next_113 : decode cX7_next 113 = .ok (.bipush 57, 2) := by decide +kernel
theorem dX7_next_115 : decode cX7_next 115 = .ok (.if_icmp .gt 8, 3) := by decide +kernel
theorem dX7_next_118 : decode cX7_next 118 = .ok (.aload_n 0, 1) := by decide +kernel
theorem dX7_next_119 : decode cX7_next 119 = .ok (.iconst 2, 1) := by decide +kernel
theorem dX7_next_120 : decode cX7_next 120 = .ok (.putfield 43, 3) := by decide +kernel
theorem dX7_next_123 : decode cX7_next 123 = .ok (.aload_n 0, 1) := by decide +kernel
theorem dX7_next_124 : decode cX7_next 124 = .ok (.getfield 43, 3) := by decide +kernel
theorem dX7_next_127 : decode cX7_next 127 = .ok (.iconst 1, 1) := by decide +kernel
theorem dX7_next_128 : decode cX7_next 128 = .ok (.if_icmp .ne 8, 3) := by decide +kernel
theorem dX7_next_131 : decode cX7_next 131 = .ok (.bipush 97, 2) := by decide +kernel
theorem dX7_next_133 : decode cX7_next 133 = .ok (.goto 5, 3) := by decide +kernel
theorem dX7_next_136 : decode cX7_next 136 = .ok (.bipush 48, 2) := by decide +kernel
theorem dX7_next_138 : decode cX7_next 138 = .ok (.istore_n 2, 1) := by decide +kernel
theorem dX7_next_139 : decode cX7_next 139 = .ok (.aload_n 0, 1) := by decide +kernel
theorem dX7_next_140 : decode cX7_next 140 = .ok (.getfield 43, 3) := by decide +kernel
theorem dX7_next_143 : decode cX7_next 143 = .ok (.iconst 1, 1) := by decide +kernel
theorem dX7_next_144 : decode cX7_next 144 = .ok (.if_icmp .ne 8, 3) := by decide +kernel
theorem dX7_next_147 : decode cX7_next 147 = .ok (.bipush 122, 2) := by decide +kernel
theorem dX7_next_149 : decode cX7_next 149 = .ok (.goto 5, 3) := by decide +kernel
theorem dX7_next_152 : decode cX7_next 152 = .ok (.bipush 57, 2) := by decide +kernel
theorem dX7_next_154 : decode cX7_next 154 = .ok (.istore_n 3, 1) := by decide +kernel
theorem dX7_next_155 : decode cX7_next 155 = .ok (.aload_n 0, 1) := by decide +kernel
theorem dX7_next_156 : decode cX7_next 156 = .ok (.dup, 1) := by decide +kernel
theorem dX7_next_157 : decode cX7_next 157 = .ok (.getfield 31, 3) := by decide +kernel
theorem dX7_next_160 : decode cX7_next 160 = .ok (.iconst 1, 1) := by decide +kernel
theorem dX7_next_161 : decode cX7_next 161 = .ok (.iadd, 1) := by decide +kernel
theorem dX7_next_162 : decode cX7_next 162 = .ok (.putfield 31, 3) := by decide +kernel
theorem dX7_next_165 : decode cX7_next 165 = .ok (.aload_n 0, 1) := by decide +kernel
theorem dX7_next_166 : decode cX7_next 166 = .ok (.getfield 43, 3) := by decide +kernel
theorem dX7_next_169 : decode cX7_next 169 = .ok (.iconst 3, 1) := by decide +kernel
theorem dX7_next_170 : decode cX7_next 170 = .ok (.if_icmp .eq 53, 3) := by decide +kernel
theorem dX7_next_173 : decode cX7_next 173 = .ok (.aload_n 0, 1) := by decide +kernel
theorem dX7_next_174 : decode cX7_next 174 = .ok (.getfield 31, 3) := by decide +kernel
theorem dX7_next_177 : decode cX7_next 177 = .ok (.aload_n 0, 1) := by decide +kernel
theorem dX7_next_178 : decode cX7_next 178 = .ok (.getfield 28, 3) := by decide +kernel
theorem dX7_next_181 : decode cX7_next 181 = .ok (.if_icmp .ge 42, 3) := by decide +kernel
theorem dX7_next_184 : decode cX7_next 184 = .ok (.aload_n 0, 1) := by decide +kernel
theorem dX7_next_185 : decode cX7_next 185 = .ok (.getfield 9, 3) := by decide +kernel
theorem dX7_next_188 : decode cX7_next 188 = .ok (.aload_n 0, 1) := by decide +kernel
theorem dX7_next_189 : decode cX7_next 189 = .ok (.getfield 31, 3) := by decide +kernel
theorem dX7_next_192 : decode cX7_next 192 = .ok (.iaload, 1) := by decide +kernel
theorem dX7_next_193 : decode cX7_next 193 = .ok (.iload_n 2, 1) := by decide +kernel
theorem dX7_next_194 : decode cX7_next 194 = .ok (.if_icmp .lt 29, 3) := by decide +kernel
theorem dX7_next_197 : decode cX7_next 197 = .ok (.aload_n 0, 1) := by decide +kernel
theorem dX7_next_198 : decode cX7_next 198 = .ok (.getfield 9, 3) := by decide +kernel
theorem dX7_next_201 : decode cX7_next 201 = .ok (.aload_n 0, 1) := by decide +kernel
theorem dX7_next_202 : decode cX7_next 202 = .ok (.getfield 31, 3) := by decide +kernel
theorem dX7_next_205 : decode cX7_next 205 = .ok (.iaload, 1) := by decide +kernel
theorem dX7_next_206 : decode cX7_next 206 = .ok (.iload_n 3, 1) := by decide +kernel
theorem dX7_next_207 : decode cX7_next 207 = .ok (.if_icmp .gt 16, 3) := by decide +kernel
theorem dX7_next_210 : decode cX7_next 210 = .ok (.aload_n 0, 1) := by decide +kernel
theorem dX7_next_211 : decode cX7_next 211 = .ok (.dup, 1) := by decide +kernel
theorem dX7_next_212 : decode cX7_next 212 = .ok (.getfield 31, 3) := by decide +kernel
theorem dX7_next_215 : decode cX7_next 215 = .ok (.iconst 1, 1) := by decide +kernel
theorem dX7_next_216 : decode cX7_next 216 = .ok (.iadd, 1) := by decide +kernel
theorem dX7_next_217 : decode cX7_next 217 = .ok (.putfield 31, 3) := by decide +kernel
theorem dX7_next_220 : decode cX7_next 220 = .ok (.goto (-55), 3) := by decide +kernel
theorem dX7_next_223 : decode cX7_next 223 = .ok (.return_, 1) := by decide +kernel
theorem dX7_skip_0 : decode cX7_skip 0 = .ok (.aload_n 0, 1) := by decide +kernel
theorem dX7_skip_1 : decode cX7_skip 1 = .ok (.getfield 34, 3) := by decide +kernel
theorem dX7_skip_4 : decode cX7_skip 4 = .ok (.ifCond .ne 19, 3) := by decide +kernel
theorem dX7_skip_7 : decode cX7_skip 7 = .ok (.aload_n 0, 1) := by decide +kernel
theorem dX7_skip_8 : decode cX7_skip 8 = .ok (.getfield 31, 3) := by decide +kernel
theorem dX7_skip_11 : decode cX7_skip 11 = .ok (.aload_n 0, 1) := by decide +kernel
theorem dX7_skip_12 : decode cX7_skip 12 = .ok (.getfield 40, 3) := by decide +kernel
theorem dX7_skip_15 : decode cX7_skip 15 = .ok (.isub, 1) := by decide +kernel
theorem dX7_skip_16 : decode cX7_skip 16 = .ok (.aload_n 1, 1) := by decide +kernel
theorem dX7_skip_17 : decode cX7_skip 17 = .ok (.invokevirtual 46, 3) := by decide +kernel
theorem dX7_skip_20 : decode cX7_skip 20 = .ok (.if_icmp .eq 5, 3) := by decide +kernel
theorem dX7_skip_23 : decode cX7_skip 23 = .ok (.iconst 0, 1) := by decide +kernel
theorem dX7_skip_24 : decode cX7_skip 24 = .ok (.ireturn, 1) := by decide +kernel
theorem dX7_skip_25 : decode cX7_skip 25 = .ok (.iconst 0, 1) := by decide +kernel
theorem dX7_skip_26 : decode cX7_skip 26 = .ok (.istore_n 2, 1) := by decide +kernel
theorem dX7_skip_27 : decode cX7_skip 27 = .ok (.iload_n 2, 1) := by decide +kernel
theorem dX7_skip_28 : decode cX7_skip 28 = .ok (.aload_n 1, 1) := by decide +kernel
theorem dX7_skip_29 : decode cX7_skip 29 = .ok (.invokevirtual 46, 3) := by decide +kernel
theorem dX7_skip_32 : decode cX7_skip 32 = .ok (.if_icmp .ge 43, 3) := by decide +kernel
theorem dX7_skip_35 : decode cX7_skip 35 = .ok (.aload_n 0, 1) := by decide +kernel
theorem dX7_skip_36 : decode cX7_skip 36 = .ok (.getfield 40, 3) := by decide +kernel
theorem dX7_skip_39 : decode cX7_skip 39 = .ok (.iload_n 2, 1) := by decide +kernel
theorem dX7_skip_40 : decode cX7_skip 40 = .ok (.iadd, 1) := by decide +kernel
theorem dX7_skip_41 : decode cX7_skip 41 = .ok (.aload_n 0, 1) := by decide +kernel
theorem dX7_skip_42 : decode cX7_skip 42 = .ok (.getfield 28, 3) := by decide +kernel
theorem dX7_skip_45 : decode cX7_skip 45 = .ok (.if_icmp .ge 30, 3) := by decide +kernel
theorem dX7_skip_48 : decode cX7_skip 48 = .ok (.aload_n 0, 1) := by decide +kernel
theorem dX7_skip_49 : decode cX7_skip 49 = .ok (.getfield 9, 3) := by decide +kernel
theorem dX7_skip_52 : decode cX7_skip 52 = .ok (.aload_n 0, 1) := by decide +kernel
theorem dX7_skip_53 : decode cX7_skip 53 = .ok (.getfield 40, 3) := by decide +kernel
theorem dX7_skip_56 : decode cX7_skip 56 = .ok (.iload_n 2, 1) := by decide +kernel
theorem dX7_skip_57 : decode cX7_skip 57 = .ok (.iadd, 1) := by decide +kernel
theorem dX7_skip_58 : decode cX7_skip 58 = .ok (.iaload, 1) := by decide +kernel
theorem dX7_skip_59 : decode cX7_skip 59 = .ok (.aload_n 1, 1) := by decide +kernel
theorem dX7_skip_60 : decode cX7_skip 60 = .ok (.iload_n 2, 1) := by decide +kernel
theorem dX7_skip_61 : decode cX7_skip 61 = .ok (.invokevirtual 52, 3) := by decide +kernel
theorem dX7_skip_64 : decode cX7_skip 64 = .ok (.if_icmp .eq 5, 3) := by decide +kernel
theorem dX7_skip_67 : decode cX7_skip 67 = .ok (.iconst 0, 1) := by decide +kernel
theorem dX7_skip_68 : decode cX7_skip 68 = .ok (.ireturn, 1) := by decide +kernel
theorem dX7_skip_69 : decode cX7_skip 69 = .ok (.iinc 2 1, 3) := by decide +kernel
theorem dX7_skip_72 : decode cX7_skip 72 = .ok (.goto (-45), 3) := by decide +kernel
theorem dX7_skip_75 : decode cX7_skip 75 = .ok (.aload_n 0, 1) := by decide +kernel
theorem dX7_skip_76 : decode cX7_skip 76 = .ok (.invokevirtual 37, 3) := by decide +kernel
theorem dX7_skip_79 : decode cX7_skip 79 = .ok (.iconst 1, 1) := by decide +kernel
theorem dX7_skip_80 : decode cX7_skip 80 = .ok (.ireturn, 1) := by decide +kernel
theorem dX7_refuse_0 : decode cX7_refuse 0 = .ok (.aload_n 0, 1) := by decide +kernel
theorem dX7_refuse_1 : decode cX7_refuse 1 = .ok (.getfield 34, 3) := by decide +kernel
theorem dX7_refuse_4 : decode cX7_refuse 4 = .ok (.ifCond .ne 13, 3) := by decide +kernel
theorem dX7_refuse_7 : decode cX7_refuse 7 = .ok (.aload_n 0, 1) := by decide +kernel
theorem dX7_refuse_8 : decode cX7_refuse 8 = .ok (.iload_n 1, 1) := by decide +kernel
theorem dX7_refuse_9 : decode cX7_refuse 9 = .ok (.putfield 34, 3) := by decide +kernel
theorem dX7_refuse_12 : decode cX7_refuse 12 = .ok (.aload_n 0, 1) := by decide +kernel
theorem dX7_refuse_13 : decode cX7_refuse 13 = .ok (.iload_n 2, 1) := by decide +kernel
theorem dX7_refuse_14 : decode cX7_refuse 14 = .ok (.putfield 15, 3) := by decide +kernel
theorem dX7_refuse_17 : decode cX7_refuse 17 = .ok (.return_, 1) := by decide +kernel
theorem dX7_readNumber_0 : decode cX7_readNumber 0 = .ok (.aload_n 0, 1) := by decide +kernel
theorem dX7_readNumber_1 : decode cX7_readNumber 1 = .ok (.getfield 34, 3) := by decide +kernel
theorem dX7_readNumber_4 : decode cX7_readNumber 4 = .ok (.ifCond .ne 11, 3) := by decide +kernel
theorem dX7_readNumber_7 : decode cX7_readNumber 7 = .ok (.aload_n 0, 1) := by decide +kernel
theorem dX7_readNumber_8 : decode cX7_readNumber 8 = .ok (.getfield 43, 3) := by decide +kernel
theorem dX7_readNumber_11 : decode cX7_readNumber 11 = .ok (.iconst 2, 1) := by decide +kernel
theorem dX7_readNumber_12 : decode cX7_readNumber 12 = .ok (.if_icmp .eq 14, 3) := by decide +kernel
theorem dX7_readNumber_15 : decode cX7_readNumber 15 = .ok (.aload_n 0, 1) := by decide +kernel
theorem dX7_readNumber_16 : decode cX7_readNumber 16 = .ok (.iconst 1, 1) := by decide +kernel
theorem dX7_readNumber_17 : decode cX7_readNumber 17 = .ok (.aload_n 0, 1) := by decide +kernel
theorem dX7_readNumber_18 : decode cX7_readNumber 18 = .ok (.getfield 40, 3) := by decide +kernel
theorem dX7_readNumber_21 : decode cX7_readNumber 21 = .ok (.invokevirtual 60, 3) := by decide +kernel
theorem dX7_readNumber_24 : decode cX7_readNumber 24 = .ok (.iconst 0, 1) := by decide +kernel
theorem dX7_readNumber_25 : decode cX7_readNumber 25 = .ok (.ireturn, 1) := by decide +kernel
theorem dX7_readNumber_26 : decode cX7_readNumber 26 = .ok (.iconst 0, 1) := by decide +kernel
theorem dX7_readNumber_27 : decode cX7_readNumber 27 = .ok (.istore_n 3, 1) := by decide +kernel
theorem dX7_readNumber_28 : decode cX7_readNumber 28 = .ok (.aload_n 0, 1) := by decide +kernel
theorem dX7_readNumber_29 : decode cX7_readNumber 29 = .ok (.getfield 40, 3) := by decide +kernel
theorem dX7_readNumber_32 : decode cX7_readNumber 32 = .ok (.istore 4, 2) := by decide +kernel
theorem dX7_readNumber_34 : decode cX7_readNumber 34 = .ok (.iload 4, 2) := by decide +kernel
theorem dX7_readNumber_36 : decode cX7_readNumber 36 = .ok (.aload_n 0, 1) := by decide +kernel
theorem dX7_readNumber_37 : decode cX7_readNumber 37 = .ok (.getfield 31, 3) := by decide +kernel
theorem dX7_readNumber_40 : decode cX7_readNumber 40 = .ok (.if_icmp .ge 36, 3) := by decide +kernel
theorem dX7_readNumber_43 : decode cX7_readNumber 43 = .ok (.iload 4, 2) := by decide +kernel
theorem dX7_readNumber_45 : decode cX7_readNumber 45 = .ok (.aload_n 0, 1) := by decide +kernel
theorem dX7_readNumber_46 : decode cX7_readNumber 46 = .ok (.getfield 40, 3) := by decide +kernel
theorem dX7_readNumber_49 : decode cX7_readNumber 49 = .ok (.iconst 3, 1) := by decide +kernel
theorem dX7_readNumber_50 : decode cX7_readNumber 50 = .ok (.iadd, 1) := by decide +kernel
theorem dX7_readNumber_51 : decode cX7_readNumber 51 = .ok (.if_icmp .ge 25, 3) := by decide +kernel
theorem dX7_readNumber_54 : decode cX7_readNumber 54 = .ok (.iload_n 3, 1) := by decide +kernel
theorem dX7_readNumber_55 : decode cX7_readNumber 55 = .ok (.bipush 10, 2) := by decide +kernel
theorem dX7_readNumber_57 : decode cX7_readNumber 57 = .ok (.imul, 1) := by decide +kernel
theorem dX7_readNumber_58 : decode cX7_readNumber 58 = .ok (.aload_n 0, 1) := by decide +kernel
theorem dX7_readNumber_59 : decode cX7_readNumber 59 = .ok (.getfield 9, 3) := by decide +kernel
theorem dX7_readNumber_62 : decode cX7_readNumber 62 = .ok (.iload 4, 2) := by decide +kernel
theorem dX7_readNumber_64 : decode cX7_readNumber 64 = .ok (.iaload, 1) := by decide +kernel
theorem dX7_readNumber_65 : decode cX7_readNumber 65 = .ok (.iadd, 1) := by decide +kernel
theorem dX7_readNumber_66 : decode cX7_readNumber 66 = .ok (.bipush 48, 2) := by decide +kernel
theorem dX7_readNumber_68 : decode cX7_readNumber 68 = .ok (.isub, 1) := by decide +kernel
theorem dX7_readNumber_69 : decode cX7_readNumber 69 = .ok (.istore_n 3, 1) := by decide +kernel
theorem dX7_readNumber_70 : decode cX7_readNumber 70 = .ok (.iinc 4 1, 3) := by decide +kernel
theorem dX7_readNumber_73 : decode cX7_readNumber 73 = .ok (.goto (-39), 3) := by decide +kernel
theorem dX7_readNumber_76 : decode cX7_readNumber 76 = .ok (.aload_n 0, 1) := by decide +kernel
theorem dX7_readNumber_77 : decode cX7_readNumber 77 = .ok (.getfield 31, 3) := by decide +kernel
theorem dX7_readNumber_80 : decode cX7_readNumber 80 = .ok (.aload_n 0, 1) := by decide +kernel
theorem dX7_readNumber_81 : decode cX7_readNumber 81 = .ok (.getfield 40, 3) := by decide +kernel
theorem dX7_readNumber_84 : decode cX7_readNumber 84 = .ok (.isub, 1) := by decide +kernel
theorem dX7_readNumber_85 : decode cX7_readNumber 85 = .ok (.iconst 2, 1) := by decide +kernel
theorem dX7_readNumber_86 : decode cX7_readNumber 86 = .ok (.if_icmp .gt 13, 3) := by decide +kernel
theorem dX7_readNumber_89 : decode cX7_readNumber 89 = .ok (.iload_n 3, 1) := by decide +kernel
theorem dX7_readNumber_90 : decode cX7_readNumber 90 = .ok (.iload_n 1, 1) := by decide +kernel
theorem dX7_readNumber_91 : decode cX7_readNumber 91 = .ok (.if_icmp .lt 8, 3) := by decide +kernel
theorem dX7_readNumber_94 : decode cX7_readNumber 94 = .ok (.iload_n 3, 1) := by decide +kernel
theorem dX7_readNumber_95 : decode cX7_readNumber 95 = .ok (.iload_n 2, 1) := by decide +kernel
theorem dX7_readNumber_96 : decode cX7_readNumber 96 = .ok (.if_icmp .le 14, 3) := by decide +kernel
theorem dX7_readNumber_99 : decode cX7_readNumber 99 = .ok (.aload_n 0, 1) := by decide +kernel
theorem dX7_readNumber_100 : decode cX7_readNumber 100 = .ok (.iconst 2, 1) := by decide +kernel
theorem dX7_readNumber_101 : decode cX7_readNumber 101 = .ok (.aload_n 0, 1) := by decide +kernel
theorem dX7_readNumber_102 : decode cX7_readNumber 102 = .ok (.getfield 40, 3) := by decide +kernel
theorem dX7_readNumber_105 : decode cX7_readNumber 105 = .ok (.invokevirtual 60, 3) := by decide +kernel
theorem dX7_readNumber_108 : decode cX7_readNumber 108 = .ok (.iconst 0, 1) := by decide +kernel
theorem dX7_readNumber_109 : decode cX7_readNumber 109 = .ok (.ireturn, 1) := by decide +kernel
theorem dX7_readNumber_110 : decode cX7_readNumber 110 = .ok (.aload_n 0, 1) := by decide +kernel
theorem dX7_readNumber_111 : decode cX7_readNumber 111 = .ok (.invokevirtual 37, 3) := by decide +kernel
theorem dX7_readNumber_114 : decode cX7_readNumber 114 = .ok (.iload_n 3, 1) := by decide +kernel
theorem dX7_readNumber_115 : decode cX7_readNumber 115 = .ok (.ireturn, 1) := by decide +kernel
theorem dX7_readSymbol_0 : decode cX7_readSymbol 0 = .ok (.aload_n 0, 1) := by decide +kernel
theorem dX7_readSymbol_1 : decode cX7_readSymbol 1 = .ok (.ldc 64, 2) := by decide +kernel
theorem dX7_readSymbol_3 : decode cX7_readSymbol 3 = .ok (.invokevirtual 56, 3) := by decide +kernel
theorem dX7_readSymbol_6 : decode cX7_readSymbol 6 = .ok (.ifCond .eq 5, 3) := by decide +kernel
theorem dX7_readSymbol_9 : decode cX7_readSymbol 9 = .ok (.iconst 0, 1) := by decide +kernel
theorem dX7_readSymbol_10 : decode cX7_readSymbol 10 = .ok (.ireturn, 1) := by decide +kernel
theorem dX7_readSymbol_11 : decode cX7_readSymbol 11 = .ok (.iload_n 1, 1) := by decide +kernel
theorem dX7_readSymbol_12 : decode cX7_readSymbol 12 = .ok (.iconst 1, 1) := by decide +kernel
theorem dX7_readSymbol_13 : decode cX7_readSymbol 13 = .ok (.if_icmp .le 14, 3) := by decide +kernel
theorem dX7_readSymbol_16 : decode cX7_readSymbol 16 = .ok (.aload_n 0, 1) := by decide +kernel
theorem dX7_readSymbol_17 : decode cX7_readSymbol 17 = .ok (.ldc 66, 2) := by decide +kernel
theorem dX7_readSymbol_19 : decode cX7_readSymbol 19 = .ok (.invokevirtual 56, 3) := by decide +kernel
theorem dX7_readSymbol_22 : decode cX7_readSymbol 22 = .ok (.ifCond .eq 5, 3) := by decide +kernel
theorem dX7_readSymbol_25 : decode cX7_readSymbol 25 = .ok (.iconst 1, 1) := by decide +kernel
theorem dX7_readSymbol_26 : decode cX7_readSymbol 26 = .ok (.ireturn, 1) := by decide +kernel
theorem dX7_readSymbol_27 : decode cX7_readSymbol 27 = .ok (.aload_n 0, 1) := by decide +kernel
theorem dX7_readSymbol_28 : decode cX7_readSymbol 28 = .ok (.iconst 1, 1) := by decide +kernel
theorem dX7_readSymbol_29 : decode cX7_readSymbol 29 = .ok (.aload_n 0, 1) := by decide +kernel
theorem dX7_readSymbol_30 : decode cX7_readSymbol 30 = .ok (.getfield 40, 3) := by decide +kernel
theorem dX7_readSymbol_33 : decode cX7_readSymbol 33 = .ok (.invokevirtual 60, 3) := by decide +kernel
theorem dX7_readSymbol_36 : decode cX7_readSymbol 36 = .ok (.iconst 0, 1) := by decide +kernel
theorem dX7_readSymbol_37 : decode cX7_readSymbol 37 = .ok (.ireturn, 1) := by decide +kernel
theorem dX7_expect_0 : decode cX7_expect 0 = .ok (.aload_n 0, 1) := by decide +kernel
theorem dX7_expect_1 : decode cX7_expect 1 = .ok (.aload_n 1, 1) := by decide +kernel
theorem dX7_expect_2 : decode cX7_expect 2 = .ok (.invokevirtual 56, 3) := by decide +kernel
theorem dX7_expect_5 : decode cX7_expect 5 = .ok (.ifCond .ne 12, 3) := by decide +kernel
theorem dX7_expect_8 : decode cX7_expect 8 = .ok (.aload_n 0, 1) := by decide +kernel
theorem dX7_expect_9 : decode cX7_expect 9 = .ok (.iconst 1, 1) := by decide +kernel
theorem dX7_expect_10 : decode cX7_expect 10 = .ok (.aload_n 0, 1) := by decide +kernel
theorem dX7_expect_11 : decode cX7_expect 11 = .ok (.getfield 40, 3) := by decide +kernel
theorem dX7_expect_14 : decode cX7_expect 14 = .ok (.invokevirtual 60, 3) := by decide +kernel
theorem dX7_expect_17 : decode cX7_expect 17 = .ok (.return_, 1) := by decide +kernel
theorem dX7_put_0 : decode cX7_put 0 = .ok (.bipush 24, 2) := by decide +kernel
theorem dX7_put_2 : decode cX7_put 2 = .ok (.istore_n 2, 1) := by decide +kernel
theorem dX7_put_3 : decode cX7_put 3 = .ok (.iload_n 2, 1) := by decide +kernel
theorem dX7_put_4 : decode cX7_put 4 = .ok (.ifCond .lt 45, 3) := by decide +kernel
theorem dX7_put_7 : decode cX7_put 7 = .ok (.aload_n 0, 1) := by decide +kernel
theorem dX7_put_8 : decode cX7_put 8 = .ok (.getfield 19, 3) := by decide +kernel
theorem dX7_put_11 : decode cX7_put 11 = .ok (.sipush 500, 3) := by decide +kernel
theorem dX7_put_14 : decode cX7_put 14 = .ok (.if_icmp .ge 35, 3) := by decide +kernel
theorem dX7_put_17 : decode cX7_put 17 = .ok (.aload_n 0, 1) := by decide +kernel
theorem dX7_put_18 : decode cX7_put 18 = .ok (.getfield 9, 3) := by decide +kernel
theorem dX7_put_21 : decode cX7_put 21 = .ok (.aload_n 0, 1) := by decide +kernel
theorem dX7_put_22 : decode cX7_put 22 = .ok (.getfield 19, 3) := by decide +kernel
theorem dX7_put_25 : decode cX7_put 25 = .ok (.iload_n 1, 1) := by decide +kernel
theorem dX7_put_26 : decode cX7_put 26 = .ok (.iload_n 2, 1) := by decide +kernel
theorem dX7_put_27 : decode cX7_put 27 = .ok (.ishr, 1) := by decide +kernel
theorem dX7_put_28 : decode cX7_put 28 = .ok (.sipush 255, 3) := by decide +kernel
theorem dX7_put_31 : decode cX7_put 31 = .ok (.iand, 1) := by decide +kernel
theorem dX7_put_32 : decode cX7_put 32 = .ok (.iastore, 1) := by decide +kernel
theorem dX7_put_33 : decode cX7_put 33 = .ok (.aload_n 0, 1) := by decide +kernel
theorem dX7_put_34 : decode cX7_put 34 = .ok (.dup, 1) := by decide +kernel
theorem dX7_put_35 : decode cX7_put 35 = .ok (.getfield 19, 3) := by decide +kernel
theorem dX7_put_38 : decode cX7_put 38 = .ok (.iconst 1, 1) := by decide +kernel
theorem dX7_put_39 : decode cX7_put 39 = .ok (.iadd, 1) := by decide +kernel
theorem dX7_put_40 : decode cX7_put 40 = .ok (.putfield 19, 3) := by decide +kernel
theorem dX7_put_43 : decode cX7_put 43 = .ok (.iinc 2 (-8), 3) := by decide +kernel
theorem dX7_put_46 : decode cX7_put 46 = .ok (.goto (-43), 3) := by decide +kernel
theorem dX7_put_49 : decode cX7_put 49 = .ok (.return_, 1) := by decide +kernel
theorem dX7_open_0 : decode cX7_open 0 = .ok (.aload_n 0, 1) := by decide +kernel
theorem dX7_open_1 : decode cX7_open 1 = .ok (.iload_n 1, 1) := by decide +kernel
theorem dX7_open_2 : decode cX7_open 2 = .ok (.sipush 500, 3) := by decide +kernel
theorem dX7_open_5 : decode cX7_open 5 = .ok (.invokestatic 22, 3) := by decide +kernel
theorem dX7_open_8 : decode cX7_open 8 = .ok (.putfield 28, 3) := by decide +kernel
theorem dX7_open_11 : decode cX7_open 11 = .ok (.aload_n 0, 1) := by decide +kernel
theorem dX7_open_12 : decode cX7_open 12 = .ok (.iconst 0, 1) := by decide +kernel
theorem dX7_open_13 : decode cX7_open 13 = .ok (.putfield 19, 3) := by decide +kernel
theorem dX7_open_16 : decode cX7_open 16 = .ok (.aload_n 0, 1) := by decide +kernel
theorem dX7_open_17 : decode cX7_open 17 = .ok (.iconst 0, 1) := by decide +kernel
theorem dX7_open_18 : decode cX7_open 18 = .ok (.putfield 31, 3) := by decide +kernel
theorem dX7_open_21 : decode cX7_open 21 = .ok (.aload_n 0, 1) := by decide +kernel
theorem dX7_open_22 : decode cX7_open 22 = .ok (.iconst 0, 1) := by decide +kernel
theorem dX7_open_23 : decode cX7_open 23 = .ok (.putfield 34, 3) := by decide +kernel
theorem dX7_open_26 : decode cX7_open 26 = .ok (.aload_n 0, 1) := by decide +kernel
theorem dX7_open_27 : decode cX7_open 27 = .ok (.iconst (-1), 1) := by decide +kernel
theorem dX7_open_28 : decode cX7_open 28 = .ok (.putfield 15, 3) := by decide +kernel
theorem dX7_open_31 : decode cX7_open 31 = .ok (.aload_n 0, 1) := by decide +kernel
theorem dX7_open_32 : decode cX7_open 32 = .ok (.invokevirtual 37, 3) := by decide +kernel
theorem dX7_open_35 : decode cX7_open 35 = .ok (.return_, 1) := by decide +kernel
def f_X7_hasMore  (D : Dm) : Option (Int32 × Dm) := if (D 1 6) = 0 then (if (D 1 3) = 0 then (some (0, D)) else (some (1, D))) else (some (0, D))
def f_X7_next_165_b (k165 : Int32 → Int32 → Dm → Option Dm) (x2 : Int32) (x3 : Int32) (D : Dm) : Option Dm := if (D 1 3) = 3 then (some D) else (if (D 1 2) ≤ (D 1 5) then (some D) else (gd (inB (D 1 5) 500) (if (D 2 (Int32.toNatClampNeg (D 1 5))) < x2 then (some D) else (gd (inB (D 1 5) 500) (if x3 < (D 2 (Int32.toNatClampNeg (D 1 5))) then (some D) else (lt (ud D 1 5 ((D 1 5) + 1)) fun D7 => k165 x2 x3 D7))))))
def f_X7_next_165 : Nat → Int32 → Int32 → Dm → Option Dm
  | 0, _, _, _ => none
  | n + 1, x2, x3, D => f_X7_next_165_b (f_X7_next_165 n) x2 x3 D
def f_X7_next_154 (x2 : Int32) (xs0 : Int32) (D : Dm) : Option Dm := lt (ud D 1 5 ((D 1 5) + 1)) fun D1 => f_X7_next_165 FU x2 xs0 D1
def f_X7_next_138 (xs0 : Int32) (D : Dm) : Option Dm := if (D 1 3) = 1 then (f_X7_next_154 xs0 122 D) else (f_X7_next_154 xs0 57 D)
def f_X7_next_123  (D : Dm) : Option Dm := if (D 1 3) = 1 then (f_X7_next_138 97 D) else (f_X7_next_138 48 D)
def f_X7_next_106 (x1 : Int32) (D : Dm) : Option Dm := if x1 < 48 then (f_X7_next_123 D) else (if 57 < x1 then (f_X7_next_123 D) else (lt (ud D 1 3 2) fun D3 => f_X7_next_123 D3))
def f_X7_next_46  (D : Dm) : Option Dm := lt (ud D 1 5 (D 1 4)) fun D1 => if (D1 1 4) < (D1 1 2) then (gd (inB (D1 1 4) 500) (lt (D1 2 (Int32.toNatClampNeg (D1 1 4))) fun y5 => lt (ud D1 1 3 3) fun D7 => if y5 < 97 then (f_X7_next_106 y5 D7) else (if 122 < y5 then (f_X7_next_106 y5 D7) else (lt (ud D7 1 3 1) fun D11 => f_X7_next_123 D11)))) else (lt (ud D1 1 3 0) fun D13 => some D13)
def f_X7_next_8_b (k8 : Dm → Option Dm)  (D : Dm) : Option Dm := if (D 1 2) ≤ (D 1 4) then (f_X7_next_46 D) else (gd (inB (D 1 4) 500) (if (D 2 (Int32.toNatClampNeg (D 1 4))) = 32 then (lt (ud D 1 4 ((D 1 4) + 1)) fun D4 => k8 D4) else (f_X7_next_46 D)))
def f_X7_next_8 : Nat → Dm → Option Dm
  | 0, _ => none
  | n + 1, D => f_X7_next_8_b (f_X7_next_8 n) D
def f_X7_next  (D : Dm) : Option Dm := lt (ud D 1 4 (D 1 5)) fun D1 => f_X7_next_8 FU D1
def f_X7_skip_75  (D : Dm) : Option (Int32 × Dm) := bV (f_X7_next D) fun D1 => some (1, D1)
def f_X7_skip_27_b (k27 : Nat → Int32 → Dm → Option (Int32 × Dm)) (x1 : Nat) (x2 : Int32) (D : Dm) : Option (Int32 × Dm) := if (slI x1) ≤ x2 then (f_X7_skip_75 D) else (if (D 1 2) ≤ ((D 1 4) + x2) then (f_X7_skip_75 D) else (gd (inB ((D 1 4) + x2) 500) (gd (inB x2 (slN x1)) (if (D 2 (Int32.toNatClampNeg ((D 1 4) + x2))) = (sch x1 (Int32.toNatClampNeg x2)) then (lt (x2 + 1) fun y6 => k27 x1 y6 D) else (some (0, D))))))
def f_X7_skip_27 : Nat → Nat → Int32 → Dm → Option (Int32 × Dm)
  | 0, _, _, _ => none
  | n + 1, x1, x2, D => f_X7_skip_27_b (f_X7_skip_27 n) x1 x2 D
def f_X7_skip (x1 : Nat) (D : Dm) : Option (Int32 × Dm) := if (D 1 6) = 0 then (if ((D 1 5) - (D 1 4)) = (slI x1) then (f_X7_skip_27 FU x1 0 D) else (some (0, D))) else (some (0, D))
def f_X7_refuse (x1 : Int32) (x2 : Int32) (D : Dm) : Option Dm := if (D 1 6) = 0 then (lt (ud D 1 6 x1) fun D2 => lt (ud D2 1 7 x2) fun D4 => some D4) else (some D)
def f_X7_readNumber_15  (D : Dm) : Option (Int32 × Dm) := bV (f_X7_refuse 1 (D 1 4) D) fun D1 => some (0, D1)
def f_X7_readNumber_99  (D : Dm) : Option (Int32 × Dm) := bV (f_X7_refuse 2 (D 1 4) D) fun D1 => some (0, D1)
def f_X7_readNumber_76 (x1 : Int32) (x2 : Int32) (x3 : Int32) (D : Dm) : Option (Int32 × Dm) := if 2 < ((D 1 5) - (D 1 4)) then (f_X7_readNumber_99 D) else (if x3 < x1 then (f_X7_readNumber_99 D) else (if x3 ≤ x2 then (bV (f_X7_next D) fun D4 => some (x3, D4)) else (f_X7_readNumber_99 D)))
def f_X7_readNumber_34_b (k34 : Int32 → Int32 → Int32 → Int32 → Dm → Option (Int32 × Dm)) (x1 : Int32) (x2 : Int32) (x3 : Int32) (x4 : Int32) (D : Dm) : Option (Int32 × Dm) := if (D 1 5) ≤ x4 then (f_X7_readNumber_76 x1 x2 x3 D) else (if ((D 1 4) + 3) ≤ x4 then (f_X7_readNumber_76 x1 x2 x3 D) else (gd (inB x4 500) (lt (((x3 * 10) + (D 2 (Int32.toNatClampNeg x4))) - 48) fun y4 => lt (x4 + 1) fun y6 => k34 x1 x2 y4 y6 D)))
def f_X7_readNumber_34 : Nat → Int32 → Int32 → Int32 → Int32 → Dm → Option (Int32 × Dm)
  | 0, _, _, _, _, _ => none
  | n + 1, x1, x2, x3, x4, D => f_X7_readNumber_34_b (f_X7_readNumber_34 n) x1 x2 x3 x4 D
def f_X7_readNumber (x1 : Int32) (x2 : Int32) (D : Dm) : Option (Int32 × Dm) := if (D 1 6) = 0 then (if (D 1 3) = 2 then (lt (D 1 4) fun y3 => f_X7_readNumber_34 FU x1 x2 0 y3 D) else (f_X7_readNumber_15 D)) else (f_X7_readNumber_15 D)
def f_X7_readSymbol_27  (D : Dm) : Option (Int32 × Dm) := bV (f_X7_refuse 1 (D 1 4) D) fun D1 => some (0, D1)
def f_X7_readSymbol (x1 : Int32) (D : Dm) : Option (Int32 × Dm) := bI (f_X7_skip 5 D) fun y3 D1 => if y3 = 0 then (if x1 ≤ 1 then (f_X7_readSymbol_27 D1) else (bI (f_X7_skip 6 D1) fun y8 D6 => if y8 = 0 then (f_X7_readSymbol_27 D6) else (some (1, D6)))) else (some (0, D1))
def f_X7_expect (x1 : Nat) (D : Dm) : Option Dm := bI (f_X7_skip x1 D) fun y3 D1 => if y3 = 0 then (bV (f_X7_refuse 1 (D1 1 4) D1) fun D5 => some D5) else (some D1)
def f_X7_put_3_b (k3 : Int32 → Int32 → Dm → Option Dm) (x1 : Int32) (x2 : Int32) (D : Dm) : Option Dm := if x2 < 0 then (some D) else (if 500 ≤ (D 1 1) then (some D) else (gd (inB (D 1 1) 500) (lt (ud D 2 (Int32.toNatClampNeg (D 1 1)) ((x1 >>> (x2 &&& 31)) &&& 255)) fun D4 => lt (ud D4 1 1 ((D4 1 1) + 1)) fun D6 => lt (x2 + (-8)) fun y8 => k3 x1 y8 D6)))
def f_X7_put_3 : Nat → Int32 → Int32 → Dm → Option Dm
  | 0, _, _, _ => none
  | n + 1, x1, x2, D => f_X7_put_3_b (f_X7_put_3 n) x1 x2 D
def f_X7_put (x1 : Int32) (D : Dm) : Option Dm := f_X7_put_3 FU x1 24 D
def f_X7_open (x1 : Int32) (D : Dm) : Option Dm := lt (ud D 1 2 (mnI x1 500)) fun D1 => lt (ud D1 1 1 0) fun D3 => lt (ud D3 1 5 0) fun D5 => lt (ud D5 1 6 0) fun D7 => lt (ud D7 1 7 (-1)) fun D9 => bV (f_X7_next D9) fun D11 => some D11
set_option maxHeartbeats 4000000 in
theorem w_X7_hasMore {G : va_G} {tA : Nat → ClassId} {z : Nat} {E : Ex} {p : Program} {l : Launch} {e : Env} {s : State} {m : MethodId} {args : Array Value} {below : List Frame} {meth : Method} {c : Code} {r : Int32} {D' : Dm} (O : Ok G tA z E cX7_hasMore RX7 1 p s m args c) (hr : meth.sig.returnType = some .boolean) (hlk : meth.locks = false)  (D : Dm) (h : f_X7_hasMore  D = some (r, D')) : BI G tA z E p l e (rmC 1 0 0) s m args below meth c LAY D r D' 1 0 [(0, .ref (z + 1))] [] := by
  obtain ⟨hx, hb, -, hown, hts, -⟩ := id O
  unfold f_X7_hasMore at h
  intro H locs ls hH hl
  refine lv_aload_n hx hb dX7_hasMore_0 rfl (lv_at hl 0 rfl) ?_
  refine h_geti O hH ly_1 rfl fl_X7_34 dX7_hasMore_1 ?_
  refine lv_if_ne (tgt := 18) hx hb dX7_hasMore_4 (by decide) (fun c1 => ?_) (fun c1 => ?_)
  · have h := it_neg h c1
    refine lv_iconst (v := 0) hx hb dX7_hasMore_18 (by decide) ?_
    obtain ⟨rfl, rfl⟩ := ret_i h
    exact h_zret O hr hlk zb_0 hH dX7_hasMore_19
  · have h := it_pos h c1
    refine lv_aload_n hx hb dX7_hasMore_7 rfl (lv_at hl 0 rfl) ?_
    refine h_geti O hH ly_1 rfl fl_X7_43 dX7_hasMore_8 ?_
    refine lv_if_eq (tgt := 18) hx hb dX7_hasMore_11 (by decide) (fun c2 => ?_) (fun c2 => ?_)
    · have h := it_pos h c2
      refine lv_iconst (v := 0) hx hb dX7_hasMore_18 (by decide) ?_
      obtain ⟨rfl, rfl⟩ := ret_i h
      exact h_zret O hr hlk zb_0 hH dX7_hasMore_19
    · have h := it_neg h c2
      refine lv_iconst (v := 1) hx hb dX7_hasMore_14 (by decide) ?_
      refine lv_goto (tgt := 19) hx hb dX7_hasMore_15 (by decide) ?_
      obtain ⟨rfl, rfl⟩ := ret_i h
      exact h_zret O hr hlk zb_1 hH dX7_hasMore_19
set_option maxHeartbeats 4000000 in
theorem c_X7_hasMore {l : Launch} {G : va_G} {tA : Nat → ClassId} {z : Nat} {E : Ex}  {D D' : Dm} {r : Int32} (h : f_X7_hasMore  D = some (r, D')) : CtI l yX7_hasMore cX7_hasMore 1 (some .boolean) G tA z E 1 0 0 [.ref (z + 1)] LAY D r LAY D' :=
  ct_BI (by decide +kernel) (Nat.le_of_ble_eq_true rfl) (fun _ _ _ _ _ _ _ _ O hr hlk => w_X7_hasMore O hr hlk  _ h)
set_option maxHeartbeats 4000000 in
theorem w_X7_next_165_b {G : va_G} {tA : Nat → ClassId} {z : Nat} {E : Ex} {p : Program} {l : Launch} {e : Env} {s : State} {m : MethodId} {args : Array Value} {below : List Frame} {meth : Method} {c : Code} {D' : Dm} (O : Ok G tA z E cX7_next RX7 4 p s m args c) (hr : meth.sig.returnType = none) (hlk : meth.locks = false) {k165 : Int32 → Int32 → Dm → Option Dm} (hk165 : ∀ (x2 : Int32) (x3 : Int32) (D : Dm), k165 x2 x3 D = some D' → BV G tA z E p l e (rmC 1 0 0) s m args below meth c LAY D D' 4 165 [(0, .ref (z + 1)), (2, .int x2), (3, .int x3)] []) (x2 : Int32) (x3 : Int32) (D : Dm) (h : f_X7_next_165_b k165 x2 x3 D = some D') : BV G tA z E p l e (rmC 1 0 0) s m args below meth c LAY D D' 4 165 [(0, .ref (z + 1)), (2, .int x2), (3, .int x3)] [] := by
  obtain ⟨hx, hb, -, hown, hts, -⟩ := id O
  unfold f_X7_next_165_b at h
  intro H locs ls hH hl
  refine lv_aload_n hx hb dX7_next_165 rfl (lv_at hl 0 rfl) ?_
  refine h_geti O hH ly_1 rfl fl_X7_43 dX7_next_166 ?_
  refine lv_iconst (v := 3) hx hb dX7_next_169 (by decide) ?_
  refine lv_icmp_eq (tgt := 223) hx hb dX7_next_170 (by decide) (fun c1 => ?_) (fun c1 => ?_)
  · have h := it_pos h c1
    obtain rfl := ret_v h
    exact h_vret O hr hlk hH dX7_next_223
  · have h := it_neg h c1
    refine lv_aload_n hx hb dX7_next_173 rfl (lv_at hl 0 rfl) ?_
    refine h_geti O hH ly_1 rfl fl_X7_31 dX7_next_174 ?_
    refine lv_aload_n hx hb dX7_next_177 rfl (lv_at hl 0 rfl) ?_
    refine h_geti O hH ly_1 rfl fl_X7_28 dX7_next_178 ?_
    refine lv_icmp_ge (tgt := 223) hx hb dX7_next_181 (by decide) (fun c2 => ?_) (fun c2 => ?_)
    · have h := it_pos h c2
      obtain rfl := ret_v h
      exact h_vret O hr hlk hH dX7_next_223
    · have h := it_neg h c2
      refine lv_aload_n hx hb dX7_next_184 rfl (lv_at hl 0 rfl) ?_
      refine h_getr O hH ly_1 rfl fl_X7_9 dX7_next_185 ?_
      refine lv_aload_n hx hb dX7_next_188 rfl (lv_at hl 0 rfl) ?_
      refine h_geti O hH ly_1 rfl fl_X7_31 dX7_next_189 ?_
      obtain ⟨g3, h⟩ := gd_some h
      refine h_iald O hH ly_2 g3 dX7_next_192 ?_
      refine lv_iload_n hx hb dX7_next_193 rfl (lv_at hl 1 rfl) ?_
      refine lv_icmp_lt (tgt := 223) hx hb dX7_next_194 (by decide) (fun c4 => ?_) (fun c4 => ?_)
      · have h := it_pos h c4
        obtain rfl := ret_v h
        exact h_vret O hr hlk hH dX7_next_223
      · have h := it_neg h c4
        refine lv_aload_n hx hb dX7_next_197 rfl (lv_at hl 0 rfl) ?_
        refine h_getr O hH ly_1 rfl fl_X7_9 dX7_next_198 ?_
        refine lv_aload_n hx hb dX7_next_201 rfl (lv_at hl 0 rfl) ?_
        refine h_geti O hH ly_1 rfl fl_X7_31 dX7_next_202 ?_
        obtain ⟨g5, h⟩ := gd_some h
        refine h_iald O hH ly_2 g5 dX7_next_205 ?_
        refine lv_iload_n hx hb dX7_next_206 rfl (lv_at hl 2 rfl) ?_
        refine lv_icmp_gt (tgt := 223) hx hb dX7_next_207 (by decide) (fun c6 => ?_) (fun c6 => ?_)
        · have h := it_pos h c6
          obtain rfl := ret_v h
          exact h_vret O hr hlk hH dX7_next_223
        · have h := it_neg h c6
          refine lv_aload_n hx hb dX7_next_210 rfl (lv_at hl 0 rfl) ?_
          refine lv_dup hx hb dX7_next_211 rfl ?_
          refine h_geti O hH ly_1 rfl fl_X7_31 dX7_next_212 ?_
          refine lv_iconst (v := 1) hx hb dX7_next_215 (by decide) ?_
          refine lv_iadd hx hb dX7_next_216 ?_
          obtain ⟨D7, e8, h⟩ := lt_some h
          refine h_puti O hH ly_1 rfl fl_X7_31 e8 dX7_next_217 (fun H locs hH => ?_)
          refine lv_goto (tgt := 165) hx hb dX7_next_220 (by decide) ?_
          exact hk165 _ _ _ h _ _ _ hH (lv_sub hl [0, 1, 2] rfl)
set_option maxHeartbeats 4000000 in
theorem w_X7_next_165 {G : va_G} {tA : Nat → ClassId} {z : Nat} {E : Ex} {p : Program} {l : Launch} {e : Env} {s : State} {m : MethodId} {args : Array Value} {below : List Frame} {meth : Method} {c : Code} {D' : Dm} (O : Ok G tA z E cX7_next RX7 4 p s m args c) (hr : meth.sig.returnType = none) (hlk : meth.locks = false) : ∀ (n : Nat) (x2 : Int32) (x3 : Int32) (D : Dm) (h : f_X7_next_165 n x2 x3 D = some D'), BV G tA z E p l e (rmC 1 0 0) s m args below meth c LAY D D' 4 165 [(0, .ref (z + 1)), (2, .int x2), (3, .int x3)] [] := by
  intro n
  induction n with
  | zero => intro x2 x3 D h; exact no_some h
  | succ n ih => intro x2 x3 D h; exact w_X7_next_165_b O hr hlk (fun x2 x3 D h => ih x2 x3 D h) x2 x3 D h
set_option maxHeartbeats 4000000 in
theorem w_X7_next_154 {G : va_G} {tA : Nat → ClassId} {z : Nat} {E : Ex} {p : Program} {l : Launch} {e : Env} {s : State} {m : MethodId} {args : Array Value} {below : List Frame} {meth : Method} {c : Code} {D' : Dm} (O : Ok G tA z E cX7_next RX7 4 p s m args c) (hr : meth.sig.returnType = none) (hlk : meth.locks = false) (x2 : Int32) (xs0 : Int32) (D : Dm) (h : f_X7_next_154 x2 xs0 D = some D') : BV G tA z E p l e (rmC 1 0 0) s m args below meth c LAY D D' 4 154 [(0, .ref (z + 1)), (2, .int x2)] [.int xs0] := by
  obtain ⟨hx, hb, -, hown, hts, -⟩ := id O
  unfold f_X7_next_154 at h
  intro H locs ls hH hl
  refine lv_istore_n (lv' := [(3, .int xs0), (0, .ref (z + 1)), (2, .int x2)]) hx hb dX7_next_154 rfl hl (by decide) rfl (fun ls hl => ?_)
  refine lv_aload_n hx hb dX7_next_155 rfl (lv_at hl 1 rfl) ?_
  refine lv_dup hx hb dX7_next_156 rfl ?_
  refine h_geti O hH ly_1 rfl fl_X7_31 dX7_next_157 ?_
  refine lv_iconst (v := 1) hx hb dX7_next_160 (by decide) ?_
  refine lv_iadd hx hb dX7_next_161 ?_
  obtain ⟨D1, e2, h⟩ := lt_some h
  refine h_puti O hH ly_1 rfl fl_X7_31 e2 dX7_next_162 (fun H locs hH => ?_)
  exact w_X7_next_165 O hr hlk FU _ _ _ h _ _ _ hH (lv_sub hl [1, 2, 0] rfl)
set_option maxHeartbeats 4000000 in
theorem w_X7_next_138 {G : va_G} {tA : Nat → ClassId} {z : Nat} {E : Ex} {p : Program} {l : Launch} {e : Env} {s : State} {m : MethodId} {args : Array Value} {below : List Frame} {meth : Method} {c : Code} {D' : Dm} (O : Ok G tA z E cX7_next RX7 4 p s m args c) (hr : meth.sig.returnType = none) (hlk : meth.locks = false) (xs0 : Int32) (D : Dm) (h : f_X7_next_138 xs0 D = some D') : BV G tA z E p l e (rmC 1 0 0) s m args below meth c LAY D D' 4 138 [(0, .ref (z + 1))] [.int xs0] := by
  obtain ⟨hx, hb, -, hown, hts, -⟩ := id O
  unfold f_X7_next_138 at h
  intro H locs ls hH hl
  refine lv_istore_n (lv' := [(2, .int xs0), (0, .ref (z + 1))]) hx hb dX7_next_138 rfl hl (by decide) rfl (fun ls hl => ?_)
  refine lv_aload_n hx hb dX7_next_139 rfl (lv_at hl 1 rfl) ?_
  refine h_geti O hH ly_1 rfl fl_X7_43 dX7_next_140 ?_
  refine lv_iconst (v := 1) hx hb dX7_next_143 (by decide) ?_
  refine lv_icmp_ne (tgt := 152) hx hb dX7_next_144 (by decide) (fun c1 => ?_) (fun c1 => ?_)
  · have h := it_neg h c1
    refine lv_bipush (v := 57) hx hb dX7_next_152 (by decide) ?_
    exact w_X7_next_154 O hr hlk _ _ _ h _ _ _ hH (lv_sub hl [1, 0] rfl)
  · have h := it_pos h c1
    refine lv_bipush (v := 122) hx hb dX7_next_147 (by decide) ?_
    refine lv_goto (tgt := 154) hx hb dX7_next_149 (by decide) ?_
    exact w_X7_next_154 O hr hlk _ _ _ h _ _ _ hH (lv_sub hl [1, 0] rfl)
set_option maxHeartbeats 4000000 in
theorem w_X7_next_123 {G : va_G} {tA : Nat → ClassId} {z : Nat} {E : Ex} {p : Program} {l : Launch} {e : Env} {s : State} {m : MethodId} {args : Array Value} {below : List Frame} {meth : Method} {c : Code} {D' : Dm} (O : Ok G tA z E cX7_next RX7 4 p s m args c) (hr : meth.sig.returnType = none) (hlk : meth.locks = false)  (D : Dm) (h : f_X7_next_123  D = some D') : BV G tA z E p l e (rmC 1 0 0) s m args below meth c LAY D D' 4 123 [(0, .ref (z + 1))] [] := by
  obtain ⟨hx, hb, -, hown, hts, -⟩ := id O
  unfold f_X7_next_123 at h
  intro H locs ls hH hl
  refine lv_aload_n hx hb dX7_next_123 rfl (lv_at hl 0 rfl) ?_
  refine h_geti O hH ly_1 rfl fl_X7_43 dX7_next_124 ?_
  refine lv_iconst (v := 1) hx hb dX7_next_127 (by decide) ?_
  refine lv_icmp_ne (tgt := 136) hx hb dX7_next_128 (by decide) (fun c1 => ?_) (fun c1 => ?_)
  · have h := it_neg h c1
    refine lv_bipush (v := 48) hx hb dX7_next_136 (by decide) ?_
    exact w_X7_next_138 O hr hlk _ _ h _ _ _ hH (lv_sub hl [0] rfl)
  · have h := it_pos h c1
    refine lv_bipush (v := 97) hx hb dX7_next_131 (by decide) ?_
    refine lv_goto (tgt := 138) hx hb dX7_next_133 (by decide) ?_
    exact w_X7_next_138 O hr hlk _ _ h _ _ _ hH (lv_sub hl [0] rfl)
set_option maxHeartbeats 4000000 in
theorem w_X7_next_106 {G : va_G} {tA : Nat → ClassId} {z : Nat} {E : Ex} {p : Program} {l : Launch} {e : Env} {s : State} {m : MethodId} {args : Array Value} {below : List Frame} {meth : Method} {c : Code} {D' : Dm} (O : Ok G tA z E cX7_next RX7 4 p s m args c) (hr : meth.sig.returnType = none) (hlk : meth.locks = false) (x1 : Int32) (D : Dm) (h : f_X7_next_106 x1 D = some D') : BV G tA z E p l e (rmC 1 0 0) s m args below meth c LAY D D' 4 106 [(0, .ref (z + 1)), (1, .int x1)] [] := by
  obtain ⟨hx, hb, -, hown, hts, -⟩ := id O
  unfold f_X7_next_106 at h
  intro H locs ls hH hl
  refine lv_iload_n hx hb dX7_next_106 rfl (lv_at hl 1 rfl) ?_
  refine lv_bipush (v := 48) hx hb dX7_next_107 (by decide) ?_
  refine lv_icmp_lt (tgt := 123) hx hb dX7_next_109 (by decide) (fun c1 => ?_) (fun c1 => ?_)
  · have h := it_pos h c1
    exact w_X7_next_123 O hr hlk _ h _ _ _ hH (lv_sub hl [0] rfl)
  · have h := it_neg h c1
    refine lv_iload_n hx hb dX7_next_112 rfl (lv_at hl 1 rfl) ?_
    refine lv_bipush (v := 57) hx hb dX7_next_113 (by decide) ?_
    refine lv_icmp_gt (tgt := 123) hx hb dX7_next_115 (by decide) (fun c2 => ?_) (fun c2 => ?_)
    · have h := it_pos h c2
      exact w_X7_next_123 O hr hlk _ h _ _ _ hH (lv_sub hl [0] rfl)
    · have h := it_neg h c2
      refine lv_aload_n hx hb dX7_next_118 rfl (lv_at hl 0 rfl) ?_
      refine lv_iconst (v := 2) hx hb dX7_next_119 (by decide) ?_
      obtain ⟨D3, e4, h⟩ := lt_some h
      refine h_puti O hH ly_1 rfl fl_X7_43 e4 dX7_next_120 (fun H locs hH => ?_)
      exact w_X7_next_123 O hr hlk _ h _ _ _ hH (lv_sub hl [0] rfl)
set_option maxHeartbeats 4000000 in
theorem w_X7_next_46 {G : va_G} {tA : Nat → ClassId} {z : Nat} {E : Ex} {p : Program} {l : Launch} {e : Env} {s : State} {m : MethodId} {args : Array Value} {below : List Frame} {meth : Method} {c : Code} {D' : Dm} (O : Ok G tA z E cX7_next RX7 4 p s m args c) (hr : meth.sig.returnType = none) (hlk : meth.locks = false)  (D : Dm) (h : f_X7_next_46  D = some D') : BV G tA z E p l e (rmC 1 0 0) s m args below meth c LAY D D' 4 46 [(0, .ref (z + 1))] [] := by
  obtain ⟨hx, hb, -, hown, hts, -⟩ := id O
  unfold f_X7_next_46 at h
  intro H locs ls hH hl
  refine lv_aload_n hx hb dX7_next_46 rfl (lv_at hl 0 rfl) ?_
  refine lv_aload_n hx hb dX7_next_47 rfl (lv_at hl 0 rfl) ?_
  refine h_geti O hH ly_1 rfl fl_X7_40 dX7_next_48 ?_
  obtain ⟨D1, e2, h⟩ := lt_some h
  refine h_puti O hH ly_1 rfl fl_X7_31 e2 dX7_next_51 (fun H locs hH => ?_)
  refine lv_aload_n hx hb dX7_next_54 rfl (lv_at hl 0 rfl) ?_
  refine h_geti O hH ly_1 rfl fl_X7_40 dX7_next_55 ?_
  refine lv_aload_n hx hb dX7_next_58 rfl (lv_at hl 0 rfl) ?_
  refine h_geti O hH ly_1 rfl fl_X7_28 dX7_next_59 ?_
  refine lv_icmp_lt (tgt := 71) hx hb dX7_next_62 (by decide) (fun c3 => ?_) (fun c3 => ?_)
  · have h := it_pos h c3
    refine lv_aload_n hx hb dX7_next_71 rfl (lv_at hl 0 rfl) ?_
    refine h_getr O hH ly_1 rfl fl_X7_9 dX7_next_72 ?_
    refine lv_aload_n hx hb dX7_next_75 rfl (lv_at hl 0 rfl) ?_
    refine h_geti O hH ly_1 rfl fl_X7_40 dX7_next_76 ?_
    obtain ⟨g4, h⟩ := gd_some h
    refine h_iald O hH ly_2 g4 dX7_next_79 ?_
    refine lv_topi (fun y5 e6 => ?_)
    have h := lt_at e6 h
    refine lv_istore_n (lv' := [(1, .int y5), (0, .ref (z + 1))]) hx hb dX7_next_80 rfl hl (by decide) rfl (fun ls hl => ?_)
    refine lv_aload_n hx hb dX7_next_81 rfl (lv_at hl 1 rfl) ?_
    refine lv_iconst (v := 3) hx hb dX7_next_82 (by decide) ?_
    obtain ⟨D7, e8, h⟩ := lt_some h
    refine h_puti O hH ly_1 rfl fl_X7_43 e8 dX7_next_83 (fun H locs hH => ?_)
    refine lv_iload_n hx hb dX7_next_86 rfl (lv_at hl 0 rfl) ?_
    refine lv_bipush (v := 97) hx hb dX7_next_87 (by decide) ?_
    refine lv_icmp_lt (tgt := 106) hx hb dX7_next_89 (by decide) (fun c9 => ?_) (fun c9 => ?_)
    · have h := it_pos h c9
      exact w_X7_next_106 O hr hlk _ _ h _ _ _ hH (lv_sub hl [1, 0] rfl)
    · have h := it_neg h c9
      refine lv_iload_n hx hb dX7_next_92 rfl (lv_at hl 0 rfl) ?_
      refine lv_bipush (v := 122) hx hb dX7_next_93 (by decide) ?_
      refine lv_icmp_gt (tgt := 106) hx hb dX7_next_95 (by decide) (fun c10 => ?_) (fun c10 => ?_)
      · have h := it_pos h c10
        exact w_X7_next_106 O hr hlk _ _ h _ _ _ hH (lv_sub hl [1, 0] rfl)
      · have h := it_neg h c10
        refine lv_aload_n hx hb dX7_next_98 rfl (lv_at hl 1 rfl) ?_
        refine lv_iconst (v := 1) hx hb dX7_next_99 (by decide) ?_
        obtain ⟨D11, e12, h⟩ := lt_some h
        refine h_puti O hH ly_1 rfl fl_X7_43 e12 dX7_next_100 (fun H locs hH => ?_)
        refine lv_goto (tgt := 123) hx hb dX7_next_103 (by decide) ?_
        exact w_X7_next_123 O hr hlk _ h _ _ _ hH (lv_sub hl [1] rfl)
  · have h := it_neg h c3
    refine lv_aload_n hx hb dX7_next_65 rfl (lv_at hl 0 rfl) ?_
    refine lv_iconst (v := 0) hx hb dX7_next_66 (by decide) ?_
    obtain ⟨D13, e14, h⟩ := lt_some h
    refine h_puti O hH ly_1 rfl fl_X7_43 e14 dX7_next_67 (fun H locs hH => ?_)
    obtain rfl := ret_v h
    exact h_vret O hr hlk hH dX7_next_70
set_option maxHeartbeats 4000000 in
theorem w_X7_next_8_b {G : va_G} {tA : Nat → ClassId} {z : Nat} {E : Ex} {p : Program} {l : Launch} {e : Env} {s : State} {m : MethodId} {args : Array Value} {below : List Frame} {meth : Method} {c : Code} {D' : Dm} (O : Ok G tA z E cX7_next RX7 4 p s m args c) (hr : meth.sig.returnType = none) (hlk : meth.locks = false) {k8 : Dm → Option Dm} (hk8 : ∀  (D : Dm), k8  D = some D' → BV G tA z E p l e (rmC 1 0 0) s m args below meth c LAY D D' 4 8 [(0, .ref (z + 1))] [])  (D : Dm) (h : f_X7_next_8_b k8  D = some D') : BV G tA z E p l e (rmC 1 0 0) s m args below meth c LAY D D' 4 8 [(0, .ref (z + 1))] [] := by
  obtain ⟨hx, hb, -, hown, hts, -⟩ := id O
  unfold f_X7_next_8_b at h
  intro H locs ls hH hl
  refine lv_aload_n hx hb dX7_next_8 rfl (lv_at hl 0 rfl) ?_
  refine h_geti O hH ly_1 rfl fl_X7_40 dX7_next_9 ?_
  refine lv_aload_n hx hb dX7_next_12 rfl (lv_at hl 0 rfl) ?_
  refine h_geti O hH ly_1 rfl fl_X7_28 dX7_next_13 ?_
  refine lv_icmp_ge (tgt := 46) hx hb dX7_next_16 (by decide) (fun c1 => ?_) (fun c1 => ?_)
  · have h := it_pos h c1
    exact w_X7_next_46 O hr hlk _ h _ _ _ hH (lv_sub hl [0] rfl)
  · have h := it_neg h c1
    refine lv_aload_n hx hb dX7_next_19 rfl (lv_at hl 0 rfl) ?_
    refine h_getr O hH ly_1 rfl fl_X7_9 dX7_next_20 ?_
    refine lv_aload_n hx hb dX7_next_23 rfl (lv_at hl 0 rfl) ?_
    refine h_geti O hH ly_1 rfl fl_X7_40 dX7_next_24 ?_
    obtain ⟨g2, h⟩ := gd_some h
    refine h_iald O hH ly_2 g2 dX7_next_27 ?_
    refine lv_bipush (v := 32) hx hb dX7_next_28 (by decide) ?_
    refine lv_icmp_ne (tgt := 46) hx hb dX7_next_30 (by decide) (fun c3 => ?_) (fun c3 => ?_)
    · have h := it_neg h c3
      exact w_X7_next_46 O hr hlk _ h _ _ _ hH (lv_sub hl [0] rfl)
    · have h := it_pos h c3
      refine lv_aload_n hx hb dX7_next_33 rfl (lv_at hl 0 rfl) ?_
      refine lv_dup hx hb dX7_next_34 rfl ?_
      refine h_geti O hH ly_1 rfl fl_X7_40 dX7_next_35 ?_
      refine lv_iconst (v := 1) hx hb dX7_next_38 (by decide) ?_
      refine lv_iadd hx hb dX7_next_39 ?_
      obtain ⟨D4, e5, h⟩ := lt_some h
      refine h_puti O hH ly_1 rfl fl_X7_40 e5 dX7_next_40 (fun H locs hH => ?_)
      refine lv_goto (tgt := 8) hx hb dX7_next_43 (by decide) ?_
      exact hk8 _ h _ _ _ hH (lv_sub hl [0] rfl)
set_option maxHeartbeats 4000000 in
theorem w_X7_next_8 {G : va_G} {tA : Nat → ClassId} {z : Nat} {E : Ex} {p : Program} {l : Launch} {e : Env} {s : State} {m : MethodId} {args : Array Value} {below : List Frame} {meth : Method} {c : Code} {D' : Dm} (O : Ok G tA z E cX7_next RX7 4 p s m args c) (hr : meth.sig.returnType = none) (hlk : meth.locks = false) : ∀ (n : Nat)  (D : Dm) (h : f_X7_next_8 n  D = some D'), BV G tA z E p l e (rmC 1 0 0) s m args below meth c LAY D D' 4 8 [(0, .ref (z + 1))] [] := by
  intro n
  induction n with
  | zero => intro  D h; exact no_some h
  | succ n ih => intro  D h; exact w_X7_next_8_b O hr hlk (fun  D h => ih  D h)  D h
set_option maxHeartbeats 4000000 in
theorem w_X7_next {G : va_G} {tA : Nat → ClassId} {z : Nat} {E : Ex} {p : Program} {l : Launch} {e : Env} {s : State} {m : MethodId} {args : Array Value} {below : List Frame} {meth : Method} {c : Code} {D' : Dm} (O : Ok G tA z E cX7_next RX7 4 p s m args c) (hr : meth.sig.returnType = none) (hlk : meth.locks = false)  (D : Dm) (h : f_X7_next  D = some D') : BV G tA z E p l e (rmC 1 0 0) s m args below meth c LAY D D' 4 0 [(0, .ref (z + 1))] [] := by
  obtain ⟨hx, hb, -, hown, hts, -⟩ := id O
  unfold f_X7_next at h
  intro H locs ls hH hl
  refine lv_aload_n hx hb dX7_next_0 rfl (lv_at hl 0 rfl) ?_
  refine lv_aload_n hx hb dX7_next_1 rfl (lv_at hl 0 rfl) ?_
  refine h_geti O hH ly_1 rfl fl_X7_31 dX7_next_2 ?_
  obtain ⟨D1, e2, h⟩ := lt_some h
  refine h_puti O hH ly_1 rfl fl_X7_40 e2 dX7_next_5 (fun H locs hH => ?_)
  exact w_X7_next_8 O hr hlk FU _ h _ _ _ hH (lv_sub hl [0] rfl)
set_option maxHeartbeats 4000000 in
theorem c_X7_next {l : Launch} {G : va_G} {tA : Nat → ClassId} {z : Nat} {E : Ex}  {D D' : Dm} (h : f_X7_next  D = some D') : CtV l yX7_next cX7_next 4 G tA z E 1 0 0 [.ref (z + 1)] LAY D LAY D' :=
  ct_BV (by decide +kernel) (Nat.le_of_ble_eq_true rfl) (fun _ _ _ _ _ _ _ _ O hr hlk => w_X7_next O hr hlk  _ h)
set_option maxHeartbeats 4000000 in
theorem w_X7_skip_75 {G : va_G} {tA : Nat → ClassId} {z : Nat} {E : Ex} {p : Program} {l : Launch} {e : Env} {s : State} {m : MethodId} {args : Array Value} {below : List Frame} {meth : Method} {c : Code} {r : Int32} {D' : Dm} (O : Ok G tA z E cX7_skip RX7 3 p s m args c) (hr : meth.sig.returnType = some .boolean) (hlk : meth.locks = false)  (D : Dm) (h : f_X7_skip_75  D = some (r, D')) : BI G tA z E p l e (rmC 5 0 0) s m args below meth c LAY D r D' 3 75 [(0, .ref (z + 1))] [] := by
  obtain ⟨hx, hb, -, hown, hts, -⟩ := id O
  unfold f_X7_skip_75 at h
  intro H locs ls hH hl
  refine lv_aload_n hx hb dX7_skip_75 rfl (lv_at hl 0 rfl) ?_
  obtain ⟨D1, hc2, h⟩ := bV_some h
  refine h_callVv (As := []) (rest := []) O hH (c_X7_next hc2) ml_X7_37 ly_1 rfl rfl hl.1 rfl ⟨Nat.le_of_ble_eq_true rfl, Nat.le_of_ble_eq_true rfl⟩ (Nat.le_of_ble_eq_true rfl) dX7_skip_76 (fun H locs hH => ?_)
  refine lv_iconst (v := 1) hx hb dX7_skip_79 (by decide) ?_
  obtain ⟨rfl, rfl⟩ := ret_i h
  exact h_zret O hr hlk zb_1 hH dX7_skip_80
set_option maxHeartbeats 4000000 in
theorem w_X7_skip_27_b {G : va_G} {tA : Nat → ClassId} {z : Nat} {E : Ex} {p : Program} {l : Launch} {e : Env} {s : State} {m : MethodId} {args : Array Value} {below : List Frame} {meth : Method} {c : Code} {r : Int32} {D' : Dm} (O : Ok G tA z E cX7_skip RX7 3 p s m args c) (hr : meth.sig.returnType = some .boolean) (hlk : meth.locks = false) {k27 : Nat → Int32 → Dm → Option (Int32 × Dm)} (hk27 : ∀ (x1 : Nat) (x2 : Int32) (hx1 : x1 < 14) (D : Dm), k27 x1 x2 D = some (r, D') → BI G tA z E p l e (rmC 5 0 0) s m args below meth c LAY D r D' 3 27 [(0, .ref (z + 1)), (1, .ref (E.1 x1)), (2, .int x2)] []) (x1 : Nat) (x2 : Int32) (hx1 : x1 < 14) (D : Dm) (h : f_X7_skip_27_b k27 x1 x2 D = some (r, D')) : BI G tA z E p l e (rmC 5 0 0) s m args below meth c LAY D r D' 3 27 [(0, .ref (z + 1)), (1, .ref (E.1 x1)), (2, .int x2)] [] := by
  obtain ⟨hx, hb, -, hown, hts, -⟩ := id O
  unfold f_X7_skip_27_b at h
  intro H locs ls hH hl
  refine lv_iload_n hx hb dX7_skip_27 rfl (lv_at hl 2 rfl) ?_
  refine lv_aload_n hx hb dX7_skip_28 rfl (lv_at hl 1 rfl) ?_
  refine h_slen (rest := [.int x2]) O hH hl.1 hx1 mj_X7_46 ⟨Nat.le_of_ble_eq_true rfl, Nat.le_of_ble_eq_true rfl⟩ (Nat.le_of_ble_eq_true rfl) dX7_skip_29 (fun H locs hH => ?_)
  refine lv_icmp_ge (tgt := 75) hx hb dX7_skip_32 (by decide) (fun c1 => ?_) (fun c1 => ?_)
  · have h := it_pos h c1
    exact w_X7_skip_75 O hr hlk _ h _ _ _ hH (lv_sub hl [0] rfl)
  · have h := it_neg h c1
    refine lv_aload_n hx hb dX7_skip_35 rfl (lv_at hl 0 rfl) ?_
    refine h_geti O hH ly_1 rfl fl_X7_40 dX7_skip_36 ?_
    refine lv_iload_n hx hb dX7_skip_39 rfl (lv_at hl 2 rfl) ?_
    refine lv_iadd hx hb dX7_skip_40 ?_
    refine lv_aload_n hx hb dX7_skip_41 rfl (lv_at hl 0 rfl) ?_
    refine h_geti O hH ly_1 rfl fl_X7_28 dX7_skip_42 ?_
    refine lv_icmp_ge (tgt := 75) hx hb dX7_skip_45 (by decide) (fun c2 => ?_) (fun c2 => ?_)
    · have h := it_pos h c2
      exact w_X7_skip_75 O hr hlk _ h _ _ _ hH (lv_sub hl [0] rfl)
    · have h := it_neg h c2
      refine lv_aload_n hx hb dX7_skip_48 rfl (lv_at hl 0 rfl) ?_
      refine h_getr O hH ly_1 rfl fl_X7_9 dX7_skip_49 ?_
      refine lv_aload_n hx hb dX7_skip_52 rfl (lv_at hl 0 rfl) ?_
      refine h_geti O hH ly_1 rfl fl_X7_40 dX7_skip_53 ?_
      refine lv_iload_n hx hb dX7_skip_56 rfl (lv_at hl 2 rfl) ?_
      refine lv_iadd hx hb dX7_skip_57 ?_
      obtain ⟨g3, h⟩ := gd_some h
      refine h_iald O hH ly_2 g3 dX7_skip_58 ?_
      refine lv_aload_n hx hb dX7_skip_59 rfl (lv_at hl 1 rfl) ?_
      refine lv_iload_n hx hb dX7_skip_60 rfl (lv_at hl 2 rfl) ?_
      obtain ⟨g4, h⟩ := gd_some h
      refine h_schr (rest := [.int (D 2 (Int32.toNatClampNeg ((D 1 4) + x2)))]) O hH hl.1 hx1 g4 mj_X7_52 ⟨Nat.le_of_ble_eq_true rfl, Nat.le_of_ble_eq_true rfl⟩ (Nat.le_of_ble_eq_true rfl) dX7_skip_61 (fun H locs hH => ?_)
      refine lv_icmp_eq (tgt := 69) hx hb dX7_skip_64 (by decide) (fun c5 => ?_) (fun c5 => ?_)
      · have h := it_pos h c5
        obtain ⟨y6, e7, h⟩ := lt_some h
        refine lv_iinc (v := y6) (lv' := [(2, .int y6), (0, .ref (z + 1)), (1, .ref (E.1 x1))]) hx hb dX7_skip_69 hl (k := 2) rfl (by rw [e7]; rfl) (by decide) rfl (fun ls hl => ?_)
        refine lv_goto (tgt := 27) hx hb dX7_skip_72 (by decide) ?_
        exact hk27 _ _ hx1 _ h _ _ _ hH (lv_sub hl [1, 2, 0] rfl)
      · have h := it_neg h c5
        refine lv_iconst (v := 0) hx hb dX7_skip_67 (by decide) ?_
        obtain ⟨rfl, rfl⟩ := ret_i h
        exact h_zret O hr hlk zb_0 hH dX7_skip_68
set_option maxHeartbeats 4000000 in
theorem w_X7_skip_27 {G : va_G} {tA : Nat → ClassId} {z : Nat} {E : Ex} {p : Program} {l : Launch} {e : Env} {s : State} {m : MethodId} {args : Array Value} {below : List Frame} {meth : Method} {c : Code} {r : Int32} {D' : Dm} (O : Ok G tA z E cX7_skip RX7 3 p s m args c) (hr : meth.sig.returnType = some .boolean) (hlk : meth.locks = false) : ∀ (n : Nat) (x1 : Nat) (x2 : Int32) (hx1 : x1 < 14) (D : Dm) (h : f_X7_skip_27 n x1 x2 D = some (r, D')), BI G tA z E p l e (rmC 5 0 0) s m args below meth c LAY D r D' 3 27 [(0, .ref (z + 1)), (1, .ref (E.1 x1)), (2, .int x2)] [] := by
  intro n
  induction n with
  | zero => intro x1 x2 hx1 D h; exact no_some h
  | succ n ih => intro x1 x2 hx1 D h; exact w_X7_skip_27_b O hr hlk (fun x1 x2 hx1 D h => ih x1 x2 hx1 D h) x1 x2 hx1 D h
set_option maxHeartbeats 4000000 in
theorem w_X7_skip {G : va_G} {tA : Nat → ClassId} {z : Nat} {E : Ex} {p : Program} {l : Launch} {e : Env} {s : State} {m : MethodId} {args : Array Value} {below : List Frame} {meth : Method} {c : Code} {r : Int32} {D' : Dm} (O : Ok G tA z E cX7_skip RX7 3 p s m args c) (hr : meth.sig.returnType = some .boolean) (hlk : meth.locks = false) (x1 : Nat) (hx1 : x1 < 14) (D : Dm) (h : f_X7_skip x1 D = some (r, D')) : BI G tA z E p l e (rmC 5 0 0) s m args below meth c LAY D r D' 3 0 [(0, .ref (z + 1)), (1, .ref (E.1 x1))] [] := by
  obtain ⟨hx, hb, -, hown, hts, -⟩ := id O
  unfold f_X7_skip at h
  intro H locs ls hH hl
  refine lv_aload_n hx hb dX7_skip_0 rfl (lv_at hl 0 rfl) ?_
  refine h_geti O hH ly_1 rfl fl_X7_34 dX7_skip_1 ?_
  refine lv_if_ne (tgt := 23) hx hb dX7_skip_4 (by decide) (fun c1 => ?_) (fun c1 => ?_)
  · have h := it_neg h c1
    refine lv_iconst (v := 0) hx hb dX7_skip_23 (by decide) ?_
    obtain ⟨rfl, rfl⟩ := ret_i h
    exact h_zret O hr hlk zb_0 hH dX7_skip_24
  · have h := it_pos h c1
    refine lv_aload_n hx hb dX7_skip_7 rfl (lv_at hl 0 rfl) ?_
    refine h_geti O hH ly_1 rfl fl_X7_31 dX7_skip_8 ?_
    refine lv_aload_n hx hb dX7_skip_11 rfl (lv_at hl 0 rfl) ?_
    refine h_geti O hH ly_1 rfl fl_X7_40 dX7_skip_12 ?_
    refine lv_isub hx hb dX7_skip_15 ?_
    refine lv_aload_n hx hb dX7_skip_16 rfl (lv_at hl 1 rfl) ?_
    refine h_slen (rest := [.int ((D 1 5) - (D 1 4))]) O hH hl.1 hx1 mj_X7_46 ⟨Nat.le_of_ble_eq_true rfl, Nat.le_of_ble_eq_true rfl⟩ (Nat.le_of_ble_eq_true rfl) dX7_skip_17 (fun H locs hH => ?_)
    refine lv_icmp_eq (tgt := 25) hx hb dX7_skip_20 (by decide) (fun c2 => ?_) (fun c2 => ?_)
    · have h := it_pos h c2
      refine lv_iconst (v := 0) hx hb dX7_skip_25 (by decide) ?_
      refine lv_istore_n (lv' := [(2, .int 0), (0, .ref (z + 1)), (1, .ref (E.1 x1))]) hx hb dX7_skip_26 rfl hl (by decide) rfl (fun ls hl => ?_)
      exact w_X7_skip_27 O hr hlk FU _ _ hx1 _ h _ _ _ hH (lv_sub hl [1, 2, 0] rfl)
    · have h := it_neg h c2
      refine lv_iconst (v := 0) hx hb dX7_skip_23 (by decide) ?_
      obtain ⟨rfl, rfl⟩ := ret_i h
      exact h_zret O hr hlk zb_0 hH dX7_skip_24
set_option maxHeartbeats 4000000 in
theorem c_X7_skip {l : Launch} {G : va_G} {tA : Nat → ClassId} {z : Nat} {E : Ex} {x1 : Nat} (hx1 : x1 < 14) {D D' : Dm} {r : Int32} (h : f_X7_skip x1 D = some (r, D')) : CtI l yX7_skip cX7_skip 3 (some .boolean) G tA z E 5 0 0 [.ref (z + 1), .ref (E.1 x1)] LAY D r LAY D' :=
  ct_BI (by decide +kernel) (Nat.le_of_ble_eq_true rfl) (fun _ _ _ _ _ _ _ _ O hr hlk => w_X7_skip O hr hlk _ hx1 _ h)
set_option maxHeartbeats 4000000 in
theorem w_X7_refuse {G : va_G} {tA : Nat → ClassId} {z : Nat} {E : Ex} {p : Program} {l : Launch} {e : Env} {s : State} {m : MethodId} {args : Array Value} {below : List Frame} {meth : Method} {c : Code} {D' : Dm} (O : Ok G tA z E cX7_refuse RX7 3 p s m args c) (hr : meth.sig.returnType = none) (hlk : meth.locks = false) (x1 : Int32) (x2 : Int32) (D : Dm) (h : f_X7_refuse x1 x2 D = some D') : BV G tA z E p l e (rmC 1 0 0) s m args below meth c LAY D D' 3 0 [(0, .ref (z + 1)), (1, .int x1), (2, .int x2)] [] := by
  obtain ⟨hx, hb, -, hown, hts, -⟩ := id O
  unfold f_X7_refuse at h
  intro H locs ls hH hl
  refine lv_aload_n hx hb dX7_refuse_0 rfl (lv_at hl 0 rfl) ?_
  refine h_geti O hH ly_1 rfl fl_X7_34 dX7_refuse_1 ?_
  refine lv_if_ne (tgt := 17) hx hb dX7_refuse_4 (by decide) (fun c1 => ?_) (fun c1 => ?_)
  · have h := it_neg h c1
    obtain rfl := ret_v h
    exact h_vret O hr hlk hH dX7_refuse_17
  · have h := it_pos h c1
    refine lv_aload_n hx hb dX7_refuse_7 rfl (lv_at hl 0 rfl) ?_
    refine lv_iload_n hx hb dX7_refuse_8 rfl (lv_at hl 1 rfl) ?_
    obtain ⟨D2, e3, h⟩ := lt_some h
    refine h_puti O hH ly_1 rfl fl_X7_34 e3 dX7_refuse_9 (fun H locs hH => ?_)
    refine lv_aload_n hx hb dX7_refuse_12 rfl (lv_at hl 0 rfl) ?_
    refine lv_iload_n hx hb dX7_refuse_13 rfl (lv_at hl 2 rfl) ?_
    obtain ⟨D4, e5, h⟩ := lt_some h
    refine h_puti O hH ly_1 rfl fl_X7_15 e5 dX7_refuse_14 (fun H locs hH => ?_)
    obtain rfl := ret_v h
    exact h_vret O hr hlk hH dX7_refuse_17
set_option maxHeartbeats 4000000 in
theorem c_X7_refuse {l : Launch} {G : va_G} {tA : Nat → ClassId} {z : Nat} {E : Ex} {x1 : Int32} {x2 : Int32} {D D' : Dm} (h : f_X7_refuse x1 x2 D = some D') : CtV l yX7_refuse cX7_refuse 3 G tA z E 1 0 0 [.ref (z + 1), .int x1, .int x2] LAY D LAY D' :=
  ct_BV (by decide +kernel) (Nat.le_of_ble_eq_true rfl) (fun _ _ _ _ _ _ _ _ O hr hlk => w_X7_refuse O hr hlk _ _ _ h)
set_option maxHeartbeats 4000000 in
theorem w_X7_readNumber_15 {G : va_G} {tA : Nat → ClassId} {z : Nat} {E : Ex} {p : Program} {l : Launch} {e : Env} {s : State} {m : MethodId} {args : Array Value} {below : List Frame} {meth : Method} {c : Code} {r : Int32} {D' : Dm} (O : Ok G tA z E cX7_readNumber RX7 5 p s m args c) (hr : meth.sig.returnType = some .int) (hlk : meth.locks = false)  (D : Dm) (h : f_X7_readNumber_15  D = some (r, D')) : BI G tA z E p l e (rmC 2 0 0) s m args below meth c LAY D r D' 5 15 [(0, .ref (z + 1))] [] := by
  obtain ⟨hx, hb, -, hown, hts, -⟩ := id O
  unfold f_X7_readNumber_15 at h
  intro H locs ls hH hl
  refine lv_aload_n hx hb dX7_readNumber_15 rfl (lv_at hl 0 rfl) ?_
  refine lv_iconst (v := 1) hx hb dX7_readNumber_16 (by decide) ?_
  refine lv_aload_n hx hb dX7_readNumber_17 rfl (lv_at hl 0 rfl) ?_
  refine h_geti O hH ly_1 rfl fl_X7_40 dX7_readNumber_18 ?_
  obtain ⟨D1, hc2, h⟩ := bV_some h
  refine h_callVv (As := [.int 1, .int (D 1 4)]) (rest := []) O hH (c_X7_refuse hc2) ml_X7_60 ly_1 rfl rfl hl.1 rfl ⟨Nat.le_of_ble_eq_true rfl, Nat.le_of_ble_eq_true rfl⟩ (Nat.le_of_ble_eq_true rfl) dX7_readNumber_21 (fun H locs hH => ?_)
  refine lv_iconst (v := 0) hx hb dX7_readNumber_24 (by decide) ?_
  obtain ⟨rfl, rfl⟩ := ret_i h
  exact h_iret O hr hlk hH dX7_readNumber_25
set_option maxHeartbeats 4000000 in
theorem w_X7_readNumber_99 {G : va_G} {tA : Nat → ClassId} {z : Nat} {E : Ex} {p : Program} {l : Launch} {e : Env} {s : State} {m : MethodId} {args : Array Value} {below : List Frame} {meth : Method} {c : Code} {r : Int32} {D' : Dm} (O : Ok G tA z E cX7_readNumber RX7 5 p s m args c) (hr : meth.sig.returnType = some .int) (hlk : meth.locks = false)  (D : Dm) (h : f_X7_readNumber_99  D = some (r, D')) : BI G tA z E p l e (rmC 2 0 0) s m args below meth c LAY D r D' 5 99 [(0, .ref (z + 1))] [] := by
  obtain ⟨hx, hb, -, hown, hts, -⟩ := id O
  unfold f_X7_readNumber_99 at h
  intro H locs ls hH hl
  refine lv_aload_n hx hb dX7_readNumber_99 rfl (lv_at hl 0 rfl) ?_
  refine lv_iconst (v := 2) hx hb dX7_readNumber_100 (by decide) ?_
  refine lv_aload_n hx hb dX7_readNumber_101 rfl (lv_at hl 0 rfl) ?_
  refine h_geti O hH ly_1 rfl fl_X7_40 dX7_readNumber_102 ?_
  obtain ⟨D1, hc2, h⟩ := bV_some h
  refine h_callVv (As := [.int 2, .int (D 1 4)]) (rest := []) O hH (c_X7_refuse hc2) ml_X7_60 ly_1 rfl rfl hl.1 rfl ⟨Nat.le_of_ble_eq_true rfl, Nat.le_of_ble_eq_true rfl⟩ (Nat.le_of_ble_eq_true rfl) dX7_readNumber_105 (fun H locs hH => ?_)
  refine lv_iconst (v := 0) hx hb dX7_readNumber_108 (by decide) ?_
  obtain ⟨rfl, rfl⟩ := ret_i h
  exact h_iret O hr hlk hH dX7_readNumber_109
set_option maxHeartbeats 4000000 in
theorem w_X7_readNumber_76 {G : va_G} {tA : Nat → ClassId} {z : Nat} {E : Ex} {p : Program} {l : Launch} {e : Env} {s : State} {m : MethodId} {args : Array Value} {below : List Frame} {meth : Method} {c : Code} {r : Int32} {D' : Dm} (O : Ok G tA z E cX7_readNumber RX7 5 p s m args c) (hr : meth.sig.returnType = some .int) (hlk : meth.locks = false) (x1 : Int32) (x2 : Int32) (x3 : Int32) (D : Dm) (h : f_X7_readNumber_76 x1 x2 x3 D = some (r, D')) : BI G tA z E p l e (rmC 2 0 0) s m args below meth c LAY D r D' 5 76 [(0, .ref (z + 1)), (1, .int x1), (2, .int x2), (3, .int x3)] [] := by
  obtain ⟨hx, hb, -, hown, hts, -⟩ := id O
  unfold f_X7_readNumber_76 at h
  intro H locs ls hH hl
  refine lv_aload_n hx hb dX7_readNumber_76 rfl (lv_at hl 0 rfl) ?_
  refine h_geti O hH ly_1 rfl fl_X7_31 dX7_readNumber_77 ?_
  refine lv_aload_n hx hb dX7_readNumber_80 rfl (lv_at hl 0 rfl) ?_
  refine h_geti O hH ly_1 rfl fl_X7_40 dX7_readNumber_81 ?_
  refine lv_isub hx hb dX7_readNumber_84 ?_
  refine lv_iconst (v := 2) hx hb dX7_readNumber_85 (by decide) ?_
  refine lv_icmp_gt (tgt := 99) hx hb dX7_readNumber_86 (by decide) (fun c1 => ?_) (fun c1 => ?_)
  · have h := it_pos h c1
    exact w_X7_readNumber_99 O hr hlk _ h _ _ _ hH (lv_sub hl [0] rfl)
  · have h := it_neg h c1
    refine lv_iload_n hx hb dX7_readNumber_89 rfl (lv_at hl 3 rfl) ?_
    refine lv_iload_n hx hb dX7_readNumber_90 rfl (lv_at hl 1 rfl) ?_
    refine lv_icmp_lt (tgt := 99) hx hb dX7_readNumber_91 (by decide) (fun c2 => ?_) (fun c2 => ?_)
    · have h := it_pos h c2
      exact w_X7_readNumber_99 O hr hlk _ h _ _ _ hH (lv_sub hl [0] rfl)
    · have h := it_neg h c2
      refine lv_iload_n hx hb dX7_readNumber_94 rfl (lv_at hl 3 rfl) ?_
      refine lv_iload_n hx hb dX7_readNumber_95 rfl (lv_at hl 2 rfl) ?_
      refine lv_icmp_le (tgt := 110) hx hb dX7_readNumber_96 (by decide) (fun c3 => ?_) (fun c3 => ?_)
      · have h := it_pos h c3
        refine lv_aload_n hx hb dX7_readNumber_110 rfl (lv_at hl 0 rfl) ?_
        obtain ⟨D4, hc5, h⟩ := bV_some h
        refine h_callVv (As := []) (rest := []) O hH (c_X7_next hc5) ml_X7_37 ly_1 rfl rfl hl.1 rfl ⟨Nat.le_of_ble_eq_true rfl, Nat.le_of_ble_eq_true rfl⟩ (Nat.le_of_ble_eq_true rfl) dX7_readNumber_111 (fun H locs hH => ?_)
        refine lv_iload_n hx hb dX7_readNumber_114 rfl (lv_at hl 3 rfl) ?_
        obtain ⟨rfl, rfl⟩ := ret_i h
        exact h_iret O hr hlk hH dX7_readNumber_115
      · have h := it_neg h c3
        exact w_X7_readNumber_99 O hr hlk _ h _ _ _ hH (lv_sub hl [0] rfl)
set_option maxHeartbeats 4000000 in
theorem w_X7_readNumber_34_b {G : va_G} {tA : Nat → ClassId} {z : Nat} {E : Ex} {p : Program} {l : Launch} {e : Env} {s : State} {m : MethodId} {args : Array Value} {below : List Frame} {meth : Method} {c : Code} {r : Int32} {D' : Dm} (O : Ok G tA z E cX7_readNumber RX7 5 p s m args c) (hr : meth.sig.returnType = some .int) (hlk : meth.locks = false) {k34 : Int32 → Int32 → Int32 → Int32 → Dm → Option (Int32 × Dm)} (hk34 : ∀ (x1 : Int32) (x2 : Int32) (x3 : Int32) (x4 : Int32) (D : Dm), k34 x1 x2 x3 x4 D = some (r, D') → BI G tA z E p l e (rmC 2 0 0) s m args below meth c LAY D r D' 5 34 [(0, .ref (z + 1)), (1, .int x1), (2, .int x2), (3, .int x3), (4, .int x4)] []) (x1 : Int32) (x2 : Int32) (x3 : Int32) (x4 : Int32) (D : Dm) (h : f_X7_readNumber_34_b k34 x1 x2 x3 x4 D = some (r, D')) : BI G tA z E p l e (rmC 2 0 0) s m args below meth c LAY D r D' 5 34 [(0, .ref (z + 1)), (1, .int x1), (2, .int x2), (3, .int x3), (4, .int x4)] [] := by
  obtain ⟨hx, hb, -, hown, hts, -⟩ := id O
  unfold f_X7_readNumber_34_b at h
  intro H locs ls hH hl
  refine lv_iload hx hb dX7_readNumber_34 (lv_at hl 4 rfl) ?_
  refine lv_aload_n hx hb dX7_readNumber_36 rfl (lv_at hl 0 rfl) ?_
  refine h_geti O hH ly_1 rfl fl_X7_31 dX7_readNumber_37 ?_
  refine lv_icmp_ge (tgt := 76) hx hb dX7_readNumber_40 (by decide) (fun c1 => ?_) (fun c1 => ?_)
  · have h := it_pos h c1
    exact w_X7_readNumber_76 O hr hlk _ _ _ _ h _ _ _ hH (lv_sub hl [0, 1, 2, 3] rfl)
  · have h := it_neg h c1
    refine lv_iload hx hb dX7_readNumber_43 (lv_at hl 4 rfl) ?_
    refine lv_aload_n hx hb dX7_readNumber_45 rfl (lv_at hl 0 rfl) ?_
    refine h_geti O hH ly_1 rfl fl_X7_40 dX7_readNumber_46 ?_
    refine lv_iconst (v := 3) hx hb dX7_readNumber_49 (by decide) ?_
    refine lv_iadd hx hb dX7_readNumber_50 ?_
    refine lv_icmp_ge (tgt := 76) hx hb dX7_readNumber_51 (by decide) (fun c2 => ?_) (fun c2 => ?_)
    · have h := it_pos h c2
      exact w_X7_readNumber_76 O hr hlk _ _ _ _ h _ _ _ hH (lv_sub hl [0, 1, 2, 3] rfl)
    · have h := it_neg h c2
      refine lv_iload_n hx hb dX7_readNumber_54 rfl (lv_at hl 3 rfl) ?_
      refine lv_bipush (v := 10) hx hb dX7_readNumber_55 (by decide) ?_
      refine lv_imul hx hb dX7_readNumber_57 ?_
      refine lv_aload_n hx hb dX7_readNumber_58 rfl (lv_at hl 0 rfl) ?_
      refine h_getr O hH ly_1 rfl fl_X7_9 dX7_readNumber_59 ?_
      refine lv_iload hx hb dX7_readNumber_62 (lv_at hl 4 rfl) ?_
      obtain ⟨g3, h⟩ := gd_some h
      refine h_iald O hH ly_2 g3 dX7_readNumber_64 ?_
      refine lv_iadd hx hb dX7_readNumber_65 ?_
      refine lv_bipush (v := 48) hx hb dX7_readNumber_66 (by decide) ?_
      refine lv_isub hx hb dX7_readNumber_68 ?_
      refine lv_topi (fun y4 e5 => ?_)
      have h := lt_at e5 h
      refine lv_istore_n (lv' := [(3, .int y4), (0, .ref (z + 1)), (1, .int x1), (2, .int x2), (4, .int x4)]) hx hb dX7_readNumber_69 rfl hl (by decide) rfl (fun ls hl => ?_)
      obtain ⟨y6, e7, h⟩ := lt_some h
      refine lv_iinc (v := y6) (lv' := [(4, .int y6), (3, .int y4), (0, .ref (z + 1)), (1, .int x1), (2, .int x2)]) hx hb dX7_readNumber_70 hl (k := 4) rfl (by rw [e7]; rfl) (by decide) rfl (fun ls hl => ?_)
      refine lv_goto (tgt := 34) hx hb dX7_readNumber_73 (by decide) ?_
      exact hk34 _ _ _ _ _ h _ _ _ hH (lv_sub hl [2, 3, 4, 1, 0] rfl)
set_option maxHeartbeats 4000000 in
theorem w_X7_readNumber_34 {G : va_G} {tA : Nat → ClassId} {z : Nat} {E : Ex} {p : Program} {l : Launch} {e : Env} {s : State} {m : MethodId} {args : Array Value} {below : List Frame} {meth : Method} {c : Code} {r : Int32} {D' : Dm} (O : Ok G tA z E cX7_readNumber RX7 5 p s m args c) (hr : meth.sig.returnType = some .int) (hlk : meth.locks = false) : ∀ (n : Nat) (x1 : Int32) (x2 : Int32) (x3 : Int32) (x4 : Int32) (D : Dm) (h : f_X7_readNumber_34 n x1 x2 x3 x4 D = some (r, D')), BI G tA z E p l e (rmC 2 0 0) s m args below meth c LAY D r D' 5 34 [(0, .ref (z + 1)), (1, .int x1), (2, .int x2), (3, .int x3), (4, .int x4)] [] := by
  intro n
  induction n with
  | zero => intro x1 x2 x3 x4 D h; exact no_some h
  | succ n ih => intro x1 x2 x3 x4 D h; exact w_X7_readNumber_34_b O hr hlk (fun x1 x2 x3 x4 D h => ih x1 x2 x3 x4 D h) x1 x2 x3 x4 D h
set_option maxHeartbeats 4000000 in
theorem w_X7_readNumber {G : va_G} {tA : Nat → ClassId} {z : Nat} {E : Ex} {p : Program} {l : Launch} {e : Env} {s : State} {m : MethodId} {args : Array Value} {below : List Frame} {meth : Method} {c : Code} {r : Int32} {D' : Dm} (O : Ok G tA z E cX7_readNumber RX7 5 p s m args c) (hr : meth.sig.returnType = some .int) (hlk : meth.locks = false) (x1 : Int32) (x2 : Int32) (D : Dm) (h : f_X7_readNumber x1 x2 D = some (r, D')) : BI G tA z E p l e (rmC 2 0 0) s m args below meth c LAY D r D' 5 0 [(0, .ref (z + 1)), (1, .int x1), (2, .int x2)] [] := by
  obtain ⟨hx, hb, -, hown, hts, -⟩ := id O
  unfold f_X7_readNumber at h
  intro H locs ls hH hl
  refine lv_aload_n hx hb dX7_readNumber_0 rfl (lv_at hl 0 rfl) ?_
  refine h_geti O hH ly_1 rfl fl_X7_34 dX7_readNumber_1 ?_
  refine lv_if_ne (tgt := 15) hx hb dX7_readNumber_4 (by decide) (fun c1 => ?_) (fun c1 => ?_)
  · have h := it_neg h c1
    exact w_X7_readNumber_15 O hr hlk _ h _ _ _ hH (lv_sub hl [0] rfl)
  · have h := it_pos h c1
    refine lv_aload_n hx hb dX7_readNumber_7 rfl (lv_at hl 0 rfl) ?_
    refine h_geti O hH ly_1 rfl fl_X7_43 dX7_readNumber_8 ?_
    refine lv_iconst (v := 2) hx hb dX7_readNumber_11 (by decide) ?_
    refine lv_icmp_eq (tgt := 26) hx hb dX7_readNumber_12 (by decide) (fun c2 => ?_) (fun c2 => ?_)
    · have h := it_pos h c2
      refine lv_iconst (v := 0) hx hb dX7_readNumber_26 (by decide) ?_
      refine lv_istore_n (lv' := [(3, .int 0), (0, .ref (z + 1)), (1, .int x1), (2, .int x2)]) hx hb dX7_readNumber_27 rfl hl (by decide) rfl (fun ls hl => ?_)
      refine lv_aload_n hx hb dX7_readNumber_28 rfl (lv_at hl 1 rfl) ?_
      refine h_geti O hH ly_1 rfl fl_X7_40 dX7_readNumber_29 ?_
      refine lv_topi (fun y3 e4 => ?_)
      have h := lt_at e4 h
      refine lv_istore (lv' := [(4, .int y3), (3, .int 0), (0, .ref (z + 1)), (1, .int x1), (2, .int x2)]) hx hb dX7_readNumber_32 hl (by decide) rfl (fun ls hl => ?_)
      exact w_X7_readNumber_34 O hr hlk FU _ _ _ _ _ h _ _ _ hH (lv_sub hl [2, 3, 4, 1, 0] rfl)
    · have h := it_neg h c2
      exact w_X7_readNumber_15 O hr hlk _ h _ _ _ hH (lv_sub hl [0] rfl)
set_option maxHeartbeats 4000000 in
theorem c_X7_readNumber {l : Launch} {G : va_G} {tA : Nat → ClassId} {z : Nat} {E : Ex} {x1 : Int32} {x2 : Int32} {D D' : Dm} {r : Int32} (h : f_X7_readNumber x1 x2 D = some (r, D')) : CtI l yX7_readNumber cX7_readNumber 5 (some .int) G tA z E 2 0 0 [.ref (z + 1), .int x1, .int x2] LAY D r LAY D' :=
  ct_BI (by decide +kernel) (Nat.le_of_ble_eq_true rfl) (fun _ _ _ _ _ _ _ _ O hr hlk => w_X7_readNumber O hr hlk _ _ _ h)
set_option maxHeartbeats 4000000 in
theorem w_X7_readSymbol_27 {G : va_G} {tA : Nat → ClassId} {z : Nat} {E : Ex} {p : Program} {l : Launch} {e : Env} {s : State} {m : MethodId} {args : Array Value} {below : List Frame} {meth : Method} {c : Code} {r : Int32} {D' : Dm} (O : Ok G tA z E cX7_readSymbol RX7 2 p s m args c) (hr : meth.sig.returnType = some .int) (hlk : meth.locks = false)  (D : Dm) (h : f_X7_readSymbol_27  D = some (r, D')) : BI G tA z E p l e (rmC 6 0 0) s m args below meth c LAY D r D' 2 27 [(0, .ref (z + 1))] [] := by
  obtain ⟨hx, hb, -, hown, hts, -⟩ := id O
  unfold f_X7_readSymbol_27 at h
  intro H locs ls hH hl
  refine lv_aload_n hx hb dX7_readSymbol_27 rfl (lv_at hl 0 rfl) ?_
  refine lv_iconst (v := 1) hx hb dX7_readSymbol_28 (by decide) ?_
  refine lv_aload_n hx hb dX7_readSymbol_29 rfl (lv_at hl 0 rfl) ?_
  refine h_geti O hH ly_1 rfl fl_X7_40 dX7_readSymbol_30 ?_
  obtain ⟨D1, hc2, h⟩ := bV_some h
  refine h_callVv (As := [.int 1, .int (D 1 4)]) (rest := []) O hH (c_X7_refuse hc2) ml_X7_60 ly_1 rfl rfl hl.1 rfl ⟨Nat.le_of_ble_eq_true rfl, Nat.le_of_ble_eq_true rfl⟩ (Nat.le_of_ble_eq_true rfl) dX7_readSymbol_33 (fun H locs hH => ?_)
  refine lv_iconst (v := 0) hx hb dX7_readSymbol_36 (by decide) ?_
  obtain ⟨rfl, rfl⟩ := ret_i h
  exact h_iret O hr hlk hH dX7_readSymbol_37
set_option maxHeartbeats 4000000 in
theorem w_X7_readSymbol {G : va_G} {tA : Nat → ClassId} {z : Nat} {E : Ex} {p : Program} {l : Launch} {e : Env} {s : State} {m : MethodId} {args : Array Value} {below : List Frame} {meth : Method} {c : Code} {r : Int32} {D' : Dm} (O : Ok G tA z E cX7_readSymbol RX7 2 p s m args c) (hr : meth.sig.returnType = some .int) (hlk : meth.locks = false) (x1 : Int32) (D : Dm) (h : f_X7_readSymbol x1 D = some (r, D')) : BI G tA z E p l e (rmC 6 0 0) s m args below meth c LAY D r D' 2 0 [(0, .ref (z + 1)), (1, .int x1)] [] := by
  obtain ⟨hx, hb, -, hown, hts, -⟩ := id O
  unfold f_X7_readSymbol at h
  intro H locs ls hH hl
  refine lv_aload_n hx hb dX7_readSymbol_0 rfl (lv_at hl 0 rfl) ?_
  refine h_ldcs (k := 5) O rfl dX7_readSymbol_1 ?_
  obtain ⟨y3, D1, hc2, h⟩ := bI_some h
  refine h_callVi (As := [.ref (E.1 5)]) (rest := []) O hH (c_X7_skip (by decide) hc2) ml_X7_56 ly_1 rfl rfl hl.1 rfl ⟨Nat.le_of_ble_eq_true rfl, Nat.le_of_ble_eq_true rfl⟩ (Nat.le_of_ble_eq_true rfl) dX7_readSymbol_3 (fun H locs hH => ?_)
  refine lv_if_eq (tgt := 11) hx hb dX7_readSymbol_6 (by decide) (fun c4 => ?_) (fun c4 => ?_)
  · have h := it_pos h c4
    refine lv_iload_n hx hb dX7_readSymbol_11 rfl (lv_at hl 1 rfl) ?_
    refine lv_iconst (v := 1) hx hb dX7_readSymbol_12 (by decide) ?_
    refine lv_icmp_le (tgt := 27) hx hb dX7_readSymbol_13 (by decide) (fun c5 => ?_) (fun c5 => ?_)
    · have h := it_pos h c5
      exact w_X7_readSymbol_27 O hr hlk _ h _ _ _ hH (lv_sub hl [0] rfl)
    · have h := it_neg h c5
      refine lv_aload_n hx hb dX7_readSymbol_16 rfl (lv_at hl 0 rfl) ?_
      refine h_ldcs (k := 6) O rfl dX7_readSymbol_17 ?_
      obtain ⟨y8, D6, hc7, h⟩ := bI_some h
      refine h_callVi (As := [.ref (E.1 6)]) (rest := []) O hH (c_X7_skip (by decide) hc7) ml_X7_56 ly_1 rfl rfl hl.1 rfl ⟨Nat.le_of_ble_eq_true rfl, Nat.le_of_ble_eq_true rfl⟩ (Nat.le_of_ble_eq_true rfl) dX7_readSymbol_19 (fun H locs hH => ?_)
      refine lv_if_eq (tgt := 27) hx hb dX7_readSymbol_22 (by decide) (fun c9 => ?_) (fun c9 => ?_)
      · have h := it_pos h c9
        exact w_X7_readSymbol_27 O hr hlk _ h _ _ _ hH (lv_sub hl [0] rfl)
      · have h := it_neg h c9
        refine lv_iconst (v := 1) hx hb dX7_readSymbol_25 (by decide) ?_
        obtain ⟨rfl, rfl⟩ := ret_i h
        exact h_iret O hr hlk hH dX7_readSymbol_26
  · have h := it_neg h c4
    refine lv_iconst (v := 0) hx hb dX7_readSymbol_9 (by decide) ?_
    obtain ⟨rfl, rfl⟩ := ret_i h
    exact h_iret O hr hlk hH dX7_readSymbol_10
set_option maxHeartbeats 4000000 in
theorem c_X7_readSymbol {l : Launch} {G : va_G} {tA : Nat → ClassId} {z : Nat} {E : Ex} {x1 : Int32} {D D' : Dm} {r : Int32} (h : f_X7_readSymbol x1 D = some (r, D')) : CtI l yX7_readSymbol cX7_readSymbol 2 (some .int) G tA z E 6 0 0 [.ref (z + 1), .int x1] LAY D r LAY D' :=
  ct_BI (by decide +kernel) (Nat.le_of_ble_eq_true rfl) (fun _ _ _ _ _ _ _ _ O hr hlk => w_X7_readSymbol O hr hlk _ _ h)
set_option maxHeartbeats 4000000 in
theorem w_X7_expect {G : va_G} {tA : Nat → ClassId} {z : Nat} {E : Ex} {p : Program} {l : Launch} {e : Env} {s : State} {m : MethodId} {args : Array Value} {below : List Frame} {meth : Method} {c : Code} {D' : Dm} (O : Ok G tA z E cX7_expect RX7 2 p s m args c) (hr : meth.sig.returnType = none) (hlk : meth.locks = false) (x1 : Nat) (hx1 : x1 < 14) (D : Dm) (h : f_X7_expect x1 D = some D') : BV G tA z E p l e (rmC 6 0 0) s m args below meth c LAY D D' 2 0 [(0, .ref (z + 1)), (1, .ref (E.1 x1))] [] := by
  obtain ⟨hx, hb, -, hown, hts, -⟩ := id O
  unfold f_X7_expect at h
  intro H locs ls hH hl
  refine lv_aload_n hx hb dX7_expect_0 rfl (lv_at hl 0 rfl) ?_
  refine lv_aload_n hx hb dX7_expect_1 rfl (lv_at hl 1 rfl) ?_
  obtain ⟨y3, D1, hc2, h⟩ := bI_some h
  refine h_callVi (As := [.ref (E.1 x1)]) (rest := []) O hH (c_X7_skip hx1 hc2) ml_X7_56 ly_1 rfl rfl hl.1 rfl ⟨Nat.le_of_ble_eq_true rfl, Nat.le_of_ble_eq_true rfl⟩ (Nat.le_of_ble_eq_true rfl) dX7_expect_2 (fun H locs hH => ?_)
  refine lv_if_ne (tgt := 17) hx hb dX7_expect_5 (by decide) (fun c4 => ?_) (fun c4 => ?_)
  · have h := it_neg h c4
    obtain rfl := ret_v h
    exact h_vret O hr hlk hH dX7_expect_17
  · have h := it_pos h c4
    refine lv_aload_n hx hb dX7_expect_8 rfl (lv_at hl 0 rfl) ?_
    refine lv_iconst (v := 1) hx hb dX7_expect_9 (by decide) ?_
    refine lv_aload_n hx hb dX7_expect_10 rfl (lv_at hl 0 rfl) ?_
    refine h_geti O hH ly_1 rfl fl_X7_40 dX7_expect_11 ?_
    obtain ⟨D5, hc6, h⟩ := bV_some h
    refine h_callVv (As := [.int 1, .int (D1 1 4)]) (rest := []) O hH (c_X7_refuse hc6) ml_X7_60 ly_1 rfl rfl hl.1 rfl ⟨Nat.le_of_ble_eq_true rfl, Nat.le_of_ble_eq_true rfl⟩ (Nat.le_of_ble_eq_true rfl) dX7_expect_14 (fun H locs hH => ?_)
    obtain rfl := ret_v h
    exact h_vret O hr hlk hH dX7_expect_17
set_option maxHeartbeats 4000000 in
theorem c_X7_expect {l : Launch} {G : va_G} {tA : Nat → ClassId} {z : Nat} {E : Ex} {x1 : Nat} (hx1 : x1 < 14) {D D' : Dm} (h : f_X7_expect x1 D = some D') : CtV l yX7_expect cX7_expect 2 G tA z E 6 0 0 [.ref (z + 1), .ref (E.1 x1)] LAY D LAY D' :=
  ct_BV (by decide +kernel) (Nat.le_of_ble_eq_true rfl) (fun _ _ _ _ _ _ _ _ O hr hlk => w_X7_expect O hr hlk _ hx1 _ h)
set_option maxHeartbeats 4000000 in
theorem w_X7_put_3_b {G : va_G} {tA : Nat → ClassId} {z : Nat} {E : Ex} {p : Program} {l : Launch} {e : Env} {s : State} {m : MethodId} {args : Array Value} {below : List Frame} {meth : Method} {c : Code} {D' : Dm} (O : Ok G tA z E cX7_put RX7 3 p s m args c) (hr : meth.sig.returnType = none) (hlk : meth.locks = false) {k3 : Int32 → Int32 → Dm → Option Dm} (hk3 : ∀ (x1 : Int32) (x2 : Int32) (D : Dm), k3 x1 x2 D = some D' → BV G tA z E p l e (rmC 1 0 0) s m args below meth c LAY D D' 3 3 [(0, .ref (z + 1)), (1, .int x1), (2, .int x2)] []) (x1 : Int32) (x2 : Int32) (D : Dm) (h : f_X7_put_3_b k3 x1 x2 D = some D') : BV G tA z E p l e (rmC 1 0 0) s m args below meth c LAY D D' 3 3 [(0, .ref (z + 1)), (1, .int x1), (2, .int x2)] [] := by
  obtain ⟨hx, hb, -, hown, hts, -⟩ := id O
  unfold f_X7_put_3_b at h
  intro H locs ls hH hl
  refine lv_iload_n hx hb dX7_put_3 rfl (lv_at hl 2 rfl) ?_
  refine lv_if_lt (tgt := 49) hx hb dX7_put_4 (by decide) (fun c1 => ?_) (fun c1 => ?_)
  · have h := it_pos h c1
    obtain rfl := ret_v h
    exact h_vret O hr hlk hH dX7_put_49
  · have h := it_neg h c1
    refine lv_aload_n hx hb dX7_put_7 rfl (lv_at hl 0 rfl) ?_
    refine h_geti O hH ly_1 rfl fl_X7_19 dX7_put_8 ?_
    refine lv_sipush (v := 500) hx hb dX7_put_11 (by decide) ?_
    refine lv_icmp_ge (tgt := 49) hx hb dX7_put_14 (by decide) (fun c2 => ?_) (fun c2 => ?_)
    · have h := it_pos h c2
      obtain rfl := ret_v h
      exact h_vret O hr hlk hH dX7_put_49
    · have h := it_neg h c2
      refine lv_aload_n hx hb dX7_put_17 rfl (lv_at hl 0 rfl) ?_
      refine h_getr O hH ly_1 rfl fl_X7_9 dX7_put_18 ?_
      refine lv_aload_n hx hb dX7_put_21 rfl (lv_at hl 0 rfl) ?_
      refine h_geti O hH ly_1 rfl fl_X7_19 dX7_put_22 ?_
      refine lv_iload_n hx hb dX7_put_25 rfl (lv_at hl 1 rfl) ?_
      refine lv_iload_n hx hb dX7_put_26 rfl (lv_at hl 2 rfl) ?_
      refine lv_ishr hx hb dX7_put_27 ?_
      refine lv_sipush (v := 255) hx hb dX7_put_28 (by decide) ?_
      refine lv_iand hx hb dX7_put_31 ?_
      obtain ⟨g3, h⟩ := gd_some h
      obtain ⟨D4, e5, h⟩ := lt_some h
      refine h_iast O hH ly_2 g3 e5 dX7_put_32 (fun H locs hH => ?_)
      refine lv_aload_n hx hb dX7_put_33 rfl (lv_at hl 0 rfl) ?_
      refine lv_dup hx hb dX7_put_34 rfl ?_
      refine h_geti O hH ly_1 rfl fl_X7_19 dX7_put_35 ?_
      refine lv_iconst (v := 1) hx hb dX7_put_38 (by decide) ?_
      refine lv_iadd hx hb dX7_put_39 ?_
      obtain ⟨D6, e7, h⟩ := lt_some h
      refine h_puti O hH ly_1 rfl fl_X7_19 e7 dX7_put_40 (fun H locs hH => ?_)
      obtain ⟨y8, e9, h⟩ := lt_some h
      refine lv_iinc (v := y8) (lv' := [(2, .int y8), (0, .ref (z + 1)), (1, .int x1)]) hx hb dX7_put_43 hl (k := 2) rfl (by rw [e9]; rfl) (by decide) rfl (fun ls hl => ?_)
      refine lv_goto (tgt := 3) hx hb dX7_put_46 (by decide) ?_
      exact hk3 _ _ _ h _ _ _ hH (lv_sub hl [1, 2, 0] rfl)
set_option maxHeartbeats 4000000 in
theorem w_X7_put_3 {G : va_G} {tA : Nat → ClassId} {z : Nat} {E : Ex} {p : Program} {l : Launch} {e : Env} {s : State} {m : MethodId} {args : Array Value} {below : List Frame} {meth : Method} {c : Code} {D' : Dm} (O : Ok G tA z E cX7_put RX7 3 p s m args c) (hr : meth.sig.returnType = none) (hlk : meth.locks = false) : ∀ (n : Nat) (x1 : Int32) (x2 : Int32) (D : Dm) (h : f_X7_put_3 n x1 x2 D = some D'), BV G tA z E p l e (rmC 1 0 0) s m args below meth c LAY D D' 3 3 [(0, .ref (z + 1)), (1, .int x1), (2, .int x2)] [] := by
  intro n
  induction n with
  | zero => intro x1 x2 D h; exact no_some h
  | succ n ih => intro x1 x2 D h; exact w_X7_put_3_b O hr hlk (fun x1 x2 D h => ih x1 x2 D h) x1 x2 D h
set_option maxHeartbeats 4000000 in
theorem w_X7_put {G : va_G} {tA : Nat → ClassId} {z : Nat} {E : Ex} {p : Program} {l : Launch} {e : Env} {s : State} {m : MethodId} {args : Array Value} {below : List Frame} {meth : Method} {c : Code} {D' : Dm} (O : Ok G tA z E cX7_put RX7 3 p s m args c) (hr : meth.sig.returnType = none) (hlk : meth.locks = false) (x1 : Int32) (D : Dm) (h : f_X7_put x1 D = some D') : BV G tA z E p l e (rmC 1 0 0) s m args below meth c LAY D D' 3 0 [(0, .ref (z + 1)), (1, .int x1)] [] := by
  obtain ⟨hx, hb, -, hown, hts, -⟩ := id O
  unfold f_X7_put at h
  intro H locs ls hH hl
  refine lv_bipush (v := 24) hx hb dX7_put_0 (by decide) ?_
  refine lv_istore_n (lv' := [(2, .int 24), (0, .ref (z + 1)), (1, .int x1)]) hx hb dX7_put_2 rfl hl (by decide) rfl (fun ls hl => ?_)
  exact w_X7_put_3 O hr hlk FU _ _ _ h _ _ _ hH (lv_sub hl [1, 2, 0] rfl)
set_option maxHeartbeats 4000000 in
theorem c_X7_put {l : Launch} {G : va_G} {tA : Nat → ClassId} {z : Nat} {E : Ex} {x1 : Int32} {D D' : Dm} (h : f_X7_put x1 D = some D') : CtV l yX7_put cX7_put 3 G tA z E 1 0 0 [.ref (z + 1), .int x1] LAY D LAY D' :=
  ct_BV (by decide +kernel) (Nat.le_of_ble_eq_true rfl) (fun _ _ _ _ _ _ _ _ O hr hlk => w_X7_put O hr hlk _ _ h)
set_option maxHeartbeats 4000000 in
theorem w_X7_open {G : va_G} {tA : Nat → ClassId} {z : Nat} {E : Ex} {p : Program} {l : Launch} {e : Env} {s : State} {m : MethodId} {args : Array Value} {below : List Frame} {meth : Method} {c : Code} {D' : Dm} (O : Ok G tA z E cX7_open RX7 2 p s m args c) (hr : meth.sig.returnType = none) (hlk : meth.locks = false) (x1 : Int32) (D : Dm) (h : f_X7_open x1 D = some D') : BV G tA z E p l e (rmC 2 0 0) s m args below meth c LAY D D' 2 0 [(0, .ref (z + 1)), (1, .int x1)] [] := by
  obtain ⟨hx, hb, -, hown, hts, -⟩ := id O
  unfold f_X7_open at h
  intro H locs ls hH hl
  refine lv_aload_n hx hb dX7_open_0 rfl (lv_at hl 0 rfl) ?_
  refine lv_iload_n hx hb dX7_open_1 rfl (lv_at hl 1 rfl) ?_
  refine lv_sipush (v := 500) hx hb dX7_open_2 (by decide) ?_
  refine h_min O hl.1 ww_506 (Nat.le_of_ble_eq_true rfl) (Nat.le_of_ble_eq_true rfl) dX7_open_5 ?_
  obtain ⟨D1, e2, h⟩ := lt_some h
  refine h_puti O hH ly_1 rfl fl_X7_28 e2 dX7_open_8 (fun H locs hH => ?_)
  refine lv_aload_n hx hb dX7_open_11 rfl (lv_at hl 0 rfl) ?_
  refine lv_iconst (v := 0) hx hb dX7_open_12 (by decide) ?_
  obtain ⟨D3, e4, h⟩ := lt_some h
  refine h_puti O hH ly_1 rfl fl_X7_19 e4 dX7_open_13 (fun H locs hH => ?_)
  refine lv_aload_n hx hb dX7_open_16 rfl (lv_at hl 0 rfl) ?_
  refine lv_iconst (v := 0) hx hb dX7_open_17 (by decide) ?_
  obtain ⟨D5, e6, h⟩ := lt_some h
  refine h_puti O hH ly_1 rfl fl_X7_31 e6 dX7_open_18 (fun H locs hH => ?_)
  refine lv_aload_n hx hb dX7_open_21 rfl (lv_at hl 0 rfl) ?_
  refine lv_iconst (v := 0) hx hb dX7_open_22 (by decide) ?_
  obtain ⟨D7, e8, h⟩ := lt_some h
  refine h_puti O hH ly_1 rfl fl_X7_34 e8 dX7_open_23 (fun H locs hH => ?_)
  refine lv_aload_n hx hb dX7_open_26 rfl (lv_at hl 0 rfl) ?_
  refine lv_iconst (v := (-1)) hx hb dX7_open_27 (by decide) ?_
  obtain ⟨D9, e10, h⟩ := lt_some h
  refine h_puti O hH ly_1 rfl fl_X7_15 e10 dX7_open_28 (fun H locs hH => ?_)
  refine lv_aload_n hx hb dX7_open_31 rfl (lv_at hl 0 rfl) ?_
  obtain ⟨D11, hc12, h⟩ := bV_some h
  refine h_callVv (As := []) (rest := []) O hH (c_X7_next hc12) ml_X7_37 ly_1 rfl rfl hl.1 rfl ⟨Nat.le_of_ble_eq_true rfl, Nat.le_of_ble_eq_true rfl⟩ (Nat.le_of_ble_eq_true rfl) dX7_open_32 (fun H locs hH => ?_)
  obtain rfl := ret_v h
  exact h_vret O hr hlk hH dX7_open_35
set_option maxHeartbeats 4000000 in
theorem c_X7_open {l : Launch} {G : va_G} {tA : Nat → ClassId} {z : Nat} {E : Ex} {x1 : Int32} {D D' : Dm} (h : f_X7_open x1 D = some D') : CtV l yX7_open cX7_open 2 G tA z E 2 0 0 [.ref (z + 1), .int x1] LAY D LAY D' :=
  ct_BV (by decide +kernel) (Nat.le_of_ble_eq_true rfl) (fun _ _ _ _ _ _ _ _ O hr hlk => w_X7_open O hr hlk _ _ h)
