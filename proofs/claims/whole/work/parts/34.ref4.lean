theorem dX12_isMixedGood_0 : decode cX12_isMixedGood 0 = .ok (.aload_n 0, 1) := by decide +kernel
theorem dX12_isMixedGood_1 : decode cX12_isMixedGood 1 = .ok (.iconst 0, 1) := by decide +kernel
theorem dX12_isMixedGood_2 : decode cX12_isMixedGood 2 = .ok (.iconst (-1), 1) := by decide +kernel
theorem dX12_isMixedGood_3 : decode cX12_isMixedGood 3 = .ok (.iconst (-1), 1) := by decide +kernel
theorem dX12_isMixedGood_4 : decode cX12_isMixedGood 4 = .ok (.invokevirtual 486, 3) := by decide +kernel
theorem dX12_isMixedGood_7 : decode cX12_isMixedGood 7 = .ok (.iconst 0, 1) := by decide +kernel
theorem dX12_isMixedGood_8 : decode cX12_isMixedGood 8 = .ok (.istore_n 2, 1) := by decide +kernel
theorem dX12_isMixedGood_9 : decode cX12_isMixedGood 9 = .ok (.iload_n 2, 1) := by decide +kernel
theorem dX12_isMixedGood_10 : decode cX12_isMixedGood 10 = .ok (.iload_n 1, 1) := by decide +kernel
theorem dX12_isMixedGood_11 : decode cX12_isMixedGood 11 = .ok (.if_icmp .ge 25, 3) := by decide +kernel
theorem dX12_isMixedGood_14 : decode cX12_isMixedGood 14 = .ok (.aload_n 0, 1) := by decide +kernel
theorem dX12_isMixedGood_15 : decode cX12_isMixedGood 15 = .ok (.aload_n 0, 1) := by decide +kernel
theorem dX12_isMixedGood_16 : decode cX12_isMixedGood 16 = .ok (.getfield 96, 3) := by decide +kernel
theorem dX12_isMixedGood_19 : decode cX12_isMixedGood 19 = .ok (.iload_n 2, 1) := by decide +kernel
theorem dX12_isMixedGood_20 : decode cX12_isMixedGood 20 = .ok (.iaload, 1) := by decide +kernel
theorem dX12_isMixedGood_21 : decode cX12_isMixedGood 21 = .ok (.aload_n 0, 1) := by decide +kernel
theorem dX12_isMixedGood_22 : decode cX12_isMixedGood 22 = .ok (.getfield 99, 3) := by decide +kernel
theorem dX12_isMixedGood_25 : decode cX12_isMixedGood 25 = .ok (.iload_n 2, 1) := by decide +kernel
theorem dX12_isMixedGood_26 : decode cX12_isMixedGood 26 = .ok (.iaload, 1) := by decide +kernel
theorem dX12_isMixedGood_27 : decode cX12_isMixedGood 27 = .ok (.invokevirtual 533, 3) := by decide +kernel
theorem dX12_isMixedGood_30 : decode cX12_isMixedGood 30 = .ok (.iinc 2 1, 3) := by decide +kernel
theorem dX12_isMixedGood_33 : decode cX12_isMixedGood 33 = .ok (.goto (-24), 3) := by decide +kernel
theorem dX12_isMixedGood_36 : decode cX12_isMixedGood 36 = .ok (.aload_n 0, 1) := by decide +kernel
theorem dX12_isMixedGood_37 : decode cX12_isMixedGood 37 = .ok (.aload_n 0, 1) := by decide +kernel
theorem dX12_isMixedGood_38 : decode cX12_isMixedGood 38 = .ok (.getfield 477, 3) := by decide +kernel
theorem dX12_isMixedGood_41 : decode cX12_isMixedGood 41 = .ok (.invokevirtual 422, 3) := by decide +kernel
theorem dX12_isMixedGood_44 : decode cX12_isMixedGood 44 = .ok (.istore_n 2, 1) := by decide +kernel
theorem dX12_isMixedGood_45 : decode cX12_isMixedGood 45 = .ok (.aload_n 0, 1) := by decide +kernel
theorem dX12_isMixedGood_46 : decode cX12_isMixedGood 46 = .ok (.aload_n 0, 1) := by decide +kernel
theorem dX12_isMixedGood_47 : decode cX12_isMixedGood 47 = .ok (.getfield 477, 3) := by decide +kernel
theorem dX12_isMixedGood_50 : decode cX12_isMixedGood 50 = .ok (.invokevirtual 322, 3) := by decide +kernel
theorem dX12_isMixedGood_53 : decode cX12_isMixedGood 53 = .ok (.iconst 0, 1) := by decide +kernel
theorem dX12_isMixedGood_54 : decode cX12_isMixedGood 54 = .ok (.istore_n 3, 1) := by decide +kernel
theorem dX12_isMixedGood_55 : decode cX12_isMixedGood 55 = .ok (.iload_n 3, 1) := by decide +kernel
theorem dX12_isMixedGood_56 : decode cX12_isMixedGood 56 = .ok (.aload_n 0, 1) := by decide +kernel
theorem dX12_isMixedGood_57 : decode cX12_isMixedGood 57 = .ok (.getfield 319, 3) := by decide +kernel
theorem dX12_isMixedGood_60 : decode cX12_isMixedGood 60 = .ok (.if_icmp .ge 66, 3) := by decide +kernel
theorem dX12_isMixedGood_63 : decode cX12_isMixedGood 63 = .ok (.aload_n 0, 1) := by decide +kernel
theorem dX12_isMixedGood_64 : decode cX12_isMixedGood 64 = .ok (.getfield 72, 3) := by decide +kernel
theorem dX12_isMixedGood_67 : decode cX12_isMixedGood 67 = .ok (.iload_n 3, 1) := by decide +kernel
theorem dX12_isMixedGood_68 : decode cX12_isMixedGood 68 = .ok (.aload_n 0, 1) := by decide +kernel
theorem dX12_isMixedGood_69 : decode cX12_isMixedGood 69 = .ok (.getfield 72, 3) := by decide +kernel
theorem dX12_isMixedGood_72 : decode cX12_isMixedGood 72 = .ok (.iload_n 3, 1) := by decide +kernel
theorem dX12_isMixedGood_73 : decode cX12_isMixedGood 73 = .ok (.iaload, 1) := by decide +kernel
theorem dX12_isMixedGood_74 : decode cX12_isMixedGood 74 = .ok (.iload_n 2, 1) := by decide +kernel
theorem dX12_isMixedGood_75 : decode cX12_isMixedGood 75 = .ok (.iconst 0, 1) := by decide +kernel
theorem dX12_isMixedGood_76 : decode cX12_isMixedGood 76 = .ok (.invokestatic 392, 3) := by decide +kernel
theorem dX12_isMixedGood_79 : decode cX12_isMixedGood 79 = .ok (.if_icmp .ne 10, 3) := by decide +kernel
theorem dX12_isMixedGood_82 : decode cX12_isMixedGood 82 = .ok (.aload_n 0, 1) := by decide +kernel
theorem dX12_isMixedGood_83 : decode cX12_isMixedGood 83 = .ok (.getfield 480, 3) := by decide +kernel
theorem dX12_isMixedGood_86 : decode cX12_isMixedGood 86 = .ok (.goto 33, 3) := by decide +kernel
theorem dX12_isMixedGood_89 : decode cX12_isMixedGood 89 = .ok (.aload_n 0, 1) := by decide +kernel
theorem dX12_isMixedGood_90 : decode cX12_isMixedGood 90 = .ok (.getfield 72, 3) := by decide +kernel
theorem dX12_isMixedGood_93 : decode cX12_isMixedGood 93 = .ok (.iload_n 3, 1) := by decide +kernel
theorem dX12_isMixedGood_94 : decode cX12_isMixedGood 94 = .ok (.iaload, 1) := by decide +kernel
theorem dX12_isMixedGood_95 : decode cX12_isMixedGood 95 = .ok (.iload_n 2, 1) := by decide +kernel
theorem dX12_isMixedGood_96 : decode cX12_isMixedGood 96 = .ok (.iconst 1, 1) := by decide +kernel
theorem dX12_isMixedGood_97 : decode cX12_isMixedGood 97 = .ok (.invokestatic 392, 3) := by decide +kernel
theorem dX12_isMixedGood_100 : decode cX12_isMixedGood 100 = .ok (.if_icmp .ne 10, 3) := by decide +kernel
theorem dX12_isMixedGood_103 : decode cX12_isMixedGood 103 = .ok (.aload_n 0, 1) := by decide +kernel
theorem dX12_isMixedGood_104 : decode cX12_isMixedGood 104 = .ok (.getfield 483, 3) := by decide +kernel
theorem dX12_isMixedGood_107 : decode cX12_isMixedGood 107 = .ok (.goto 12, 3) := by decide +kernel
theorem dX12_isMixedGood_110 : decode cX12_isMixedGood 110 = .ok (.bipush 100, 2) := by decide +kernel
theorem dX12_isMixedGood_112 : decode cX12_isMixedGood 112 = .ok (.aload_n 0, 1) := by decide +kernel
theorem dX12_isMixedGood_113 : decode cX12_isMixedGood 113 = .ok (.getfield 72, 3) := by decide +kernel
theorem dX12_isMixedGood_116 : decode cX12_isMixedGood 116 = .ok (.iload_n 3, 1) := by decide +kernel
theorem dX12_isMixedGood_117 : decode cX12_isMixedGood 117 = .ok (.iaload, 1) := by decide +kernel
theorem dX12_isMixedGood_118 : decode cX12_isMixedGood 118 = .ok (.iadd, 1) := by decide +kernel
theorem dX12_isMixedGood_119 : decode cX12_isMixedGood 119 = .ok (.iastore, 1) := by decide +kernel
theorem dX12_isMixedGood_120 : decode cX12_isMixedGood 120 = .ok (.iinc 3 1, 3) := by decide +kernel
theorem dX12_isMixedGood_123 : decode cX12_isMixedGood 123 = .ok (.goto (-68), 3) := by decide +kernel
theorem dX12_isMixedGood_126 : decode cX12_isMixedGood 126 = .ok (.iload_n 1, 1) := by decide +kernel
theorem dX12_isMixedGood_127 : decode cX12_isMixedGood 127 = .ok (.istore_n 3, 1) := by decide +kernel
theorem dX12_isMixedGood_128 : decode cX12_isMixedGood 128 = .ok (.iload_n 3, 1) := by decide +kernel
theorem dX12_isMixedGood_129 : decode cX12_isMixedGood 129 = .ok (.aload_n 0, 1) := by decide +kernel
theorem dX12_isMixedGood_130 : decode cX12_isMixedGood 130 = .ok (.getfield 434, 3) := by decide +kernel
theorem dX12_isMixedGood_133 : decode cX12_isMixedGood 133 = .ok (.if_icmp .ge 25, 3) := by decide +kernel
theorem dX12_isMixedGood_136 : decode cX12_isMixedGood 136 = .ok (.aload_n 0, 1) := by decide +kernel
theorem dX12_isMixedGood_137 : decode cX12_isMixedGood 137 = .ok (.aload_n 0, 1) := by decide +kernel
theorem dX12_isMixedGood_138 : decode cX12_isMixedGood 138 = .ok (.getfield 96, 3) := by decide +kernel
theorem dX12_isMixedGood_141 : decode cX12_isMixedGood 141 = .ok (.iload_n 3, 1) := by decide +kernel
theorem dX12_isMixedGood_142 : decode cX12_isMixedGood 142 = .ok (.iaload, 1) := by decide +kernel
theorem dX12_isMixedGood_143 : decode cX12_isMixedGood 143 = .ok (.aload_n 0, 1) := by decide +kernel
theorem dX12_isMixedGood_144 : decode cX12_isMixedGood 144 = .ok (.getfield 99, 3) := by decide +kernel
theorem dX12_isMixedGood_147 : decode cX12_isMixedGood 147 = .ok (.iload_n 3, 1) := by decide +kernel
theorem dX12_isMixedGood_148 : decode cX12_isMixedGood 148 = .ok (.iaload, 1) := by decide +kernel
theorem dX12_isMixedGood_149 : decode cX12_isMixedGood 149 = .ok (.invokevirtual 325, 3) := by decide +kernel
theorem dX12_isMixedGood_152 : decode cX12_isMixedGood 152 = .ok (.iinc 3 1, 3) := by decide +kernel
theorem dX12_isMixedGood_155 : decode cX12_isMixedGood 155 = .ok (.goto (-27), 3) := by decide +kernel
theorem dX12_isMixedGood_158 : decode cX12_isMixedGood 158 = .ok (.aload_n 0, 1) := by decide +kernel
theorem dX12_isMixedGood_159 : decode cX12_isMixedGood 159 = .ok (.invokevirtual 332, 3) := by decide +kernel
theorem dX12_isMixedGood_162 : decode cX12_isMixedGood 162 = .ok (.aload_n 0, 1) := by decide +kernel
theorem dX12_isMixedGood_163 : decode cX12_isMixedGood 163 = .ok (.iconst 0, 1) := by decide +kernel
theorem dX12_isMixedGood_164 : decode cX12_isMixedGood 164 = .ok (.invokevirtual 285, 3) := by decide +kernel
theorem dX12_isMixedGood_167 : decode cX12_isMixedGood 167 = .ok (.ireturn, 1) := by decide +kernel
theorem dX12_splits0_0 : decode cX12_splits0 0 = .ok (.aload_n 0, 1) := by decide +kernel
theorem dX12_splits0_1 : decode cX12_splits0 1 = .ok (.iconst 0, 1) := by decide +kernel
theorem dX12_splits0_2 : decode cX12_splits0 2 = .ok (.putfield 437, 3) := by decide +kernel
theorem dX12_splits0_5 : decode cX12_splits0 5 = .ok (.aload_n 0, 1) := by decide +kernel
theorem dX12_splits0_6 : decode cX12_splits0 6 = .ok (.aload_n 0, 1) := by decide +kernel
theorem dX12_splits0_7 : decode cX12_splits0 7 = .ok (.getfield 437, 3) := by decide +kernel
theorem dX12_splits0_10 : decode cX12_splits0 10 = .ok (.invokevirtual 539, 3) := by decide +kernel
theorem dX12_splits0_13 : decode cX12_splits0 13 = .ok (.aload_n 0, 1) := by decide +kernel
theorem dX12_splits0_14 : decode cX12_splits0 14 = .ok (.aload_n 0, 1) := by decide +kernel
theorem dX12_splits0_15 : decode cX12_splits0 15 = .ok (.getfield 437, 3) := by decide +kernel
theorem dX12_splits0_18 : decode cX12_splits0 18 = .ok (.iconst 1, 1) := by decide +kernel
theorem dX12_splits0_19 : decode cX12_splits0 19 = .ok (.iadd, 1) := by decide +kernel
theorem dX12_splits0_20 : decode cX12_splits0 20 = .ok (.invokevirtual 539, 3) := by decide +kernel
theorem dX12_splits0_23 : decode cX12_splits0 23 = .ok (.if_icmp .ne 16, 3) := by decide +kernel
theorem dX12_splits0_26 : decode cX12_splits0 26 = .ok (.aload_n 0, 1) := by decide +kernel
theorem dX12_splits0_27 : decode cX12_splits0 27 = .ok (.dup, 1) := by decide +kernel
theorem dX12_splits0_28 : decode cX12_splits0 28 = .ok (.getfield 437, 3) := by decide +kernel
theorem dX12_splits0_31 : decode cX12_splits0 31 = .ok (.iconst 1, 1) := by decide +kernel
theorem dX12_splits0_32 : decode cX12_splits0 32 = .ok (.iadd, 1) := by decide +kernel
theorem dX12_splits0_33 : decode cX12_splits0 33 = .ok (.putfield 437, 3) := by decide +kernel
theorem dX12_splits0_36 : decode cX12_splits0 36 = .ok (.goto (-31), 3) := by decide +kernel
theorem dX12_splits0_39 : decode cX12_splits0 39 = .ok (.return_, 1) := by decide +kernel
theorem dX12_lays_0 : decode cX12_lays 0 = .ok (.aload_n 0, 1) := by decide +kernel
theorem dX12_lays_1 : decode cX12_lays 1 = .ok (.getfield 316, 3) := by decide +kernel
theorem dX12_lays_4 : decode cX12_lays 4 = .ok (.ifCond .eq 4, 3) := by decide +kernel
theorem dX12_lays_7 : decode cX12_lays 7 = .ok (.return_, 1) := by decide +kernel
theorem dX12_lays_8 : decode cX12_lays 8 = .ok (.aload_n 0, 1) := by decide +kernel
theorem dX12_lays_9 : decode cX12_lays 9 = .ok (.iconst 1, 1) := by decide +kernel
theorem dX12_lays_10 : decode cX12_lays 10 = .ok (.putfield 316, 3) := by decide +kernel
theorem dX12_lays_13 : decode cX12_lays 13 = .ok (.aload_n 0, 1) := by decide +kernel
theorem dX12_lays_14 : decode cX12_lays 14 = .ok (.iconst (-1), 1) := by decide +kernel
theorem dX12_lays_15 : decode cX12_lays 15 = .ok (.putfield 434, 3) := by decide +kernel
theorem dX12_lays_18 : decode cX12_lays 18 = .ok (.aload_n 0, 1) := by decide +kernel
theorem dX12_lays_19 : decode cX12_lays 19 = .ok (.iconst (-1), 1) := by decide +kernel
theorem dX12_lays_20 : decode cX12_lays 20 = .ok (.putfield 437, 3) := by decide +kernel
theorem dX12_lays_23 : decode cX12_lays 23 = .ok (.aload_n 0, 1) := by decide +kernel
theorem dX12_lays_24 : decode cX12_lays 24 = .ok (.iconst 1, 1) := by decide +kernel
theorem dX12_lays_25 : decode cX12_lays 25 = .ok (.putfield 440, 3) := by decide +kernel
theorem dX12_lays_28 : decode cX12_lays 28 = .ok (.iconst 0, 1) := by decide +kernel
theorem dX12_lays_29 : decode cX12_lays 29 = .ok (.istore_n 1, 1) := by decide +kernel
theorem dX12_lays_30 : decode cX12_lays 30 = .ok (.iload_n 1, 1) := by decide +kernel
theorem dX12_lays_31 : decode cX12_lays 31 = .ok (.aload_n 0, 1) := by decide +kernel
theorem dX12_lays_32 : decode cX12_lays 32 = .ok (.getfield 310, 3) := by decide +kernel
theorem dX12_lays_35 : decode cX12_lays 35 = .ok (.if_icmp .ge 63, 3) := by decide +kernel
theorem dX12_lays_38 : decode cX12_lays 38 = .ok (.iconst 0, 1) := by decide +kernel
theorem dX12_lays_39 : decode cX12_lays 39 = .ok (.istore_n 2, 1) := by decide +kernel
theorem dX12_lays_40 : decode cX12_lays 40 = .ok (.iload_n 2, 1) := by decide +kernel
theorem dX12_lays_41 : decode cX12_lays 41 = .ok (.aload_n 0, 1) := by decide +kernel
theorem dX12_lays_42 : decode cX12_lays 42 = .ok (.iconst 0, 1) := by decide +kernel
theorem dX12_lays_43 : decode cX12_lays 43 = .ok (.iconst 2, 1) := by decide +kernel
theorem dX12_lays_44 : decode cX12_lays 44 = .ok (.invokevirtual 155, 3) := by decide +kernel
theorem dX12_lays_47 : decode cX12_lays 47 = .ok (.if_icmp .ge 45, 3) := by decide +kernel
theorem dX12_lays_50 : decode cX12_lays 50 = .ok (.iconst 0, 1) := by decide +kernel
theorem dX12_lays_51 : decode cX12_lays 51 = .ok (.istore_n 3, 1) := by decide +kernel
theorem dX12_lays_52 : decode cX12_lays 52 = .ok (.iload_n 3, 1) := by decide +kernel
theorem dX12_lays_53 : decode cX12_lays 53 = .ok (.aload_n 0, 1) := by decide +kernel
theorem dX12_lays_54 : decode cX12_lays 54 = .ok (.iload_n 1, 1) := by decide +kernel
theorem dX12_lays_55 : decode cX12_lays 55 = .ok (.invokevirtual 422, 3) := by decide +kernel
theorem dX12_lays_58 : decode cX12_lays 58 = .ok (.invokestatic 410, 3) := by decide +kernel
theorem dX12_lays_61 : decode cX12_lays 61 = .ok (.if_icmp .gt 25, 3) := by decide +kernel
theorem dX12_lays_64 : decode cX12_lays 64 = .ok (.aload_n 0, 1) := by decide +kernel
theorem dX12_lays_65 : decode cX12_lays 65 = .ok (.iload_n 1, 1) := by decide +kernel
theorem dX12_lays_66 : decode cX12_lays 66 = .ok (.iload_n 2, 1) := by decide +kernel
theorem dX12_lays_67 : decode cX12_lays 67 = .ok (.aload_n 0, 1) := by decide +kernel
theorem dX12_lays_68 : decode cX12_lays 68 = .ok (.iload_n 1, 1) := by decide +kernel
theorem dX12_lays_69 : decode cX12_lays 69 = .ok (.iload_n 3, 1) := by decide +kernel
theorem dX12_lays_70 : decode cX12_lays 70 = .ok (.invokevirtual 443, 3) := by decide +kernel
theorem dX12_lays_73 : decode cX12_lays 73 = .ok (.invokevirtual 446, 3) := by decide +kernel
theorem dX12_lays_76 : decode cX12_lays 76 = .ok (.ifCond .eq 4, 3) := by decide +kernel
theorem dX12_lays_79 : decode cX12_lays 79 = .ok (.return_, 1) := by decide +kernel
theorem dX12_lays_80 : decode cX12_lays 80 = .ok (.iinc 3 1, 3) := by decide +kernel
theorem dX12_lays_83 : decode cX12_lays 83 = .ok (.goto (-31), 3) := by decide +kernel
theorem dX12_lays_86 : decode cX12_lays 86 = .ok (.iinc 2 1, 3) := by decide +kernel
theorem dX12_lays_89 : decode cX12_lays 89 = .ok (.goto (-49), 3) := by decide +kernel
theorem dX12_lays_92 : decode cX12_lays 92 = .ok (.iinc 1 1, 3) := by decide +kernel
theorem dX12_lays_95 : decode cX12_lays 95 = .ok (.goto (-65), 3) := by decide +kernel
theorem dX12_lays_98 : decode cX12_lays 98 = .ok (.aload_n 0, 1) := by decide +kernel
theorem dX12_lays_99 : decode cX12_lays 99 = .ok (.iconst 2, 1) := by decide +kernel
theorem dX12_lays_100 : decode cX12_lays 100 = .ok (.putfield 440, 3) := by decide +kernel
theorem dX12_lays_103 : decode cX12_lays 103 = .ok (.iconst 0, 1) := by decide +kernel
theorem dX12_lays_104 : decode cX12_lays 104 = .ok (.istore_n 1, 1) := by decide +kernel
theorem dX12_lays_105 : decode cX12_lays 105 = .ok (.iload_n 1, 1) := by decide +kernel
theorem dX12_lays_106 : decode cX12_lays 106 = .ok (.aload_n 0, 1) := by decide +kernel
theorem dX12_lays_107 : decode cX12_lays 107 = .ok (.getfield 310, 3) := by decide +kernel
theorem dX12_lays_110 : decode cX12_lays 110 = .ok (.if_icmp .ge 63, 3) := by decide +kernel
theorem dX12_lays_113 : decode cX12_lays 113 = .ok (.iconst 0, 1) := by decide +kernel
theorem dX12_lays_114 : decode cX12_lays 114 = .ok (.istore_n 2, 1) := by decide +kernel
theorem dX12_lays_115 : decode cX12_lays 115 = .ok (.iload_n 2, 1) := by decide +kernel
theorem dX12_lays_116 : decode cX12_lays 116 = .ok (.aload_n 0, 1) := by decide +kernel
theorem dX12_lays_117 : decode cX12_lays 117 = .ok (.iconst 0, 1) := by decide +kernel
theorem dX12_lays_118 : decode cX12_lays 118 = .ok (.iconst 2, 1) := by decide +kernel
theorem dX12_lays_119 : decode cX12_lays 119 = .ok (.invokevirtual 155, 3) := by decide +kernel
theorem dX12_lays_122 : decode cX12_lays 122 = .ok (.if_icmp .ge 45, 3) := by decide +kernel
theorem dX12_lays_125 : decode cX12_lays 125 = .ok (.iconst 0, 1) := by decide +kernel
theorem dX12_lays_126 : decode cX12_lays 126 = .ok (.istore_n 3, 1) := by decide +kernel
theorem dX12_lays_127 : decode cX12_lays 127 = .ok (.iload_n 3, 1) := by decide +kernel
theorem dX12_lays_128 : decode cX12_lays 128 = .ok (.aload_n 0, 1) := by decide +kernel
theorem dX12_lays_129 : decode cX12_lays 129 = .ok (.iload_n 1, 1) := by decide +kernel
theorem dX12_lays_130 : decode cX12_lays 130 = .ok (.invokevirtual 422, 3) := by decide +kernel
theorem dX12_lays_133 : decode cX12_lays 133 = .ok (.invokestatic 410, 3) := by decide +kernel
theorem dX12_lays_136 : decode cX12_lays 136 = .ok (.if_icmp .gt 25, 3) := by decide +kernel
theorem dX12_lays_139 : decode cX12_lays 139 = .ok (.aload_n 0, 1) := by decide +kernel
theorem dX12_lays_140 : decode cX12_lays 140 = .ok (.iload_n 1, 1) := by decide +kernel
theorem dX12_lays_141 : decode cX12_lays 141 = .ok (.iload_n 2, 1) := by decide +kernel
theorem dX12_lays_142 : decode cX12_lays 142 = .ok (.aload_n 0, 1) := by decide +kernel
theorem dX12_lays_143 : decode cX12_lays 143 = .ok (.iload_n 1, 1) := by decide +kernel
theorem dX12_lays_144 : decode cX12_lays 144 = .ok (.iload_n 3, 1) := by decide +kernel
theorem dX12_lays_145 : decode cX12_lays 145 = .ok (.invokevirtual 443, 3) := by decide +kernel
theorem dX12_lays_148 : decode cX12_lays 148 = .ok (.invokevirtual 450, 3) := by decide +kernel
theorem dX12_lays_151 : decode cX12_lays 151 = .ok (.ifCond .ne 4, 3) := by decide +kernel
theorem dX12_lays_154 : decode cX12_lays 154 = .ok (.return_, 1) := by decide +kernel
theorem dX12_lays_155 : decode cX12_lays 155 = .ok (.iinc 3 1, 3) := by decide +kernel
theorem dX12_lays_158 : decode cX12_lays 158 = .ok (.goto (-31), 3) := by decide +kernel
theorem dX12_lays_161 : decode cX12_lays 161 = .ok (.iinc 2 1, 3) := by decide +kernel
theorem dX12_lays_164 : decode cX12_lays 164 = .ok (.goto (-49), 3) := by decide +kernel
theorem dX12_lays_167 : decode cX12_lays 167 = .ok (.iinc 1 1, 3) := by decide +kernel
theorem dX12_lays_170 : decode cX12_lays 170 = .ok (.goto (-65), 3) := by decide +kernel
theorem dX12_lays_173 : decode cX12_lays 173 = .ok (.aload_n 0, 1) := by decide +kernel
theorem dX12_lays_174 : decode cX12_lays 174 = .ok (.invokevirtual 453, 3) := by decide +kernel
theorem dX12_lays_177 : decode cX12_lays 177 = .ok (.aload_n 0, 1) := by decide +kernel
theorem dX12_lays_178 : decode cX12_lays 178 = .ok (.aload_n 0, 1) := by decide +kernel
theorem dX12_lays_179 : decode cX12_lays 179 = .ok (.getfield 434, 3) := by decide +kernel
theorem dX12_lays_182 : decode cX12_lays 182 = .ok (.iconst (-1), 1) := by decide +kernel
theorem dX12_lays_183 : decode cX12_lays 183 = .ok (.if_icmp .ne 7, 3) := by decide +kernel
theorem dX12_lays_186 : decode cX12_lays 186 = .ok (.iconst 0, 1) := by decide +kernel
theorem dX12_lays_187 : decode cX12_lays 187 = .ok (.goto 4, 3) := by decide +kernel
theorem dX12_lays_190 : decode cX12_lays 190 = .ok (.iconst 3, 1) := by decide +kernel
theorem dX12_lays_191 : decode cX12_lays 191 = .ok (.putfield 440, 3) := by decide +kernel
theorem dX12_lays_194 : decode cX12_lays 194 = .ok (.aload_n 0, 1) := by decide +kernel
theorem dX12_lays_195 : decode cX12_lays 195 = .ok (.getfield 440, 3) := by decide +kernel
theorem dX12_lays_198 : decode cX12_lays 198 = .ok (.iconst 3, 1) := by decide +kernel
theorem dX12_lays_199 : decode cX12_lays 199 = .ok (.if_icmp .ne 7, 3) := by decide +kernel
theorem dX12_lays_202 : decode cX12_lays 202 = .ok (.aload_n 0, 1) := by decide +kernel
theorem dX12_lays_203 : decode cX12_lays 203 = .ok (.invokevirtual 456, 3) := by decide +kernel
theorem dX12_lays_206 : decode cX12_lays 206 = .ok (.return_, 1) := by decide +kernel
theorem dX12_isTest_0 : decode cX12_isTest 0 = .ok (.aload_n 0, 1) := by decide +kernel
theorem dX12_isTest_1 : decode cX12_isTest 1 = .ok (.getfield 48, 3) := by decide +kernel
theorem dX12_isTest_4 : decode cX12_isTest 4 = .ok (.iload_n 1, 1) := by decide +kernel
theorem dX12_isTest_5 : decode cX12_isTest 5 = .ok (.iaload, 1) := by decide +kernel
theorem dX12_isTest_6 : decode cX12_isTest 6 = .ok (.aload_n 0, 1) := by decide +kernel
theorem dX12_isTest_7 : decode cX12_isTest 7 = .ok (.getfield 319, 3) := by decide +kernel
theorem dX12_isTest_10 : decode cX12_isTest 10 = .ok (.if_icmp .eq 5, 3) := by decide +kernel
theorem dX12_isTest_13 : decode cX12_isTest 13 = .ok (.iconst 0, 1) := by decide +kernel
theorem dX12_isTest_14 : decode cX12_isTest 14 = .ok (.ireturn, 1) := by decide +kernel
theorem dX12_isTest_15 : decode cX12_isTest 15 = .ok (.iconst 0, 1) := by decide +kernel
theorem dX12_isTest_16 : decode cX12_isTest 16 = .ok (.istore_n 2, 1) := by decide +kernel
theorem dX12_isTest_17 : decode cX12_isTest 17 = .ok (.iload_n 2, 1) := by decide +kernel
theorem dX12_isTest_18 : decode cX12_isTest 18 = .ok (.aload_n 0, 1) := by decide +kernel
theorem dX12_isTest_19 : decode cX12_isTest 19 = .ok (.getfield 319, 3) := by decide +kernel
theorem dX12_isTest_22 : decode cX12_isTest 22 = .ok (.if_icmp .ge 51, 3) := by decide +kernel
theorem dX12_isTest_25 : decode cX12_isTest 25 = .ok (.aload_n 0, 1) := by decide +kernel
theorem dX12_isTest_26 : decode cX12_isTest 26 = .ok (.getfield 51, 3) := by decide +kernel
theorem dX12_isTest_29 : decode cX12_isTest 29 = .ok (.bipush 6, 2) := by decide +kernel
theorem dX12_isTest_31 : decode cX12_isTest 31 = .ok (.iload_n 1, 1) := by decide +kernel
theorem dX12_isTest_32 : decode cX12_isTest 32 = .ok (.imul, 1) := by decide +kernel
theorem dX12_isTest_33 : decode cX12_isTest 33 = .ok (.iload_n 2, 1) := by decide +kernel
theorem dX12_isTest_34 : decode cX12_isTest 34 = .ok (.iadd, 1) := by decide +kernel
theorem dX12_isTest_35 : decode cX12_isTest 35 = .ok (.iaload, 1) := by decide +kernel
theorem dX12_isTest_36 : decode cX12_isTest 36 = .ok (.aload_n 0, 1) := by decide +kernel
theorem dX12_isTest_37 : decode cX12_isTest 37 = .ok (.getfield 69, 3) := by decide +kernel
theorem dX12_isTest_40 : decode cX12_isTest 40 = .ok (.iload_n 2, 1) := by decide +kernel
theorem dX12_isTest_41 : decode cX12_isTest 41 = .ok (.iaload, 1) := by decide +kernel
theorem dX12_isTest_42 : decode cX12_isTest 42 = .ok (.if_icmp .ne 23, 3) := by decide +kernel
theorem dX12_isTest_45 : decode cX12_isTest 45 = .ok (.aload_n 0, 1) := by decide +kernel
theorem dX12_isTest_46 : decode cX12_isTest 46 = .ok (.getfield 54, 3) := by decide +kernel
theorem dX12_isTest_49 : decode cX12_isTest 49 = .ok (.bipush 6, 2) := by decide +kernel
theorem dX12_isTest_51 : decode cX12_isTest 51 = .ok (.iload_n 1, 1) := by decide +kernel
theorem dX12_isTest_52 : decode cX12_isTest 52 = .ok (.imul, 1) := by decide +kernel
theorem dX12_isTest_53 : decode cX12_isTest 53 = .ok (.iload_n 2, 1) := by decide +kernel
theorem dX12_isTest_54 : decode cX12_isTest 54 = .ok (.iadd, 1) := by decide +kernel
theorem dX12_isTest_55 : decode cX12_isTest 55 = .ok (.iaload, 1) := by decide +kernel
theorem dX12_isTest_56 : decode cX12_isTest 56 = .ok (.aload_n 0, 1) := by decide +kernel
theorem dX12_isTest_57 : decode cX12_isTest 57 = .ok (.getfield 72, 3) := by decide +kernel
theorem dX12_isTest_60 : decode cX12_isTest 60 = .ok (.iload_n 2, 1) := by decide +kernel
theorem dX12_isTest_61 : decode cX12_isTest 61 = .ok (.iaload, 1) := by decide +kernel
theorem dX12_isTest_62 : decode cX12_isTest 62 = .ok (.if_icmp .eq 5, 3) := by decide +kernel
theorem dX12_isTest_65 : decode cX12_isTest 65 = .ok (.iconst 0, 1) := by decide +kernel
theorem dX12_isTest_66 : decode cX12_isTest 66 = .ok (.ireturn, 1) := by decide +kernel
theorem dX12_isTest_67 : decode cX12_isTest 67 = .ok (.iinc 2 1, 3) := by decide +kernel
theorem dX12_isTest_70 : decode cX12_isTest 70 = .ok (.goto (-53), 3) := by decide +kernel
theorem dX12_isTest_73 : decode cX12_isTest 73 = .ok (.iconst 1, 1) := by decide +kernel
theorem dX12_isTest_74 : decode cX12_isTest 74 = .ok (.ireturn, 1) := by decide +kernel
theorem dX12_addsTest_0 : decode cX12_addsTest 0 = .ok (.aload_n 0, 1) := by decide +kernel
theorem dX12_addsTest_1 : decode cX12_addsTest 1 = .ok (.invokevirtual 542, 3) := by decide +kernel
theorem dX12_addsTest_4 : decode cX12_addsTest 4 = .ok (.aload_n 0, 1) := by decide +kernel
theorem dX12_addsTest_5 : decode cX12_addsTest 5 = .ok (.getfield 313, 3) := by decide +kernel
theorem dX12_addsTest_8 : decode cX12_addsTest 8 = .ok (.bipush 10, 2) := by decide +kernel
theorem dX12_addsTest_10 : decode cX12_addsTest 10 = .ok (.if_icmp .eq 29, 3) := by decide +kernel
theorem dX12_addsTest_13 : decode cX12_addsTest 13 = .ok (.aload_n 0, 1) := by decide +kernel
theorem dX12_addsTest_14 : decode cX12_addsTest 14 = .ok (.getfield 319, 3) := by decide +kernel
theorem dX12_addsTest_17 : decode cX12_addsTest 17 = .ok (.bipush 6, 2) := by decide +kernel
theorem dX12_addsTest_19 : decode cX12_addsTest 19 = .ok (.if_icmp .gt 20, 3) := by decide +kernel
theorem dX12_addsTest_22 : decode cX12_addsTest 22 = .ok (.aload_n 0, 1) := by decide +kernel
theorem dX12_addsTest_23 : decode cX12_addsTest 23 = .ok (.aload_n 0, 1) := by decide +kernel
theorem dX12_addsTest_24 : decode cX12_addsTest 24 = .ok (.getfield 72, 3) := by decide +kernel
theorem dX12_addsTest_27 : decode cX12_addsTest 27 = .ok (.iconst 0, 1) := by decide +kernel
theorem dX12_addsTest_28 : decode cX12_addsTest 28 = .ok (.aload_n 0, 1) := by decide +kernel
theorem dX12_addsTest_29 : decode cX12_addsTest 29 = .ok (.getfield 319, 3) := by decide +kernel
theorem dX12_addsTest_32 : decode cX12_addsTest 32 = .ok (.invokevirtual 328, 3) := by decide +kernel
theorem dX12_addsTest_35 : decode cX12_addsTest 35 = .ok (.iconst 3, 1) := by decide +kernel
theorem dX12_addsTest_36 : decode cX12_addsTest 36 = .ok (.if_icmp .le 5, 3) := by decide +kernel
theorem dX12_addsTest_39 : decode cX12_addsTest 39 = .ok (.iconst 0, 1) := by decide +kernel
theorem dX12_addsTest_40 : decode cX12_addsTest 40 = .ok (.ireturn, 1) := by decide +kernel
theorem dX12_addsTest_41 : decode cX12_addsTest 41 = .ok (.iconst 0, 1) := by decide +kernel
theorem dX12_addsTest_42 : decode cX12_addsTest 42 = .ok (.istore_n 1, 1) := by decide +kernel
theorem dX12_addsTest_43 : decode cX12_addsTest 43 = .ok (.iload_n 1, 1) := by decide +kernel
theorem dX12_addsTest_44 : decode cX12_addsTest 44 = .ok (.aload_n 0, 1) := by decide +kernel
theorem dX12_addsTest_45 : decode cX12_addsTest 45 = .ok (.getfield 313, 3) := by decide +kernel
theorem dX12_addsTest_48 : decode cX12_addsTest 48 = .ok (.if_icmp .ge 19, 3) := by decide +kernel
theorem dX12_addsTest_51 : decode cX12_addsTest 51 = .ok (.aload_n 0, 1) := by decide +kernel
theorem dX12_addsTest_52 : decode cX12_addsTest 52 = .ok (.iload_n 1, 1) := by decide +kernel
theorem dX12_addsTest_53 : decode cX12_addsTest 53 = .ok (.invokevirtual 545, 3) := by decide +kernel
theorem dX12_addsTest_56 : decode cX12_addsTest 56 = .ok (.ifCond .eq 5, 3) := by decide +kernel
theorem dX12_addsTest_59 : decode cX12_addsTest 59 = .ok (.iconst 0, 1) := by decide +kernel
theorem dX12_addsTest_60 : decode cX12_addsTest 60 = .ok (.ireturn, 1) := by decide +kernel
theorem dX12_addsTest_61 : decode cX12_addsTest 61 = .ok (.iinc 1 1, 3) := by decide +kernel
theorem dX12_addsTest_64 : decode cX12_addsTest 64 = .ok (.goto (-21), 3) := by decide +kernel
theorem dX12_addsTest_67 : decode cX12_addsTest 67 = .ok (.aload_n 0, 1) := by decide +kernel
theorem dX12_addsTest_68 : decode cX12_addsTest 68 = .ok (.getfield 48, 3) := by decide +kernel
theorem dX12_addsTest_71 : decode cX12_addsTest 71 = .ok (.aload_n 0, 1) := by decide +kernel
theorem dX12_addsTest_72 : decode cX12_addsTest 72 = .ok (.getfield 313, 3) := by decide +kernel
theorem dX12_addsTest_75 : decode cX12_addsTest 75 = .ok (.aload_n 0, 1) := by decide +kernel
theorem dX12_addsTest_76 : decode cX12_addsTest 76 = .ok (.getfield 319, 3) := by decide +kernel
theorem dX12_addsTest_79 : decode cX12_addsTest 79 = .ok (.iastore, 1) := by decide +kernel
theorem dX12_addsTest_80 : decode cX12_addsTest 80 = .ok (.iconst 0, 1) := by decide +kernel
theorem dX12_addsTest_81 : decode cX12_addsTest 81 = .ok (.istore_n 1, 1) := by decide +kernel
theorem dX12_addsTest_82 : decode cX12_addsTest 82 = .ok (.iload_n 1, 1) := by decide +kernel
theorem dX12_addsTest_83 : decode cX12_addsTest 83 = .ok (.aload_n 0, 1) := by decide +kernel
theorem dX12_addsTest_84 : decode cX12_addsTest 84 = .ok (.getfield 319, 3) := by decide +kernel
theorem dX12_addsTest_87 : decode cX12_addsTest 87 = .ok (.if_icmp .ge 49, 3) := by decide +kernel
theorem dX12_addsTest_90 : decode cX12_addsTest 90 = .ok (.aload_n 0, 1) := by decide +kernel
theorem dX12_addsTest_91 : decode cX12_addsTest 91 = .ok (.getfield 51, 3) := by decide +kernel
theorem dX12_addsTest_94 : decode cX12_addsTest 94 = .ok (.bipush 6, 2) := by decide +kernel
theorem dX12_addsTest_96 : decode cX12_addsTest 96 = .ok (.aload_n 0, 1) := by decide +kernel
theorem dX12_addsTest_97 : decode cX12_addsTest 97 = .ok (.getfield 313, 3) := by decide +kernel
theorem dX12_addsTest_100 : decode cX12_addsTest 100 = .ok (.imul, 1) := by decide +kernel
theorem dX12_addsTest_101 : decode cX12_addsTest 101 = .ok (.iload_n 1, 1) := by decide +kernel
theorem dX12_addsTest_102 : decode cX12_addsTest 102 = .ok (.iadd, 1) := by decide +kernel
theorem dX12_addsTest_103 : decode cX12_addsTest 103 = .ok (.aload_n 0, 1) := by decide +kernel
theorem dX12_addsTest_104 : decode cX12_addsTest 104 = .ok (.getfield 69, 3) := by decide +kernel
theorem dX12_addsTest_107 : decode cX12_addsTest 107 = .ok (.iload_n 1, 1) := by decide +kernel
theorem dX12_addsTest_108 : decode cX12_addsTest 108 = .ok (.iaload, 1) := by decide +kernel
theorem dX12_addsTest_109 : decode cX12_addsTest 109 = .ok (.iastore, 1) := by decide +kernel
theorem dX12_addsTest_110 : decode cX12_addsTest 110 = .ok (.aload_n 0, 1) := by decide +kernel
theorem dX12_addsTest_111 : decode cX12_addsTest 111 = .ok (.getfield 54, 3) := by decide +kernel
theorem dX12_addsTest_114 : decode cX12_addsTest 114 = .ok (.bipush 6, 2) := by decide +kernel
theorem dX12_addsTest_116 : decode cX12_addsTest 116 = .ok (.aload_n 0, 1) := by decide +kernel
theorem dX12_addsTest_117 : decode cX12_addsTest 117 = .ok (.getfield 313, 3) := by decide +kernel
theorem dX12_addsTest_120 : decode cX12_addsTest 120 = .ok (.imul, 1) := by decide +kernel
theorem dX12_addsTest_121 : decode cX12_addsTest 121 = .ok (.iload_n 1, 1) := by decide +kernel
theorem dX12_addsTest_122 : decode cX12_addsTest 122 = .ok (.iadd, 1) := by decide +kernel
theorem dX12_addsTest_123 : decode cX12_addsTest 123 = .ok (.aload_n 0, 1) := by decide +kernel
theorem dX12_addsTest_124 : decode cX12_addsTest 124 = .ok (.getfield 72, 3) := by decide +kernel
theorem dX12_addsTest_127 : decode cX12_addsTest 127 = .ok (.iload_n 1, 1) := by decide +kernel
theorem dX12_addsTest_128 : decode cX12_addsTest 128 = .ok (.iaload, 1) := by decide +kernel
theorem dX12_addsTest_129 : decode cX12_addsTest 129 = .ok (.iastore, 1) := by decide +kernel
theorem dX12_addsTest_130 : decode cX12_addsTest 130 = .ok (.iinc 1 1, 3) := by decide +kernel
theorem dX12_addsTest_133 : decode cX12_addsTest 133 = .ok (.goto (-51), 3) := by decide +kernel
theorem dX12_addsTest_136 : decode cX12_addsTest 136 = .ok (.aload_n 0, 1) := by decide +kernel
theorem dX12_addsTest_137 : decode cX12_addsTest 137 = .ok (.dup, 1) := by decide +kernel
theorem dX12_addsTest_138 : decode cX12_addsTest 138 = .ok (.getfield 313, 3) := by decide +kernel
theorem dX12_addsTest_141 : decode cX12_addsTest 141 = .ok (.iconst 1, 1) := by decide +kernel
theorem dX12_addsTest_142 : decode cX12_addsTest 142 = .ok (.iadd, 1) := by decide +kernel
theorem dX12_addsTest_143 : decode cX12_addsTest 143 = .ok (.putfield 313, 3) := by decide +kernel
theorem dX12_addsTest_146 : decode cX12_addsTest 146 = .ok (.iconst 1, 1) := by decide +kernel
theorem dX12_addsTest_147 : decode cX12_addsTest 147 = .ok (.ireturn, 1) := by decide +kernel
theorem dX12_addsShort_0 : decode cX12_addsShort 0 = .ok (.aload_n 0, 1) := by decide +kernel
theorem dX12_addsShort_1 : decode cX12_addsShort 1 = .ok (.aload_n 0, 1) := by decide +kernel
theorem dX12_addsShort_2 : decode cX12_addsShort 2 = .ok (.getfield 462, 3) := by decide +kernel
theorem dX12_addsShort_5 : decode cX12_addsShort 5 = .ok (.aload_n 0, 1) := by decide +kernel
theorem dX12_addsShort_6 : decode cX12_addsShort 6 = .ok (.getfield 465, 3) := by decide +kernel
theorem dX12_addsShort_9 : decode cX12_addsShort 9 = .ok (.aload_n 0, 1) := by decide +kernel
theorem dX12_addsShort_10 : decode cX12_addsShort 10 = .ok (.getfield 468, 3) := by decide +kernel
theorem dX12_addsShort_13 : decode cX12_addsShort 13 = .ok (.invokevirtual 381, 3) := by decide +kernel
theorem dX12_addsShort_16 : decode cX12_addsShort 16 = .ok (.aload_n 0, 1) := by decide +kernel
theorem dX12_addsShort_17 : decode cX12_addsShort 17 = .ok (.getfield 310, 3) := by decide +kernel
theorem dX12_addsShort_20 : decode cX12_addsShort 20 = .ok (.bipush 10, 2) := by decide +kernel
theorem dX12_addsShort_22 : decode cX12_addsShort 22 = .ok (.if_icmp .eq 29, 3) := by decide +kernel
theorem dX12_addsShort_25 : decode cX12_addsShort 25 = .ok (.aload_n 0, 1) := by decide +kernel
theorem dX12_addsShort_26 : decode cX12_addsShort 26 = .ok (.getfield 319, 3) := by decide +kernel
theorem dX12_addsShort_29 : decode cX12_addsShort 29 = .ok (.bipush 6, 2) := by decide +kernel
theorem dX12_addsShort_31 : decode cX12_addsShort 31 = .ok (.if_icmp .gt 20, 3) := by decide +kernel
theorem dX12_addsShort_34 : decode cX12_addsShort 34 = .ok (.aload_n 0, 1) := by decide +kernel
theorem dX12_addsShort_35 : decode cX12_addsShort 35 = .ok (.aload_n 0, 1) := by decide +kernel
theorem dX12_addsShort_36 : decode cX12_addsShort 36 = .ok (.getfield 72, 3) := by decide +kernel
theorem dX12_addsShort_39 : decode cX12_addsShort 39 = .ok (.iconst 0, 1) := by decide +kernel
theorem dX12_addsShort_40 : decode cX12_addsShort 40 = .ok (.aload_n 0, 1) := by decide +kernel
theorem dX12_addsShort_41 : decode cX12_addsShort 41 = .ok (.getfield 319, 3) := by decide +kernel
theorem dX12_addsShort_44 : decode cX12_addsShort 44 = .ok (.invokevirtual 328, 3) := by decide +kernel
theorem dX12_addsShort_47 : decode cX12_addsShort 47 = .ok (.iconst 3, 1) := by decide +kernel
theorem dX12_addsShort_48 : decode cX12_addsShort 48 = .ok (.if_icmp .le 5, 3) := by decide +kernel
theorem dX12_addsShort_51 : decode cX12_addsShort 51 = .ok (.iconst 0, 1) := by decide +kernel
theorem dX12_addsShort_52 : decode cX12_addsShort 52 = .ok (.ireturn, 1) := by decide +kernel
theorem dX12_addsShort_53 : decode cX12_addsShort 53 = .ok (.aload_n 0, 1) := by decide +kernel
theorem dX12_addsShort_54 : decode cX12_addsShort 54 = .ok (.getfield 39, 3) := by decide +kernel
theorem dX12_addsShort_57 : decode cX12_addsShort 57 = .ok (.aload_n 0, 1) := by decide +kernel
theorem dX12_addsShort_58 : decode cX12_addsShort 58 = .ok (.getfield 310, 3) := by decide +kernel
theorem dX12_addsShort_61 : decode cX12_addsShort 61 = .ok (.aload_n 0, 1) := by decide +kernel
theorem dX12_addsShort_62 : decode cX12_addsShort 62 = .ok (.getfield 319, 3) := by decide +kernel
theorem dX12_addsShort_65 : decode cX12_addsShort 65 = .ok (.iastore, 1) := by decide +kernel
theorem dX12_addsShort_66 : decode cX12_addsShort 66 = .ok (.iconst 0, 1) := by decide +kernel
theorem dX12_addsShort_67 : decode cX12_addsShort 67 = .ok (.istore_n 1, 1) := by decide +kernel
theorem dX12_addsShort_68 : decode cX12_addsShort 68 = .ok (.iload_n 1, 1) := by decide +kernel
theorem dX12_addsShort_69 : decode cX12_addsShort 69 = .ok (.aload_n 0, 1) := by decide +kernel
theorem dX12_addsShort_70 : decode cX12_addsShort 70 = .ok (.getfield 319, 3) := by decide +kernel
theorem dX12_addsShort_73 : decode cX12_addsShort 73 = .ok (.if_icmp .ge 49, 3) := by decide +kernel
theorem dX12_addsShort_76 : decode cX12_addsShort 76 = .ok (.aload_n 0, 1) := by decide +kernel
theorem dX12_addsShort_77 : decode cX12_addsShort 77 = .ok (.getfield 42, 3) := by decide +kernel
theorem dX12_addsShort_80 : decode cX12_addsShort 80 = .ok (.bipush 6, 2) := by decide +kernel
theorem dX12_addsShort_82 : decode cX12_addsShort 82 = .ok (.aload_n 0, 1) := by decide +kernel
theorem dX12_addsShort_83 : decode cX12_addsShort 83 = .ok (.getfield 310, 3) := by decide +kernel
theorem dX12_addsShort_86 : decode cX12_addsShort 86 = .ok (.imul, 1) := by decide +kernel
theorem dX12_addsShort_87 : decode cX12_addsShort 87 = .ok (.iload_n 1, 1) := by decide +kernel
theorem dX12_addsShort_88 : decode cX12_addsShort 88 = .ok (.iadd, 1) := by decide +kernel
theorem dX12_addsShort_89 : decode cX12_addsShort 89 = .ok (.aload_n 0, 1) := by decide +kernel
theorem dX12_addsShort_90 : decode cX12_addsShort 90 = .ok (.getfield 69, 3) := by decide +kernel
theorem dX12_addsShort_93 : decode cX12_addsShort 93 = .ok (.iload_n 1, 1) := by decide +kernel
theorem dX12_addsShort_94 : decode cX12_addsShort 94 = .ok (.iaload, 1) := by decide +kernel
theorem dX12_addsShort_95 : decode cX12_addsShort 95 = .ok (.iastore, 1) := by decide +kernel
theorem dX12_addsShort_96 : decode cX12_addsShort 96 = .ok (.aload_n 0, 1) := by decide +kernel
theorem dX12_addsShort_97 : decode cX12_addsShort 97 = .ok (.getfield 45, 3) := by decide +kernel
theorem dX12_addsShort_100 : decode cX12_addsShort 100 = .ok (.bipush 6, 2) := by decide +kernel
theorem dX12_addsShort_102 : decode cX12_addsShort 102 = .ok (.aload_n 0, 1) := by decide +kernel
theorem dX12_addsShort_103 : decode cX12_addsShort 103 = .ok (.getfield 310, 3) := by decide +kernel
theorem dX12_addsShort_106 : decode cX12_addsShort 106 = .ok (.imul, 1) := by decide +kernel
theorem dX12_addsShort_107 : decode cX12_addsShort 107 = .ok (.iload_n 1, 1) := by decide +kernel
theorem dX12_addsShort_108 : decode cX12_addsShort 108 = .ok (.iadd, 1) := by decide +kernel
theorem dX12_addsShort_109 : decode cX12_addsShort 109 = .ok (.aload_n 0, 1) := by decide +kernel
theorem dX12_addsShort_110 : decode cX12_addsShort 110 = .ok (.getfield 72, 3) := by decide +kernel
theorem dX12_addsShort_113 : decode cX12_addsShort 113 = .ok (.iload_n 1, 1) := by decide +kernel
theorem dX12_addsShort_114 : decode cX12_addsShort 114 = .ok (.iaload, 1) := by decide +kernel
theorem dX12_addsShort_115 : decode cX12_addsShort 115 = .ok (.iastore, 1) := by decide +kernel
theorem dX12_addsShort_116 : decode cX12_addsShort 116 = .ok (.iinc 1 1, 3) := by decide +kernel
theorem dX12_addsShort_119 : decode cX12_addsShort 119 = .ok (.goto (-51), 3) := by decide +kernel
theorem dX12_addsShort_122 : decode cX12_addsShort 122 = .ok (.aload_n 0, 1) := by decide +kernel
theorem dX12_addsShort_123 : decode cX12_addsShort 123 = .ok (.dup, 1) := by decide +kernel
theorem dX12_addsShort_124 : decode cX12_addsShort 124 = .ok (.getfield 310, 3) := by decide +kernel
theorem dX12_addsShort_127 : decode cX12_addsShort 127 = .ok (.iconst 1, 1) := by decide +kernel
theorem dX12_addsShort_128 : decode cX12_addsShort 128 = .ok (.iadd, 1) := by decide +kernel
theorem dX12_addsShort_129 : decode cX12_addsShort 129 = .ok (.putfield 310, 3) := by decide +kernel
theorem dX12_addsShort_132 : decode cX12_addsShort 132 = .ok (.iconst 1, 1) := by decide +kernel
theorem dX12_addsShort_133 : decode cX12_addsShort 133 = .ok (.ireturn, 1) := by decide +kernel
theorem dX12_addsShown_0 : decode cX12_addsShown 0 = .ok (.aload_n 0, 1) := by decide +kernel
theorem dX12_addsShown_1 : decode cX12_addsShown 1 = .ok (.aload_n 0, 1) := by decide +kernel
theorem dX12_addsShown_2 : decode cX12_addsShown 2 = .ok (.getfield 462, 3) := by decide +kernel
theorem dX12_addsShown_5 : decode cX12_addsShown 5 = .ok (.aload_n 0, 1) := by decide +kernel
theorem dX12_addsShown_6 : decode cX12_addsShown 6 = .ok (.getfield 465, 3) := by decide +kernel
theorem dX12_addsShown_9 : decode cX12_addsShown 9 = .ok (.aload_n 0, 1) := by decide +kernel
theorem dX12_addsShown_10 : decode cX12_addsShown 10 = .ok (.getfield 468, 3) := by decide +kernel
theorem dX12_addsShown_13 : decode cX12_addsShown 13 = .ok (.invokevirtual 381, 3) := by decide +kernel
theorem dX12_addsShown_16 : decode cX12_addsShown 16 = .ok (.aload_n 0, 1) := by decide +kernel
theorem dX12_addsShown_17 : decode cX12_addsShown 17 = .ok (.aload_n 0, 1) := by decide +kernel
theorem dX12_addsShown_18 : decode cX12_addsShown 18 = .ok (.getfield 471, 3) := by decide +kernel
theorem dX12_addsShown_21 : decode cX12_addsShown 21 = .ok (.invokevirtual 548, 3) := by decide +kernel
theorem dX12_addsShown_24 : decode cX12_addsShown 24 = .ok (.aload_n 0, 1) := by decide +kernel
theorem dX12_addsShown_25 : decode cX12_addsShown 25 = .ok (.iconst 0, 1) := by decide +kernel
theorem dX12_addsShown_26 : decode cX12_addsShown 26 = .ok (.putfield 319, 3) := by decide +kernel
theorem dX12_addsShown_29 : decode cX12_addsShown 29 = .ok (.aload_n 0, 1) := by decide +kernel
theorem dX12_addsShown_30 : decode cX12_addsShown 30 = .ok (.aload_n 0, 1) := by decide +kernel
theorem dX12_addsShown_31 : decode cX12_addsShown 31 = .ok (.getfield 465, 3) := by decide +kernel
theorem dX12_addsShown_34 : decode cX12_addsShown 34 = .ok (.aload_n 0, 1) := by decide +kernel
theorem dX12_addsShown_35 : decode cX12_addsShown 35 = .ok (.getfield 468, 3) := by decide +kernel
theorem dX12_addsShown_38 : decode cX12_addsShown 38 = .ok (.invokevirtual 325, 3) := by decide +kernel
theorem dX12_addsShown_41 : decode cX12_addsShown 41 = .ok (.iconst 0, 1) := by decide +kernel
theorem dX12_addsShown_42 : decode cX12_addsShown 42 = .ok (.istore_n 1, 1) := by decide +kernel
theorem dX12_addsShown_43 : decode cX12_addsShown 43 = .ok (.iload_n 1, 1) := by decide +kernel
theorem dX12_addsShown_44 : decode cX12_addsShown 44 = .ok (.aload_n 0, 1) := by decide +kernel
theorem dX12_addsShown_45 : decode cX12_addsShown 45 = .ok (.getfield 48, 3) := by decide +kernel
theorem dX12_addsShown_48 : decode cX12_addsShown 48 = .ok (.aload_n 0, 1) := by decide +kernel
theorem dX12_addsShown_49 : decode cX12_addsShown 49 = .ok (.getfield 366, 3) := by decide +kernel
theorem dX12_addsShown_52 : decode cX12_addsShown 52 = .ok (.iaload, 1) := by decide +kernel
theorem dX12_addsShown_53 : decode cX12_addsShown 53 = .ok (.if_icmp .ge 46, 3) := by decide +kernel
theorem dX12_addsShown_56 : decode cX12_addsShown 56 = .ok (.aload_n 0, 1) := by decide +kernel
theorem dX12_addsShown_57 : decode cX12_addsShown 57 = .ok (.aload_n 0, 1) := by decide +kernel
theorem dX12_addsShown_58 : decode cX12_addsShown 58 = .ok (.getfield 51, 3) := by decide +kernel
theorem dX12_addsShown_61 : decode cX12_addsShown 61 = .ok (.bipush 6, 2) := by decide +kernel
theorem dX12_addsShown_63 : decode cX12_addsShown 63 = .ok (.aload_n 0, 1) := by decide +kernel
theorem dX12_addsShown_64 : decode cX12_addsShown 64 = .ok (.getfield 366, 3) := by decide +kernel
theorem dX12_addsShown_67 : decode cX12_addsShown 67 = .ok (.imul, 1) := by decide +kernel
theorem dX12_addsShown_68 : decode cX12_addsShown 68 = .ok (.iload_n 1, 1) := by decide +kernel
theorem dX12_addsShown_69 : decode cX12_addsShown 69 = .ok (.iadd, 1) := by decide +kernel
theorem dX12_addsShown_70 : decode cX12_addsShown 70 = .ok (.iaload, 1) := by decide +kernel
theorem dX12_addsShown_71 : decode cX12_addsShown 71 = .ok (.aload_n 0, 1) := by decide +kernel
theorem dX12_addsShown_72 : decode cX12_addsShown 72 = .ok (.getfield 81, 3) := by decide +kernel
theorem dX12_addsShown_75 : decode cX12_addsShown 75 = .ok (.aload_n 0, 1) := by decide +kernel
theorem dX12_addsShown_76 : decode cX12_addsShown 76 = .ok (.getfield 54, 3) := by decide +kernel
theorem dX12_addsShown_79 : decode cX12_addsShown 79 = .ok (.bipush 6, 2) := by decide +kernel
theorem dX12_addsShown_81 : decode cX12_addsShown 81 = .ok (.aload_n 0, 1) := by decide +kernel
theorem dX12_addsShown_82 : decode cX12_addsShown 82 = .ok (.getfield 366, 3) := by decide +kernel
theorem dX12_addsShown_85 : decode cX12_addsShown 85 = .ok (.imul, 1) := by decide +kernel
theorem dX12_addsShown_86 : decode cX12_addsShown 86 = .ok (.iload_n 1, 1) := by decide +kernel
theorem dX12_addsShown_87 : decode cX12_addsShown 87 = .ok (.iadd, 1) := by decide +kernel
theorem dX12_addsShown_88 : decode cX12_addsShown 88 = .ok (.iaload, 1) := by decide +kernel
theorem dX12_addsShown_89 : decode cX12_addsShown 89 = .ok (.iaload, 1) := by decide +kernel
theorem dX12_addsShown_90 : decode cX12_addsShown 90 = .ok (.invokevirtual 325, 3) := by decide +kernel
theorem dX12_addsShown_93 : decode cX12_addsShown 93 = .ok (.iinc 1 1, 3) := by decide +kernel
theorem dX12_addsShown_96 : decode cX12_addsShown 96 = .ok (.goto (-53), 3) := by decide +kernel
theorem dX12_addsShown_99 : decode cX12_addsShown 99 = .ok (.aload_n 0, 1) := by decide +kernel
theorem dX12_addsShown_100 : decode cX12_addsShown 100 = .ok (.invokevirtual 551, 3) := by decide +kernel
theorem dX12_addsShown_103 : decode cX12_addsShown 103 = .ok (.ireturn, 1) := by decide +kernel
theorem dX12_addsSplit_0 : decode cX12_addsSplit 0 = .ok (.aload_n 0, 1) := by decide +kernel
theorem dX12_addsSplit_1 : decode cX12_addsSplit 1 = .ok (.iconst 0, 1) := by decide +kernel
theorem dX12_addsSplit_2 : decode cX12_addsSplit 2 = .ok (.putfield 319, 3) := by decide +kernel
theorem dX12_addsSplit_5 : decode cX12_addsSplit 5 = .ok (.aload_n 0, 1) := by decide +kernel
theorem dX12_addsSplit_6 : decode cX12_addsSplit 6 = .ok (.getfield 437, 3) := by decide +kernel
theorem dX12_addsSplit_9 : decode cX12_addsSplit 9 = .ok (.iconst 1, 1) := by decide +kernel
theorem dX12_addsSplit_10 : decode cX12_addsSplit 10 = .ok (.iadd, 1) := by decide +kernel
theorem dX12_addsSplit_11 : decode cX12_addsSplit 11 = .ok (.istore_n 1, 1) := by decide +kernel
theorem dX12_addsSplit_12 : decode cX12_addsSplit 12 = .ok (.iload_n 1, 1) := by decide +kernel
theorem dX12_addsSplit_13 : decode cX12_addsSplit 13 = .ok (.aload_n 0, 1) := by decide +kernel
theorem dX12_addsSplit_14 : decode cX12_addsSplit 14 = .ok (.getfield 434, 3) := by decide +kernel
theorem dX12_addsSplit_17 : decode cX12_addsSplit 17 = .ok (.if_icmp .ge 25, 3) := by decide +kernel
theorem dX12_addsSplit_20 : decode cX12_addsSplit 20 = .ok (.aload_n 0, 1) := by decide +kernel
theorem dX12_addsSplit_21 : decode cX12_addsSplit 21 = .ok (.aload_n 0, 1) := by decide +kernel
theorem dX12_addsSplit_22 : decode cX12_addsSplit 22 = .ok (.getfield 96, 3) := by decide +kernel
theorem dX12_addsSplit_25 : decode cX12_addsSplit 25 = .ok (.iload_n 1, 1) := by decide +kernel
theorem dX12_addsSplit_26 : decode cX12_addsSplit 26 = .ok (.iaload, 1) := by decide +kernel
theorem dX12_addsSplit_27 : decode cX12_addsSplit 27 = .ok (.aload_n 0, 1) := by decide +kernel
theorem dX12_addsSplit_28 : decode cX12_addsSplit 28 = .ok (.getfield 99, 3) := by decide +kernel
theorem dX12_addsSplit_31 : decode cX12_addsSplit 31 = .ok (.iload_n 1, 1) := by decide +kernel
theorem dX12_addsSplit_32 : decode cX12_addsSplit 32 = .ok (.iaload, 1) := by decide +kernel
theorem dX12_addsSplit_33 : decode cX12_addsSplit 33 = .ok (.invokevirtual 325, 3) := by decide +kernel
theorem dX12_addsSplit_36 : decode cX12_addsSplit 36 = .ok (.iinc 1 1, 3) := by decide +kernel
theorem dX12_addsSplit_39 : decode cX12_addsSplit 39 = .ok (.goto (-27), 3) := by decide +kernel
theorem dX12_addsSplit_42 : decode cX12_addsSplit 42 = .ok (.aload_n 0, 1) := by decide +kernel
theorem dX12_addsSplit_43 : decode cX12_addsSplit 43 = .ok (.invokevirtual 551, 3) := by decide +kernel
theorem dX12_addsSplit_46 : decode cX12_addsSplit 46 = .ok (.ireturn, 1) := by decide +kernel
theorem dX12_steps_0 : decode cX12_steps 0 = .ok (.aload_n 0, 1) := by decide +kernel
theorem dX12_steps_1 : decode cX12_steps 1 = .ok (.invokevirtual 554, 3) := by decide +kernel
theorem dX12_steps_4 : decode cX12_steps 4 = .ok (.aload_n 0, 1) := by decide +kernel
theorem dX12_steps_5 : decode cX12_steps 5 = .ok (.getfield 440, 3) := by decide +kernel
theorem dX12_steps_8 : decode cX12_steps 8 = .ok (.ifCond .eq 46, 3) := by decide +kernel
theorem dX12_steps_11 : decode cX12_steps 11 = .ok (.aload_n 0, 1) := by decide +kernel
theorem dX12_steps_12 : decode cX12_steps 12 = .ok (.getfield 440, 3) := by decide +kernel
theorem dX12_steps_15 : decode cX12_steps 15 = .ok (.iconst 1, 1) := by decide +kernel
theorem dX12_steps_16 : decode cX12_steps 16 = .ok (.if_icmp .ne 13, 3) := by decide +kernel
theorem dX12_steps_19 : decode cX12_steps 19 = .ok (.aload_n 0, 1) := by decide +kernel
theorem dX12_steps_20 : decode cX12_steps 20 = .ok (.invokevirtual 557, 3) := by decide +kernel
theorem dX12_steps_23 : decode cX12_steps 23 = .ok (.ifCond .eq 35, 3) := by decide +kernel
theorem dX12_steps_26 : decode cX12_steps 26 = .ok (.goto 28, 3) := by decide +kernel
theorem dX12_steps_29 : decode cX12_steps 29 = .ok (.aload_n 0, 1) := by decide +kernel
theorem dX12_steps_30 : decode cX12_steps 30 = .ok (.getfield 440, 3) := by decide +kernel
theorem dX12_steps_33 : decode cX12_steps 33 = .ok (.iconst 2, 1) := by decide +kernel
theorem dX12_steps_34 : decode cX12_steps 34 = .ok (.if_icmp .ne 13, 3) := by decide +kernel
theorem dX12_steps_37 : decode cX12_steps 37 = .ok (.aload_n 0, 1) := by decide +kernel
theorem dX12_steps_38 : decode cX12_steps 38 = .ok (.invokevirtual 560, 3) := by decide +kernel
theorem dX12_steps_41 : decode cX12_steps 41 = .ok (.ifCond .eq 17, 3) := by decide +kernel
theorem dX12_steps_44 : decode cX12_steps 44 = .ok (.goto 10, 3) := by decide +kernel
theorem dX12_steps_47 : decode cX12_steps 47 = .ok (.aload_n 0, 1) := by decide +kernel
theorem dX12_steps_48 : decode cX12_steps 48 = .ok (.invokevirtual 563, 3) := by decide +kernel
theorem dX12_steps_51 : decode cX12_steps 51 = .ok (.ifCond .eq 7, 3) := by decide +kernel
theorem dX12_steps_54 : decode cX12_steps 54 = .ok (.iconst 1, 1) := by decide +kernel
theorem dX12_steps_55 : decode cX12_steps 55 = .ok (.goto 4, 3) := by decide +kernel
theorem dX12_steps_58 : decode cX12_steps 58 = .ok (.iconst 0, 1) := by decide +kernel
theorem dX12_steps_59 : decode cX12_steps 59 = .ok (.istore_n 1, 1) := by decide +kernel
theorem dX12_steps_60 : decode cX12_steps 60 = .ok (.iload_n 1, 1) := by decide +kernel
theorem dX12_steps_61 : decode cX12_steps 61 = .ok (.ifCond .ne 6, 3) := by decide +kernel
theorem dX12_steps_64 : decode cX12_steps 64 = .ok (.bipush (-4), 2) := by decide +kernel
theorem dX12_steps_66 : decode cX12_steps 66 = .ok (.ireturn, 1) := by decide +kernel
theorem dX12_steps_67 : decode cX12_steps 67 = .ok (.aload_n 0, 1) := by decide +kernel
theorem dX12_steps_68 : decode cX12_steps 68 = .ok (.getfield 440, 3) := by decide +kernel
theorem dX12_steps_71 : decode cX12_steps 71 = .ok (.istore_n 2, 1) := by decide +kernel
theorem dX12_steps_72 : decode cX12_steps 72 = .ok (.iload_n 2, 1) := by decide +kernel
theorem dX12_steps_73 : decode cX12_steps 73 = .ok (.ifCond .eq 8, 3) := by decide +kernel
theorem dX12_steps_76 : decode cX12_steps 76 = .ok (.aload_n 0, 1) := by decide +kernel
theorem dX12_steps_77 : decode cX12_steps 77 = .ok (.iconst 0, 1) := by decide +kernel
theorem dX12_steps_78 : decode cX12_steps 78 = .ok (.putfield 316, 3) := by decide +kernel
theorem dX12_steps_81 : decode cX12_steps 81 = .ok (.iload_n 2, 1) := by decide +kernel
theorem dX12_steps_82 : decode cX12_steps 82 = .ok (.ireturn, 1) := by decide +kernel
theorem dX12_isLong_0 : decode cX12_isLong 0 = .ok (.aload_n 0, 1) := by decide +kernel
theorem dX12_isLong_1 : decode cX12_isLong 1 = .ok (.getfield 319, 3) := by decide +kernel
theorem dX12_isLong_4 : decode cX12_isLong 4 = .ok (.bipush 6, 2) := by decide +kernel
theorem dX12_isLong_6 : decode cX12_isLong 6 = .ok (.if_icmp .gt 20, 3) := by decide +kernel
theorem dX12_isLong_9 : decode cX12_isLong 9 = .ok (.aload_n 0, 1) := by decide +kernel
theorem dX12_isLong_10 : decode cX12_isLong 10 = .ok (.aload_n 0, 1) := by decide +kernel
theorem dX12_isLong_11 : decode cX12_isLong 11 = .ok (.getfield 72, 3) := by decide +kernel
theorem dX12_isLong_14 : decode cX12_isLong 14 = .ok (.iconst 0, 1) := by decide +kernel
theorem dX12_isLong_15 : decode cX12_isLong 15 = .ok (.aload_n 0, 1) := by decide +kernel
theorem dX12_isLong_16 : decode cX12_isLong 16 = .ok (.getfield 319, 3) := by decide +kernel
theorem dX12_isLong_19 : decode cX12_isLong 19 = .ok (.invokevirtual 328, 3) := by decide +kernel
theorem dX12_isLong_22 : decode cX12_isLong 22 = .ok (.iconst 4, 1) := by decide +kernel
theorem dX12_isLong_23 : decode cX12_isLong 23 = .ok (.if_icmp .le 7, 3) := by decide +kernel
theorem dX12_isLong_26 : decode cX12_isLong 26 = .ok (.iconst 1, 1) := by decide +kernel
theorem dX12_isLong_27 : decode cX12_isLong 27 = .ok (.goto 4, 3) := by decide +kernel
theorem dX12_isLong_30 : decode cX12_isLong 30 = .ok (.iconst 0, 1) := by decide +kernel
theorem dX12_isLong_31 : decode cX12_isLong 31 = .ok (.ireturn, 1) := by decide +kernel
theorem dX12_remembered_0 : decode cX12_remembered 0 = .ok (.aload_n 0, 1) := by decide +kernel
theorem dX12_remembered_1 : decode cX12_remembered 1 = .ok (.iconst 0, 1) := by decide +kernel
theorem dX12_remembered_2 : decode cX12_remembered 2 = .ok (.putfield 1, 3) := by decide +kernel
theorem dX12_remembered_5 : decode cX12_remembered 5 = .ok (.aload_n 0, 1) := by decide +kernel
theorem dX12_remembered_6 : decode cX12_remembered 6 = .ok (.invokevirtual 566, 3) := by decide +kernel
theorem dX12_remembered_9 : decode cX12_remembered 9 = .ok (.aload_n 0, 1) := by decide +kernel
theorem dX12_remembered_10 : decode cX12_remembered 10 = .ok (.invokevirtual 569, 3) := by decide +kernel
theorem dX12_remembered_13 : decode cX12_remembered 13 = .ok (.ifCond .eq 8, 3) := by decide +kernel
theorem dX12_remembered_16 : decode cX12_remembered 16 = .ok (.bipush (-4), 2) := by decide +kernel
theorem dX12_remembered_18 : decode cX12_remembered 18 = .ok (.goto 9, 3) := by decide +kernel
theorem dX12_remembered_21 : decode cX12_remembered 21 = .ok (.aload_n 0, 1) := by decide +kernel
theorem dX12_remembered_22 : decode cX12_remembered 22 = .ok (.iconst 0, 1) := by decide +kernel
theorem dX12_remembered_23 : decode cX12_remembered 23 = .ok (.iconst 0, 1) := by decide +kernel
theorem dX12_remembered_24 : decode cX12_remembered 24 = .ok (.invokevirtual 375, 3) := by decide +kernel
theorem dX12_remembered_27 : decode cX12_remembered 27 = .ok (.ireturn, 1) := by decide +kernel
theorem dX12_alike_0 : decode cX12_alike 0 = .ok (.aload_n 0, 1) := by decide +kernel
theorem dX12_alike_1 : decode cX12_alike 1 = .ok (.iconst 0, 1) := by decide +kernel
theorem dX12_alike_2 : decode cX12_alike 2 = .ok (.putfield 1, 3) := by decide +kernel
theorem dX12_alike_5 : decode cX12_alike 5 = .ok (.iload_n 1, 1) := by decide +kernel
theorem dX12_alike_6 : decode cX12_alike 6 = .ok (.i2l, 1) := by decide +kernel
theorem dX12_alike_7 : decode cX12_alike 7 = .ok (.lconst 0, 1) := by decide +kernel
theorem dX12_alike_8 : decode cX12_alike 8 = .ok (.aload_n 0, 1) := by decide +kernel
theorem dX12_alike_9 : decode cX12_alike 9 = .ok (.getfield 310, 3) := by decide +kernel
theorem dX12_alike_12 : decode cX12_alike 12 = .ok (.iconst 1, 1) := by decide +kernel
theorem dX12_alike_13 : decode cX12_alike 13 = .ok (.isub, 1) := by decide +kernel
theorem dX12_alike_14 : decode cX12_alike 14 = .ok (.i2l, 1) := by decide +kernel
theorem dX12_alike_15 : decode cX12_alike 15 = .ok (.invokestatic 182, 3) := by decide +kernel
theorem dX12_alike_18 : decode cX12_alike 18 = .ok (.ifCond .ne 6, 3) := by decide +kernel
theorem dX12_alike_21 : decode cX12_alike 21 = .ok (.bipush (-2), 2) := by decide +kernel
theorem dX12_alike_23 : decode cX12_alike 23 = .ok (.ireturn, 1) := by decide +kernel
theorem dX12_alike_24 : decode cX12_alike 24 = .ok (.aload_n 0, 1) := by decide +kernel
theorem dX12_alike_25 : decode cX12_alike 25 = .ok (.invokevirtual 566, 3) := by decide +kernel
theorem dX12_alike_28 : decode cX12_alike 28 = .ok (.aload_n 0, 1) := by decide +kernel
theorem dX12_alike_29 : decode cX12_alike 29 = .ok (.invokevirtual 569, 3) := by decide +kernel
theorem dX12_alike_32 : decode cX12_alike 32 = .ok (.ifCond .eq 6, 3) := by decide +kernel
theorem dX12_alike_35 : decode cX12_alike 35 = .ok (.bipush (-4), 2) := by decide +kernel
theorem dX12_alike_37 : decode cX12_alike 37 = .ok (.ireturn, 1) := by decide +kernel
theorem dX12_alike_38 : decode cX12_alike 38 = .ok (.aload_n 0, 1) := by decide +kernel
theorem dX12_alike_39 : decode cX12_alike 39 = .ok (.iconst 0, 1) := by decide +kernel
theorem dX12_alike_40 : decode cX12_alike 40 = .ok (.iconst 0, 1) := by decide +kernel
theorem dX12_alike_41 : decode cX12_alike 41 = .ok (.invokevirtual 375, 3) := by decide +kernel
theorem dX12_alike_44 : decode cX12_alike 44 = .ok (.istore_n 2, 1) := by decide +kernel
theorem dX12_alike_45 : decode cX12_alike 45 = .ok (.aload_n 0, 1) := by decide +kernel
theorem dX12_alike_46 : decode cX12_alike 46 = .ok (.iload_n 2, 1) := by decide +kernel
theorem dX12_alike_47 : decode cX12_alike 47 = .ok (.iload_n 1, 1) := by decide +kernel
theorem dX12_alike_48 : decode cX12_alike 48 = .ok (.invokevirtual 425, 3) := by decide +kernel
theorem dX12_alike_51 : decode cX12_alike 51 = .ok (.istore_n 3, 1) := by decide +kernel
theorem dX12_alike_52 : decode cX12_alike 52 = .ok (.iload_n 3, 1) := by decide +kernel
theorem dX12_alike_53 : decode cX12_alike 53 = .ok (.iconst (-1), 1) := by decide +kernel
theorem dX12_alike_54 : decode cX12_alike 54 = .ok (.if_icmp .ne 5, 3) := by decide +kernel
theorem dX12_alike_57 : decode cX12_alike 57 = .ok (.iconst (-1), 1) := by decide +kernel
theorem dX12_alike_58 : decode cX12_alike 58 = .ok (.ireturn, 1) := by decide +kernel
theorem dX12_alike_59 : decode cX12_alike 59 = .ok (.iconst 0, 1) := by decide +kernel
theorem dX12_alike_60 : decode cX12_alike 60 = .ok (.istore 4, 2) := by decide +kernel
theorem dX12_alike_62 : decode cX12_alike 62 = .ok (.iconst 0, 1) := by decide +kernel
theorem dX12_alike_63 : decode cX12_alike 63 = .ok (.istore 5, 2) := by decide +kernel
theorem dX12_alike_65 : decode cX12_alike 65 = .ok (.iload 5, 2) := by decide +kernel
theorem dX12_alike_67 : decode cX12_alike 67 = .ok (.iload_n 2, 1) := by decide +kernel
theorem dX12_alike_68 : decode cX12_alike 68 = .ok (.invokestatic 410, 3) := by decide +kernel
theorem dX12_alike_71 : decode cX12_alike 71 = .ok (.if_icmp .ge 32, 3) := by decide +kernel
theorem dX12_alike_74 : decode cX12_alike 74 = .ok (.bipush 10, 2) := by decide +kernel
theorem dX12_alike_76 : decode cX12_alike 76 = .ok (.iload 4, 2) := by decide +kernel
theorem dX12_alike_78 : decode cX12_alike 78 = .ok (.imul, 1) := by decide +kernel
theorem dX12_alike_79 : decode cX12_alike 79 = .ok (.iconst 1, 1) := by decide +kernel
theorem dX12_alike_80 : decode cX12_alike 80 = .ok (.iadd, 1) := by decide +kernel
theorem dX12_alike_81 : decode cX12_alike 81 = .ok (.iload_n 3, 1) := by decide +kernel
theorem dX12_alike_82 : decode cX12_alike 82 = .ok (.ifCond .ne 8, 3) := by decide +kernel
theorem dX12_alike_85 : decode cX12_alike 85 = .ok (.iload 5, 2) := by decide +kernel
theorem dX12_alike_87 : decode cX12_alike 87 = .ok (.goto 7, 3) := by decide +kernel
theorem dX12_alike_90 : decode cX12_alike 90 = .ok (.iconst 1, 1) := by decide +kernel
theorem dX12_alike_91 : decode cX12_alike 91 = .ok (.iload 5, 2) := by decide +kernel
theorem dX12_alike_93 : decode cX12_alike 93 = .ok (.isub, 1) := by decide +kernel
theorem dX12_alike_94 : decode cX12_alike 94 = .ok (.iadd, 1) := by decide +kernel
theorem dX12_alike_95 : decode cX12_alike 95 = .ok (.istore 4, 2) := by decide +kernel
theorem dX12_alike_97 : decode cX12_alike 97 = .ok (.iinc 5 1, 3) := by decide +kernel
theorem dX12_alike_100 : decode cX12_alike 100 = .ok (.goto (-35), 3) := by decide +kernel
theorem dX12_alike_103 : decode cX12_alike 103 = .ok (.iload 4, 2) := by decide +kernel
theorem dX12_alike_105 : decode cX12_alike 105 = .ok (.ireturn, 1) := by decide +kernel
theorem dX12_begin_0 : decode cX12_begin 0 = .ok (.aload_n 0, 1) := by decide +kernel
theorem dX12_begin_1 : decode cX12_begin 1 = .ok (.iconst 0, 1) := by decide +kernel
theorem dX12_begin_2 : decode cX12_begin 2 = .ok (.putfield 1, 3) := by decide +kernel
theorem dX12_begin_5 : decode cX12_begin 5 = .ok (.aload_n 0, 1) := by decide +kernel
theorem dX12_begin_6 : decode cX12_begin 6 = .ok (.getfield 310, 3) := by decide +kernel
theorem dX12_begin_9 : decode cX12_begin 9 = .ok (.aload_n 0, 1) := by decide +kernel
theorem dX12_begin_10 : decode cX12_begin 10 = .ok (.getfield 313, 3) := by decide +kernel
theorem dX12_begin_13 : decode cX12_begin 13 = .ok (.iadd, 1) := by decide +kernel
theorem dX12_begin_14 : decode cX12_begin 14 = .ok (.istore_n 1, 1) := by decide +kernel
theorem dX12_begin_15 : decode cX12_begin 15 = .ok (.aload_n 0, 1) := by decide +kernel
theorem dX12_begin_16 : decode cX12_begin 16 = .ok (.invokevirtual 132, 3) := by decide +kernel
theorem dX12_begin_19 : decode cX12_begin 19 = .ok (.iload_n 1, 1) := by decide +kernel
theorem dX12_begin_20 : decode cX12_begin 20 = .ok (.ireturn, 1) := by decide +kernel
theorem dX12_step_0 : decode cX12_step 0 = .ok (.aload_n 0, 1) := by decide +kernel
theorem dX12_step_1 : decode cX12_step 1 = .ok (.iconst 0, 1) := by decide +kernel
theorem dX12_step_2 : decode cX12_step 2 = .ok (.putfield 1, 3) := by decide +kernel
theorem dX12_step_5 : decode cX12_step 5 = .ok (.aload_n 0, 1) := by decide +kernel
theorem dX12_step_6 : decode cX12_step 6 = .ok (.invokevirtual 572, 3) := by decide +kernel
theorem dX12_step_9 : decode cX12_step 9 = .ok (.ireturn, 1) := by decide +kernel
theorem dX12_learn_0 : decode cX12_learn 0 = .ok (.aload_n 0, 1) := by decide +kernel
theorem dX12_learn_1 : decode cX12_learn 1 = .ok (.iconst 0, 1) := by decide +kernel
theorem dX12_learn_2 : decode cX12_learn 2 = .ok (.putfield 1, 3) := by decide +kernel
theorem dX12_learn_5 : decode cX12_learn 5 = .ok (.iconst 0, 1) := by decide +kernel
theorem dX12_learn_6 : decode cX12_learn 6 = .ok (.istore_n 1, 1) := by decide +kernel
theorem dX12_learn_7 : decode cX12_learn 7 = .ok (.iload_n 1, 1) := by decide +kernel
theorem dX12_learn_8 : decode cX12_learn 8 = .ok (.bipush 40, 2) := by decide +kernel
theorem dX12_learn_10 : decode cX12_learn 10 = .ok (.if_icmp .ge 28, 3) := by decide +kernel
theorem dX12_learn_13 : decode cX12_learn 13 = .ok (.aload_n 0, 1) := by decide +kernel
theorem dX12_learn_14 : decode cX12_learn 14 = .ok (.invokevirtual 572, 3) := by decide +kernel
theorem dX12_learn_17 : decode cX12_learn 17 = .ok (.istore_n 2, 1) := by decide +kernel
theorem dX12_learn_18 : decode cX12_learn 18 = .ok (.iload_n 2, 1) := by decide +kernel
theorem dX12_learn_19 : decode cX12_learn 19 = .ok (.ifCond .gt 13, 3) := by decide +kernel
theorem dX12_learn_22 : decode cX12_learn 22 = .ok (.iload_n 2, 1) := by decide +kernel
theorem dX12_learn_23 : decode cX12_learn 23 = .ok (.ifCond .ge 7, 3) := by decide +kernel
theorem dX12_learn_26 : decode cX12_learn 26 = .ok (.iload_n 2, 1) := by decide +kernel
theorem dX12_learn_27 : decode cX12_learn 27 = .ok (.goto 4, 3) := by decide +kernel
theorem dX12_learn_30 : decode cX12_learn 30 = .ok (.iload_n 1, 1) := by decide +kernel
theorem dX12_learn_31 : decode cX12_learn 31 = .ok (.ireturn, 1) := by decide +kernel
theorem dX12_learn_32 : decode cX12_learn 32 = .ok (.iinc 1 1, 3) := by decide +kernel
theorem dX12_learn_35 : decode cX12_learn 35 = .ok (.goto (-28), 3) := by decide +kernel
theorem dX12_learn_38 : decode cX12_learn 38 = .ok (.bipush 40, 2) := by decide +kernel
theorem dX12_learn_40 : decode cX12_learn 40 = .ok (.ireturn, 1) := by decide +kernel
theorem dX12_told_0 : decode cX12_told 0 = .ok (.iload 4, 2) := by decide +kernel
theorem dX12_told_2 : decode cX12_told 2 = .ok (.iconst (-1), 1) := by decide +kernel
theorem dX12_told_3 : decode cX12_told 3 = .ok (.if_icmp .ne 17, 3) := by decide +kernel
theorem dX12_told_6 : decode cX12_told 6 = .ok (.iload 5, 2) := by decide +kernel
theorem dX12_told_8 : decode cX12_told 8 = .ok (.ifCond .ne 9, 3) := by decide +kernel
theorem dX12_told_11 : decode cX12_told 11 = .ok (.aload_n 0, 1) := by decide +kernel
theorem dX12_told_12 : decode cX12_told 12 = .ok (.iload_n 3, 1) := by decide +kernel
theorem dX12_told_13 : decode cX12_told 13 = .ok (.iaload, 1) := by decide +kernel
theorem dX12_told_14 : decode cX12_told 14 = .ok (.goto 5, 3) := by decide +kernel
theorem dX12_told_17 : decode cX12_told 17 = .ok (.bipush (-2), 2) := by decide +kernel
theorem dX12_told_19 : decode cX12_told 19 = .ok (.ireturn, 1) := by decide +kernel
theorem dX12_told_20 : decode cX12_told 20 = .ok (.iload 4, 2) := by decide +kernel
theorem dX12_told_22 : decode cX12_told 22 = .ok (.i2l, 1) := by decide +kernel
theorem dX12_told_23 : decode cX12_told 23 = .ok (.lconst 0, 1) := by decide +kernel
theorem dX12_told_24 : decode cX12_told 24 = .ok (.aload_n 0, 1) := by decide +kernel
theorem dX12_told_25 : decode cX12_told 25 = .ok (.iload_n 3, 1) := by decide +kernel
theorem dX12_told_26 : decode cX12_told 26 = .ok (.iaload, 1) := by decide +kernel
theorem dX12_told_27 : decode cX12_told 27 = .ok (.iconst 1, 1) := by decide +kernel
theorem dX12_told_28 : decode cX12_told 28 = .ok (.isub, 1) := by decide +kernel
theorem dX12_told_29 : decode cX12_told 29 = .ok (.i2l, 1) := by decide +kernel
theorem dX12_told_30 : decode cX12_told 30 = .ok (.invokestatic 182, 3) := by decide +kernel
theorem dX12_told_33 : decode cX12_told 33 = .ok (.ifCond .eq 14, 3) := by decide +kernel
theorem dX12_told_36 : decode cX12_told 36 = .ok (.iload 5, 2) := by decide +kernel
theorem dX12_told_38 : decode cX12_told 38 = .ok (.i2l, 1) := by decide +kernel
theorem dX12_told_39 : decode cX12_told 39 = .ok (.lconst 0, 1) := by decide +kernel
theorem dX12_told_40 : decode cX12_told 40 = .ok (.lconst 1, 1) := by decide +kernel
theorem dX12_told_41 : decode cX12_told 41 = .ok (.invokestatic 182, 3) := by decide +kernel
theorem dX12_told_44 : decode cX12_told 44 = .ok (.ifCond .ne 6, 3) := by decide +kernel
theorem dX12_told_47 : decode cX12_told 47 = .ok (.bipush (-2), 2) := by decide +kernel
theorem dX12_told_49 : decode cX12_told 49 = .ok (.ireturn, 1) := by decide +kernel
theorem dX12_told_50 : decode cX12_told 50 = .ok (.iload 5, 2) := by decide +kernel
theorem dX12_told_52 : decode cX12_told 52 = .ok (.ifCond .ne 15, 3) := by decide +kernel
theorem dX12_told_55 : decode cX12_told 55 = .ok (.aload_n 1, 1) := by decide +kernel
theorem dX12_told_56 : decode cX12_told 56 = .ok (.bipush 6, 2) := by decide +kernel
theorem dX12_told_58 : decode cX12_told 58 = .ok (.iload_n 3, 1) := by decide +kernel
theorem dX12_told_59 : decode cX12_told 59 = .ok (.imul, 1) := by decide +kernel
theorem dX12_told_60 : decode cX12_told 60 = .ok (.iload 4, 2) := by decide +kernel
theorem dX12_told_62 : decode cX12_told 62 = .ok (.iadd, 1) := by decide +kernel
theorem dX12_told_63 : decode cX12_told 63 = .ok (.iaload, 1) := by decide +kernel
theorem dX12_told_64 : decode cX12_told 64 = .ok (.goto 12, 3) := by decide +kernel
theorem dX12_told_67 : decode cX12_told 67 = .ok (.aload_n 2, 1) := by decide +kernel
theorem dX12_told_68 : decode cX12_told 68 = .ok (.bipush 6, 2) := by decide +kernel
theorem dX12_told_70 : decode cX12_told 70 = .ok (.iload_n 3, 1) := by decide +kernel
theorem dX12_told_71 : decode cX12_told 71 = .ok (.imul, 1) := by decide +kernel
theorem dX12_told_72 : decode cX12_told 72 = .ok (.iload 4, 2) := by decide +kernel
theorem dX12_told_74 : decode cX12_told 74 = .ok (.iadd, 1) := by decide +kernel
theorem dX12_told_75 : decode cX12_told 75 = .ok (.iaload, 1) := by decide +kernel
theorem dX12_told_76 : decode cX12_told 76 = .ok (.ireturn, 1) := by decide +kernel
theorem dX12_brief_0 : decode cX12_brief 0 = .ok (.aload_n 0, 1) := by decide +kernel
theorem dX12_brief_1 : decode cX12_brief 1 = .ok (.iconst 0, 1) := by decide +kernel
theorem dX12_brief_2 : decode cX12_brief 2 = .ok (.putfield 1, 3) := by decide +kernel
theorem dX12_brief_5 : decode cX12_brief 5 = .ok (.iload_n 1, 1) := by decide +kernel
theorem dX12_brief_6 : decode cX12_brief 6 = .ok (.i2l, 1) := by decide +kernel
theorem dX12_brief_7 : decode cX12_brief 7 = .ok (.lconst 0, 1) := by decide +kernel
theorem dX12_brief_8 : decode cX12_brief 8 = .ok (.aload_n 0, 1) := by decide +kernel
theorem dX12_brief_9 : decode cX12_brief 9 = .ok (.getfield 310, 3) := by decide +kernel
theorem dX12_brief_12 : decode cX12_brief 12 = .ok (.iconst 1, 1) := by decide +kernel
theorem dX12_brief_13 : decode cX12_brief 13 = .ok (.isub, 1) := by decide +kernel
theorem dX12_brief_14 : decode cX12_brief 14 = .ok (.i2l, 1) := by decide +kernel
theorem dX12_brief_15 : decode cX12_brief 15 = .ok (.invokestatic 182, 3) := by decide +kernel
theorem dX12_brief_18 : decode cX12_brief 18 = .ok (.ifCond .eq 24, 3) := by decide +kernel
theorem dX12_brief_21 : decode cX12_brief 21 = .ok (.aload_n 0, 1) := by decide +kernel
theorem dX12_brief_22 : decode cX12_brief 22 = .ok (.getfield 39, 3) := by decide +kernel
theorem dX12_brief_25 : decode cX12_brief 25 = .ok (.aload_n 0, 1) := by decide +kernel
theorem dX12_brief_26 : decode cX12_brief 26 = .ok (.getfield 42, 3) := by decide +kernel
theorem dX12_brief_29 : decode cX12_brief 29 = .ok (.aload_n 0, 1) := by decide +kernel
theorem dX12_brief_30 : decode cX12_brief 30 = .ok (.getfield 45, 3) := by decide +kernel
theorem dX12_brief_33 : decode cX12_brief 33 = .ok (.iload_n 1, 1) := by decide +kernel
theorem dX12_brief_34 : decode cX12_brief 34 = .ok (.iload_n 2, 1) := by decide +kernel
theorem dX12_brief_35 : decode cX12_brief 35 = .ok (.iload_n 3, 1) := by decide +kernel
theorem dX12_brief_36 : decode cX12_brief 36 = .ok (.invokestatic 575, 3) := by decide +kernel
theorem dX12_brief_39 : decode cX12_brief 39 = .ok (.goto 5, 3) := by decide +kernel
theorem dX12_brief_42 : decode cX12_brief 42 = .ok (.bipush (-2), 2) := by decide +kernel
theorem dX12_brief_44 : decode cX12_brief 44 = .ok (.ireturn, 1) := by decide +kernel
theorem dX12_test_0 : decode cX12_test 0 = .ok (.aload_n 0, 1) := by decide +kernel
theorem dX12_test_1 : decode cX12_test 1 = .ok (.iconst 0, 1) := by decide +kernel
theorem dX12_test_2 : decode cX12_test 2 = .ok (.putfield 1, 3) := by decide +kernel
theorem dX12_test_5 : decode cX12_test 5 = .ok (.iload_n 1, 1) := by decide +kernel
theorem dX12_test_6 : decode cX12_test 6 = .ok (.i2l, 1) := by decide +kernel
theorem dX12_test_7 : decode cX12_test 7 = .ok (.lconst 0, 1) := by decide +kernel
theorem dX12_test_8 : decode cX12_test 8 = .ok (.aload_n 0, 1) := by decide +kernel
theorem dX12_test_9 : decode cX12_test 9 = .ok (.getfield 313, 3) := by decide +kernel
theorem dX12_test_12 : decode cX12_test 12 = .ok (.iconst 1, 1) := by decide +kernel
theorem dX12_test_13 : decode cX12_test 13 = .ok (.isub, 1) := by decide +kernel
theorem dX12_test_14 : decode cX12_test 14 = .ok (.i2l, 1) := by decide +kernel
theorem dX12_test_15 : decode cX12_test 15 = .ok (.invokestatic 182, 3) := by decide +kernel
theorem dX12_test_18 : decode cX12_test 18 = .ok (.ifCond .eq 24, 3) := by decide +kernel
theorem dX12_test_21 : decode cX12_test 21 = .ok (.aload_n 0, 1) := by decide +kernel
theorem dX12_test_22 : decode cX12_test 22 = .ok (.getfield 48, 3) := by decide +kernel
theorem dX12_test_25 : decode cX12_test 25 = .ok (.aload_n 0, 1) := by decide +kernel
theorem dX12_test_26 : decode cX12_test 26 = .ok (.getfield 51, 3) := by decide +kernel
theorem dX12_test_29 : decode cX12_test 29 = .ok (.aload_n 0, 1) := by decide +kernel
theorem dX12_test_30 : decode cX12_test 30 = .ok (.getfield 54, 3) := by decide +kernel
theorem dX12_test_33 : decode cX12_test 33 = .ok (.iload_n 1, 1) := by decide +kernel
theorem dX12_test_34 : decode cX12_test 34 = .ok (.iload_n 2, 1) := by decide +kernel
theorem dX12_test_35 : decode cX12_test 35 = .ok (.iload_n 3, 1) := by decide +kernel
theorem dX12_test_36 : decode cX12_test 36 = .ok (.invokestatic 575, 3) := by decide +kernel
theorem dX12_test_39 : decode cX12_test 39 = .ok (.goto 5, 3) := by decide +kernel
theorem dX12_test_42 : decode cX12_test 42 = .ok (.bipush (-2), 2) := by decide +kernel
theorem dX12_test_44 : decode cX12_test 44 = .ok (.ireturn, 1) := by decide +kernel
theorem dX12_registers_0 : decode cX12_registers 0 = .ok (.aload_n 0, 1) := by decide +kernel
theorem dX12_registers_1 : decode cX12_registers 1 = .ok (.iconst 0, 1) := by decide +kernel
theorem dX12_registers_2 : decode cX12_registers 2 = .ok (.putfield 1, 3) := by decide +kernel
theorem dX12_registers_5 : decode cX12_registers 5 = .ok (.iload_n 1, 1) := by decide +kernel
theorem dX12_registers_6 : decode cX12_registers 6 = .ok (.i2l, 1) := by decide +kernel
theorem dX12_registers_7 : decode cX12_registers 7 = .ok (.lconst 0, 1) := by decide +kernel
theorem dX12_registers_8 : decode cX12_registers 8 = .ok (.aload_n 0, 1) := by decide +kernel
theorem dX12_registers_9 : decode cX12_registers 9 = .ok (.getfield 310, 3) := by decide +kernel
theorem dX12_registers_12 : decode cX12_registers 12 = .ok (.iconst 1, 1) := by decide +kernel
theorem dX12_registers_13 : decode cX12_registers 13 = .ok (.isub, 1) := by decide +kernel
theorem dX12_registers_14 : decode cX12_registers 14 = .ok (.i2l, 1) := by decide +kernel
theorem dX12_registers_15 : decode cX12_registers 15 = .ok (.invokestatic 182, 3) := by decide +kernel
theorem dX12_registers_18 : decode cX12_registers 18 = .ok (.ifCond .eq 11, 3) := by decide +kernel
theorem dX12_registers_21 : decode cX12_registers 21 = .ok (.aload_n 0, 1) := by decide +kernel
theorem dX12_registers_22 : decode cX12_registers 22 = .ok (.iload_n 1, 1) := by decide +kernel
theorem dX12_registers_23 : decode cX12_registers 23 = .ok (.invokevirtual 422, 3) := by decide +kernel
theorem dX12_registers_26 : decode cX12_registers 26 = .ok (.goto 5, 3) := by decide +kernel
theorem dX12_registers_29 : decode cX12_registers 29 = .ok (.bipush (-2), 2) := by decide +kernel
theorem dX12_registers_31 : decode cX12_registers 31 = .ok (.ireturn, 1) := by decide +kernel
theorem dX12_goes_0 : decode cX12_goes 0 = .ok (.aload_n 0, 1) := by decide +kernel
theorem dX12_goes_1 : decode cX12_goes 1 = .ok (.iconst 0, 1) := by decide +kernel
theorem dX12_goes_2 : decode cX12_goes 2 = .ok (.putfield 1, 3) := by decide +kernel
theorem dX12_goes_5 : decode cX12_goes 5 = .ok (.iload_n 1, 1) := by decide +kernel
theorem dX12_goes_6 : decode cX12_goes 6 = .ok (.i2l, 1) := by decide +kernel
theorem dX12_goes_7 : decode cX12_goes 7 = .ok (.lconst 0, 1) := by decide +kernel
theorem dX12_goes_8 : decode cX12_goes 8 = .ok (.aload_n 0, 1) := by decide +kernel
theorem dX12_goes_9 : decode cX12_goes 9 = .ok (.getfield 310, 3) := by decide +kernel
theorem dX12_goes_12 : decode cX12_goes 12 = .ok (.iconst 1, 1) := by decide +kernel
theorem dX12_goes_13 : decode cX12_goes 13 = .ok (.isub, 1) := by decide +kernel
theorem dX12_goes_14 : decode cX12_goes 14 = .ok (.i2l, 1) := by decide +kernel
theorem dX12_goes_15 : decode cX12_goes 15 = .ok (.invokestatic 182, 3) := by decide +kernel
theorem dX12_goes_18 : decode cX12_goes 18 = .ok (.ifCond .eq 21, 3) := by decide +kernel
theorem dX12_goes_21 : decode cX12_goes 21 = .ok (.iload_n 2, 1) := by decide +kernel
theorem dX12_goes_22 : decode cX12_goes 22 = .ok (.i2l, 1) := by decide +kernel
theorem dX12_goes_23 : decode cX12_goes 23 = .ok (.lconst 0, 1) := by decide +kernel
theorem dX12_goes_24 : decode cX12_goes 24 = .ok (.aload_n 0, 1) := by decide +kernel
theorem dX12_goes_25 : decode cX12_goes 25 = .ok (.iconst 0, 1) := by decide +kernel
theorem dX12_goes_26 : decode cX12_goes 26 = .ok (.iconst 2, 1) := by decide +kernel
theorem dX12_goes_27 : decode cX12_goes 27 = .ok (.invokevirtual 155, 3) := by decide +kernel
theorem dX12_goes_30 : decode cX12_goes 30 = .ok (.iconst 1, 1) := by decide +kernel
theorem dX12_goes_31 : decode cX12_goes 31 = .ok (.isub, 1) := by decide +kernel
theorem dX12_goes_32 : decode cX12_goes 32 = .ok (.i2l, 1) := by decide +kernel
theorem dX12_goes_33 : decode cX12_goes 33 = .ok (.invokestatic 182, 3) := by decide +kernel
theorem dX12_goes_36 : decode cX12_goes 36 = .ok (.ifCond .ne 6, 3) := by decide +kernel
theorem dX12_goes_39 : decode cX12_goes 39 = .ok (.bipush (-2), 2) := by decide +kernel
theorem dX12_goes_41 : decode cX12_goes 41 = .ok (.ireturn, 1) := by decide +kernel
theorem dX12_goes_42 : decode cX12_goes 42 = .ok (.iload_n 3, 1) := by decide +kernel
theorem dX12_goes_43 : decode cX12_goes 43 = .ok (.i2l, 1) := by decide +kernel
theorem dX12_goes_44 : decode cX12_goes 44 = .ok (.lconst 0, 1) := by decide +kernel
theorem dX12_goes_45 : decode cX12_goes 45 = .ok (.aload_n 0, 1) := by decide +kernel
theorem dX12_goes_46 : decode cX12_goes 46 = .ok (.iload_n 1, 1) := by decide +kernel
theorem dX12_goes_47 : decode cX12_goes 47 = .ok (.invokevirtual 431, 3) := by decide +kernel
theorem dX12_goes_50 : decode cX12_goes 50 = .ok (.i2l, 1) := by decide +kernel
theorem dX12_goes_51 : decode cX12_goes 51 = .ok (.invokestatic 182, 3) := by decide +kernel
theorem dX12_goes_54 : decode cX12_goes 54 = .ok (.ifCond .ne 6, 3) := by decide +kernel
theorem dX12_goes_57 : decode cX12_goes 57 = .ok (.bipush (-3), 2) := by decide +kernel
theorem dX12_goes_59 : decode cX12_goes 59 = .ok (.ireturn, 1) := by decide +kernel
theorem dX12_goes_60 : decode cX12_goes 60 = .ok (.aload_n 0, 1) := by decide +kernel
theorem dX12_goes_61 : decode cX12_goes 61 = .ok (.iload_n 1, 1) := by decide +kernel
theorem dX12_goes_62 : decode cX12_goes 62 = .ok (.iload_n 2, 1) := by decide +kernel
theorem dX12_goes_63 : decode cX12_goes 63 = .ok (.iload_n 3, 1) := by decide +kernel
theorem dX12_goes_64 : decode cX12_goes 64 = .ok (.invokevirtual 459, 3) := by decide +kernel
theorem dX12_goes_67 : decode cX12_goes 67 = .ok (.istore 4, 2) := by decide +kernel
theorem dX12_goes_69 : decode cX12_goes 69 = .ok (.aload_n 0, 1) := by decide +kernel
theorem dX12_goes_70 : decode cX12_goes 70 = .ok (.iload_n 1, 1) := by decide +kernel
theorem dX12_goes_71 : decode cX12_goes 71 = .ok (.iload_n 2, 1) := by decide +kernel
theorem dX12_goes_72 : decode cX12_goes 72 = .ok (.iload_n 3, 1) := by decide +kernel
theorem dX12_goes_73 : decode cX12_goes 73 = .ok (.invokevirtual 381, 3) := by decide +kernel
theorem dX12_goes_76 : decode cX12_goes 76 = .ok (.aload_n 0, 1) := by decide +kernel
theorem dX12_goes_77 : decode cX12_goes 77 = .ok (.iload 4, 2) := by decide +kernel
theorem dX12_goes_79 : decode cX12_goes 79 = .ok (.invokevirtual 474, 3) := by decide +kernel
theorem dX12_goes_82 : decode cX12_goes 82 = .ok (.ireturn, 1) := by decide +kernel
theorem dX12_isStanding_0 : decode cX12_isStanding 0 = .ok (.aload_n 0, 1) := by decide +kernel
theorem dX12_isStanding_1 : decode cX12_isStanding 1 = .ok (.invokevirtual 554, 3) := by decide +kernel
theorem dX12_isStanding_4 : decode cX12_isStanding 4 = .ok (.aload_n 0, 1) := by decide +kernel
theorem dX12_isStanding_5 : decode cX12_isStanding 5 = .ok (.getfield 440, 3) := by decide +kernel
theorem dX12_isStanding_8 : decode cX12_isStanding 8 = .ok (.ifCond .eq 11, 3) := by decide +kernel
theorem dX12_isStanding_11 : decode cX12_isStanding 11 = .ok (.aload_n 0, 1) := by decide +kernel
theorem dX12_isStanding_12 : decode cX12_isStanding 12 = .ok (.getfield 440, 3) := by decide +kernel
theorem dX12_isStanding_15 : decode cX12_isStanding 15 = .ok (.iconst 3, 1) := by decide +kernel
theorem dX12_isStanding_16 : decode cX12_isStanding 16 = .ok (.if_icmp .ne 7, 3) := by decide +kernel
theorem dX12_isStanding_19 : decode cX12_isStanding 19 = .ok (.iconst 1, 1) := by decide +kernel
theorem dX12_isStanding_20 : decode cX12_isStanding 20 = .ok (.goto 4, 3) := by decide +kernel
theorem dX12_isStanding_23 : decode cX12_isStanding 23 = .ok (.iconst 0, 1) := by decide +kernel
theorem dX12_isStanding_24 : decode cX12_isStanding 24 = .ok (.ireturn, 1) := by decide +kernel
theorem dX12_stands_0 : decode cX12_stands 0 = .ok (.aload_n 0, 1) := by decide +kernel
theorem dX12_stands_1 : decode cX12_stands 1 = .ok (.iconst 0, 1) := by decide +kernel
theorem dX12_stands_2 : decode cX12_stands 2 = .ok (.putfield 1, 3) := by decide +kernel
theorem dX12_stands_5 : decode cX12_stands 5 = .ok (.aload_n 0, 1) := by decide +kernel
theorem dX12_stands_6 : decode cX12_stands 6 = .ok (.invokevirtual 579, 3) := by decide +kernel
theorem dX12_stands_9 : decode cX12_stands 9 = .ok (.ifCond .ne 7, 3) := by decide +kernel
theorem dX12_stands_12 : decode cX12_stands 12 = .ok (.iconst 0, 1) := by decide +kernel
theorem dX12_stands_13 : decode cX12_stands 13 = .ok (.goto 16, 3) := by decide +kernel
theorem dX12_stands_16 : decode cX12_stands 16 = .ok (.aload_n 0, 1) := by decide +kernel
theorem dX12_stands_17 : decode cX12_stands 17 = .ok (.getfield 440, 3) := by decide +kernel
theorem dX12_stands_20 : decode cX12_stands 20 = .ok (.iconst 3, 1) := by decide +kernel
theorem dX12_stands_21 : decode cX12_stands 21 = .ok (.if_icmp .ne 7, 3) := by decide +kernel
theorem dX12_stands_24 : decode cX12_stands 24 = .ok (.iconst 1, 1) := by decide +kernel
theorem dX12_stands_25 : decode cX12_stands 25 = .ok (.goto 4, 3) := by decide +kernel
theorem dX12_stands_28 : decode cX12_stands 28 = .ok (.iconst 2, 1) := by decide +kernel
theorem dX12_stands_29 : decode cX12_stands 29 = .ok (.ireturn, 1) := by decide +kernel
theorem dX12_guessAlong_0 : decode cX12_guessAlong 0 = .ok (.aload_n 0, 1) := by decide +kernel
theorem dX12_guessAlong_1 : decode cX12_guessAlong 1 = .ok (.iconst 0, 1) := by decide +kernel
theorem dX12_guessAlong_2 : decode cX12_guessAlong 2 = .ok (.iconst (-1), 1) := by decide +kernel
theorem dX12_guessAlong_3 : decode cX12_guessAlong 3 = .ok (.iconst (-1), 1) := by decide +kernel
theorem dX12_guessAlong_4 : decode cX12_guessAlong 4 = .ok (.invokevirtual 486, 3) := by decide +kernel
theorem dX12_guessAlong_7 : decode cX12_guessAlong 7 = .ok (.iconst 0, 1) := by decide +kernel
theorem dX12_guessAlong_8 : decode cX12_guessAlong 8 = .ok (.istore_n 2, 1) := by decide +kernel
theorem dX12_guessAlong_9 : decode cX12_guessAlong 9 = .ok (.iload_n 2, 1) := by decide +kernel
theorem dX12_guessAlong_10 : decode cX12_guessAlong 10 = .ok (.iload_n 1, 1) := by decide +kernel
theorem dX12_guessAlong_11 : decode cX12_guessAlong 11 = .ok (.if_icmp .ge 25, 3) := by decide +kernel
theorem dX12_guessAlong_14 : decode cX12_guessAlong 14 = .ok (.aload_n 0, 1) := by decide +kernel
theorem dX12_guessAlong_15 : decode cX12_guessAlong 15 = .ok (.aload_n 0, 1) := by decide +kernel
theorem dX12_guessAlong_16 : decode cX12_guessAlong 16 = .ok (.getfield 27, 3) := by decide +kernel
theorem dX12_guessAlong_19 : decode cX12_guessAlong 19 = .ok (.iload_n 2, 1) := by decide +kernel
theorem dX12_guessAlong_20 : decode cX12_guessAlong 20 = .ok (.iaload, 1) := by decide +kernel
theorem dX12_guessAlong_21 : decode cX12_guessAlong 21 = .ok (.aload_n 0, 1) := by decide +kernel
theorem dX12_guessAlong_22 : decode cX12_guessAlong 22 = .ok (.getfield 30, 3) := by decide +kernel
theorem dX12_guessAlong_25 : decode cX12_guessAlong 25 = .ok (.iload_n 2, 1) := by decide +kernel
theorem dX12_guessAlong_26 : decode cX12_guessAlong 26 = .ok (.iaload, 1) := by decide +kernel
theorem dX12_guessAlong_27 : decode cX12_guessAlong 27 = .ok (.invokevirtual 533, 3) := by decide +kernel
theorem dX12_guessAlong_30 : decode cX12_guessAlong 30 = .ok (.iinc 2 1, 3) := by decide +kernel
theorem dX12_guessAlong_33 : decode cX12_guessAlong 33 = .ok (.goto (-24), 3) := by decide +kernel
theorem dX12_guessAlong_36 : decode cX12_guessAlong 36 = .ok (.return_, 1) := by decide +kernel
theorem dX12_guess_0 : decode cX12_guess 0 = .ok (.aload_n 0, 1) := by decide +kernel
theorem dX12_guess_1 : decode cX12_guess 1 = .ok (.iconst 0, 1) := by decide +kernel
theorem dX12_guess_2 : decode cX12_guess 2 = .ok (.putfield 1, 3) := by decide +kernel
theorem dX12_guess_5 : decode cX12_guess 5 = .ok (.aload_n 0, 1) := by decide +kernel
theorem dX12_guess_6 : decode cX12_guess 6 = .ok (.invokevirtual 579, 3) := by decide +kernel
theorem dX12_guess_9 : decode cX12_guess 9 = .ok (.ifCond .ne 6, 3) := by decide +kernel
theorem dX12_guess_12 : decode cX12_guess 12 = .ok (.bipush (-5), 2) := by decide +kernel
theorem dX12_guess_14 : decode cX12_guess 14 = .ok (.ireturn, 1) := by decide +kernel
theorem dX12_guess_15 : decode cX12_guess 15 = .ok (.aload_n 0, 1) := by decide +kernel
theorem dX12_guess_16 : decode cX12_guess 16 = .ok (.aload_n 0, 1) := by decide +kernel
theorem dX12_guess_17 : decode cX12_guess 17 = .ok (.getfield 259, 3) := by decide +kernel
theorem dX12_guess_20 : decode cX12_guess 20 = .ok (.invokevirtual 582, 3) := by decide +kernel
theorem dX12_guess_23 : decode cX12_guess 23 = .ok (.aload_n 0, 1) := by decide +kernel
theorem dX12_guess_24 : decode cX12_guess 24 = .ok (.aload_n 0, 1) := by decide +kernel
theorem dX12_guess_25 : decode cX12_guess 25 = .ok (.getfield 477, 3) := by decide +kernel
theorem dX12_guess_28 : decode cX12_guess 28 = .ok (.invokevirtual 508, 3) := by decide +kernel
theorem dX12_guess_31 : decode cX12_guess 31 = .ok (.ifCond .eq 7, 3) := by decide +kernel
theorem dX12_guess_34 : decode cX12_guess 34 = .ok (.iconst 1, 1) := by decide +kernel
theorem dX12_guess_35 : decode cX12_guess 35 = .ok (.goto 4, 3) := by decide +kernel
theorem dX12_guess_38 : decode cX12_guess 38 = .ok (.iconst 0, 1) := by decide +kernel
theorem dX12_guess_39 : decode cX12_guess 39 = .ok (.ireturn, 1) := by decide +kernel
theorem dX12_guessed_0 : decode cX12_guessed 0 = .ok (.aload_n 0, 1) := by decide +kernel
theorem dX12_guessed_1 : decode cX12_guessed 1 = .ok (.iconst 0, 1) := by decide +kernel
theorem dX12_guessed_2 : decode cX12_guessed 2 = .ok (.putfield 1, 3) := by decide +kernel
theorem dX12_guessed_5 : decode cX12_guessed 5 = .ok (.iload_n 1, 1) := by decide +kernel
theorem dX12_guessed_6 : decode cX12_guessed 6 = .ok (.i2l, 1) := by decide +kernel
theorem dX12_guessed_7 : decode cX12_guessed 7 = .ok (.lconst 0, 1) := by decide +kernel
theorem dX12_guessed_8 : decode cX12_guessed 8 = .ok (.aload_n 0, 1) := by decide +kernel
theorem dX12_guessed_9 : decode cX12_guessed 9 = .ok (.getfield 259, 3) := by decide +kernel
theorem dX12_guessed_12 : decode cX12_guessed 12 = .ok (.i2l, 1) := by decide +kernel
theorem dX12_guessed_13 : decode cX12_guessed 13 = .ok (.invokestatic 182, 3) := by decide +kernel
theorem dX12_guessed_16 : decode cX12_guessed 16 = .ok (.ifCond .ne 6, 3) := by decide +kernel
theorem dX12_guessed_19 : decode cX12_guessed 19 = .ok (.bipush (-3), 2) := by decide +kernel
theorem dX12_guessed_21 : decode cX12_guessed 21 = .ok (.ireturn, 1) := by decide +kernel
theorem dX12_guessed_22 : decode cX12_guessed 22 = .ok (.iload_n 2, 1) := by decide +kernel
theorem dX12_guessed_23 : decode cX12_guessed 23 = .ok (.i2l, 1) := by decide +kernel
theorem dX12_guessed_24 : decode cX12_guessed 24 = .ok (.lconst 0, 1) := by decide +kernel
theorem dX12_guessed_25 : decode cX12_guessed 25 = .ok (.ldc2_w 274, 3) := by decide +kernel
theorem dX12_guessed_28 : decode cX12_guessed 28 = .ok (.invokestatic 182, 3) := by decide +kernel
theorem dX12_guessed_31 : decode cX12_guessed 31 = .ok (.ifCond .ne 6, 3) := by decide +kernel
theorem dX12_guessed_34 : decode cX12_guessed 34 = .ok (.bipush (-2), 2) := by decide +kernel
theorem dX12_guessed_36 : decode cX12_guessed 36 = .ok (.ireturn, 1) := by decide +kernel
theorem dX12_guessed_37 : decode cX12_guessed 37 = .ok (.aload_n 0, 1) := by decide +kernel
theorem dX12_guessed_38 : decode cX12_guessed 38 = .ok (.invokevirtual 579, 3) := by decide +kernel
theorem dX12_guessed_41 : decode cX12_guessed 41 = .ok (.ifCond .ne 6, 3) := by decide +kernel
theorem dX12_guessed_44 : decode cX12_guessed 44 = .ok (.bipush (-5), 2) := by decide +kernel
theorem dX12_guessed_46 : decode cX12_guessed 46 = .ok (.ireturn, 1) := by decide +kernel
theorem dX12_guessed_47 : decode cX12_guessed 47 = .ok (.aload_n 0, 1) := by decide +kernel
theorem dX12_guessed_48 : decode cX12_guessed 48 = .ok (.iload_n 1, 1) := by decide +kernel
theorem dX12_guessed_49 : decode cX12_guessed 49 = .ok (.invokevirtual 582, 3) := by decide +kernel
theorem dX12_guessed_52 : decode cX12_guessed 52 = .ok (.iload_n 2, 1) := by decide +kernel
theorem dX12_guessed_53 : decode cX12_guessed 53 = .ok (.ifCond .ne 10, 3) := by decide +kernel
theorem dX12_guessed_56 : decode cX12_guessed 56 = .ok (.aload_n 0, 1) := by decide +kernel
theorem dX12_guessed_57 : decode cX12_guessed 57 = .ok (.getfield 477, 3) := by decide +kernel
theorem dX12_guessed_60 : decode cX12_guessed 60 = .ok (.goto 19, 3) := by decide +kernel
theorem dX12_guessed_63 : decode cX12_guessed 63 = .ok (.iload_n 2, 1) := by decide +kernel
theorem dX12_guessed_64 : decode cX12_guessed 64 = .ok (.iconst 1, 1) := by decide +kernel
theorem dX12_guessed_65 : decode cX12_guessed 65 = .ok (.if_icmp .ne 10, 3) := by decide +kernel
theorem dX12_guessed_68 : decode cX12_guessed 68 = .ok (.aload_n 0, 1) := by decide +kernel
theorem dX12_guessed_69 : decode cX12_guessed 69 = .ok (.getfield 480, 3) := by decide +kernel
theorem dX12_guessed_72 : decode cX12_guessed 72 = .ok (.goto 7, 3) := by decide +kernel
theorem dX12_guessed_75 : decode cX12_guessed 75 = .ok (.aload_n 0, 1) := by decide +kernel
theorem dX12_guessed_76 : decode cX12_guessed 76 = .ok (.getfield 483, 3) := by decide +kernel
theorem dX12_guessed_79 : decode cX12_guessed 79 = .ok (.ireturn, 1) := by decide +kernel
theorem dX12_refutes_0 : decode cX12_refutes 0 = .ok (.aload_n 0, 1) := by decide +kernel
theorem dX12_refutes_1 : decode cX12_refutes 1 = .ok (.iconst 0, 1) := by decide +kernel
theorem dX12_refutes_2 : decode cX12_refutes 2 = .ok (.putfield 1, 3) := by decide +kernel
theorem dX12_refutes_5 : decode cX12_refutes 5 = .ok (.aload_n 0, 1) := by decide +kernel
theorem dX12_refutes_6 : decode cX12_refutes 6 = .ok (.invokevirtual 579, 3) := by decide +kernel
theorem dX12_refutes_9 : decode cX12_refutes 9 = .ok (.ifCond .ne 6, 3) := by decide +kernel
theorem dX12_refutes_12 : decode cX12_refutes 12 = .ok (.bipush (-5), 2) := by decide +kernel
theorem dX12_refutes_14 : decode cX12_refutes 14 = .ok (.ireturn, 1) := by decide +kernel
theorem dX12_refutes_15 : decode cX12_refutes 15 = .ok (.iload_n 1, 1) := by decide +kernel
theorem dX12_refutes_16 : decode cX12_refutes 16 = .ok (.iconst (-1), 1) := by decide +kernel
theorem dX12_refutes_17 : decode cX12_refutes 17 = .ok (.if_icmp .ne 12, 3) := by decide +kernel
theorem dX12_refutes_20 : decode cX12_refutes 20 = .ok (.iload_n 2, 1) := by decide +kernel
theorem dX12_refutes_21 : decode cX12_refutes 21 = .ok (.ifCond .ne 8, 3) := by decide +kernel
theorem dX12_refutes_24 : decode cX12_refutes 24 = .ok (.aload_n 0, 1) := by decide +kernel
theorem dX12_refutes_25 : decode cX12_refutes 25 = .ok (.getfield 434, 3) := by decide +kernel
theorem dX12_refutes_28 : decode cX12_refutes 28 = .ok (.ireturn, 1) := by decide +kernel
theorem dX12_refutes_29 : decode cX12_refutes 29 = .ok (.iload_n 1, 1) := by decide +kernel
theorem dX12_refutes_30 : decode cX12_refutes 30 = .ok (.i2l, 1) := by decide +kernel
theorem dX12_refutes_31 : decode cX12_refutes 31 = .ok (.lconst 0, 1) := by decide +kernel
theorem dX12_refutes_32 : decode cX12_refutes 32 = .ok (.aload_n 0, 1) := by decide +kernel
theorem dX12_refutes_33 : decode cX12_refutes 33 = .ok (.getfield 434, 3) := by decide +kernel
theorem dX12_refutes_36 : decode cX12_refutes 36 = .ok (.iconst 1, 1) := by decide +kernel
theorem dX12_refutes_37 : decode cX12_refutes 37 = .ok (.isub, 1) := by decide +kernel
theorem dX12_refutes_38 : decode cX12_refutes 38 = .ok (.i2l, 1) := by decide +kernel
theorem dX12_refutes_39 : decode cX12_refutes 39 = .ok (.invokestatic 182, 3) := by decide +kernel
theorem dX12_refutes_42 : decode cX12_refutes 42 = .ok (.ifCond .eq 13, 3) := by decide +kernel
theorem dX12_refutes_45 : decode cX12_refutes 45 = .ok (.iload_n 2, 1) := by decide +kernel
theorem dX12_refutes_46 : decode cX12_refutes 46 = .ok (.i2l, 1) := by decide +kernel
theorem dX12_refutes_47 : decode cX12_refutes 47 = .ok (.lconst 0, 1) := by decide +kernel
theorem dX12_refutes_48 : decode cX12_refutes 48 = .ok (.lconst 1, 1) := by decide +kernel
theorem dX12_refutes_49 : decode cX12_refutes 49 = .ok (.invokestatic 182, 3) := by decide +kernel
theorem dX12_refutes_52 : decode cX12_refutes 52 = .ok (.ifCond .ne 6, 3) := by decide +kernel
theorem dX12_refutes_55 : decode cX12_refutes 55 = .ok (.bipush (-2), 2) := by decide +kernel
theorem dX12_refutes_57 : decode cX12_refutes 57 = .ok (.ireturn, 1) := by decide +kernel
theorem dX12_refutes_58 : decode cX12_refutes 58 = .ok (.iload_n 2, 1) := by decide +kernel
theorem dX12_refutes_59 : decode cX12_refutes 59 = .ok (.ifCond .ne 12, 3) := by decide +kernel
theorem dX12_refutes_62 : decode cX12_refutes 62 = .ok (.aload_n 0, 1) := by decide +kernel
theorem dX12_refutes_63 : decode cX12_refutes 63 = .ok (.getfield 96, 3) := by decide +kernel
theorem dX12_refutes_66 : decode cX12_refutes 66 = .ok (.iload_n 1, 1) := by decide +kernel
theorem dX12_refutes_67 : decode cX12_refutes 67 = .ok (.iaload, 1) := by decide +kernel
theorem dX12_refutes_68 : decode cX12_refutes 68 = .ok (.goto 9, 3) := by decide +kernel
theorem dX12_refutes_71 : decode cX12_refutes 71 = .ok (.aload_n 0, 1) := by decide +kernel
theorem dX12_refutes_72 : decode cX12_refutes 72 = .ok (.getfield 99, 3) := by decide +kernel
theorem dX12_refutes_75 : decode cX12_refutes 75 = .ok (.iload_n 1, 1) := by decide +kernel
theorem dX12_refutes_76 : decode cX12_refutes 76 = .ok (.iaload, 1) := by decide +kernel
theorem dX12_refutes_77 : decode cX12_refutes 77 = .ok (.ireturn, 1) := by decide +kernel
theorem dX12_splits_0 : decode cX12_splits 0 = .ok (.aload_n 0, 1) := by decide +kernel
theorem dX12_splits_1 : decode cX12_splits 1 = .ok (.iconst 0, 1) := by decide +kernel
theorem dX12_splits_2 : decode cX12_splits 2 = .ok (.putfield 1, 3) := by decide +kernel
theorem dX12_splits_5 : decode cX12_splits 5 = .ok (.aload_n 0, 1) := by decide +kernel
theorem dX12_splits_6 : decode cX12_splits 6 = .ok (.invokevirtual 579, 3) := by decide +kernel
theorem dX12_splits_9 : decode cX12_splits 9 = .ok (.ifCond .eq 10, 3) := by decide +kernel
theorem dX12_splits_12 : decode cX12_splits 12 = .ok (.aload_n 0, 1) := by decide +kernel
theorem dX12_splits_13 : decode cX12_splits 13 = .ok (.getfield 437, 3) := by decide +kernel
theorem dX12_splits_16 : decode cX12_splits 16 = .ok (.goto 5, 3) := by decide +kernel
theorem dX12_splits_19 : decode cX12_splits 19 = .ok (.bipush (-5), 2) := by decide +kernel
theorem dX12_splits_21 : decode cX12_splits 21 = .ok (.ireturn, 1) := by decide +kernel
theorem dX12_spare_0 : decode cX12_spare 0 = .ok (.aload_n 0, 1) := by decide +kernel
theorem dX12_spare_1 : decode cX12_spare 1 = .ok (.iconst 0, 1) := by decide +kernel
theorem dX12_spare_2 : decode cX12_spare 2 = .ok (.putfield 1, 3) := by decide +kernel
theorem dX12_spare_5 : decode cX12_spare 5 = .ok (.aload_n 0, 1) := by decide +kernel
theorem dX12_spare_6 : decode cX12_spare 6 = .ok (.invokevirtual 579, 3) := by decide +kernel
theorem dX12_spare_9 : decode cX12_spare 9 = .ok (.ifCond .ne 6, 3) := by decide +kernel
theorem dX12_spare_12 : decode cX12_spare 12 = .ok (.bipush (-5), 2) := by decide +kernel
theorem dX12_spare_14 : decode cX12_spare 14 = .ok (.ireturn, 1) := by decide +kernel
theorem dX12_spare_15 : decode cX12_spare 15 = .ok (.iconst 0, 1) := by decide +kernel
theorem dX12_spare_16 : decode cX12_spare 16 = .ok (.istore_n 1, 1) := by decide +kernel
theorem dX12_spare_17 : decode cX12_spare 17 = .ok (.iconst 0, 1) := by decide +kernel
theorem dX12_spare_18 : decode cX12_spare 18 = .ok (.istore_n 2, 1) := by decide +kernel
theorem dX12_spare_19 : decode cX12_spare 19 = .ok (.iload_n 2, 1) := by decide +kernel
theorem dX12_spare_20 : decode cX12_spare 20 = .ok (.aload_n 0, 1) := by decide +kernel
theorem dX12_spare_21 : decode cX12_spare 21 = .ok (.getfield 310, 3) := by decide +kernel
theorem dX12_spare_24 : decode cX12_spare 24 = .ok (.if_icmp .ge 34, 3) := by decide +kernel
theorem dX12_spare_27 : decode cX12_spare 27 = .ok (.aload_n 0, 1) := by decide +kernel
theorem dX12_spare_28 : decode cX12_spare 28 = .ok (.iload_n 2, 1) := by decide +kernel
theorem dX12_spare_29 : decode cX12_spare 29 = .ok (.invokevirtual 422, 3) := by decide +kernel
theorem dX12_spare_32 : decode cX12_spare 32 = .ok (.invokestatic 410, 3) := by decide +kernel
theorem dX12_spare_35 : decode cX12_spare 35 = .ok (.iload_n 1, 1) := by decide +kernel
theorem dX12_spare_36 : decode cX12_spare 36 = .ok (.if_icmp .le 14, 3) := by decide +kernel
theorem dX12_spare_39 : decode cX12_spare 39 = .ok (.aload_n 0, 1) := by decide +kernel
theorem dX12_spare_40 : decode cX12_spare 40 = .ok (.iload_n 2, 1) := by decide +kernel
theorem dX12_spare_41 : decode cX12_spare 41 = .ok (.invokevirtual 422, 3) := by decide +kernel
theorem dX12_spare_44 : decode cX12_spare 44 = .ok (.invokestatic 410, 3) := by decide +kernel
theorem dX12_spare_47 : decode cX12_spare 47 = .ok (.goto 4, 3) := by decide +kernel
theorem dX12_spare_50 : decode cX12_spare 50 = .ok (.iload_n 1, 1) := by decide +kernel
theorem dX12_spare_51 : decode cX12_spare 51 = .ok (.istore_n 1, 1) := by decide +kernel
theorem dX12_spare_52 : decode cX12_spare 52 = .ok (.iinc 2 1, 3) := by decide +kernel
theorem dX12_spare_55 : decode cX12_spare 55 = .ok (.goto (-36), 3) := by decide +kernel
theorem dX12_spare_58 : decode cX12_spare 58 = .ok (.aload_n 0, 1) := by decide +kernel
theorem dX12_spare_59 : decode cX12_spare 59 = .ok (.iconst 0, 1) := by decide +kernel
theorem dX12_spare_60 : decode cX12_spare 60 = .ok (.iconst 1, 1) := by decide +kernel
theorem dX12_spare_61 : decode cX12_spare 61 = .ok (.invokevirtual 155, 3) := by decide +kernel
theorem dX12_spare_64 : decode cX12_spare 64 = .ok (.iload_n 1, 1) := by decide +kernel
theorem dX12_spare_65 : decode cX12_spare 65 = .ok (.isub, 1) := by decide +kernel
theorem dX12_spare_66 : decode cX12_spare 66 = .ok (.ireturn, 1) := by decide +kernel
theorem dX12_differ_0 : decode cX12_differ 0 = .ok (.aload_n 0, 1) := by decide +kernel
theorem dX12_differ_1 : decode cX12_differ 1 = .ok (.iconst 0, 1) := by decide +kernel
theorem dX12_differ_2 : decode cX12_differ 2 = .ok (.putfield 1, 3) := by decide +kernel
theorem dX12_differ_5 : decode cX12_differ 5 = .ok (.aload_n 0, 1) := by decide +kernel
theorem dX12_differ_6 : decode cX12_differ 6 = .ok (.iconst 0, 1) := by decide +kernel
theorem dX12_differ_7 : decode cX12_differ 7 = .ok (.invokevirtual 536, 3) := by decide +kernel
theorem dX12_differ_10 : decode cX12_differ 10 = .ok (.istore_n 1, 1) := by decide +kernel
theorem dX12_differ_11 : decode cX12_differ 11 = .ok (.iload_n 1, 1) := by decide +kernel
theorem dX12_differ_12 : decode cX12_differ 12 = .ok (.iconst (-1), 1) := by decide +kernel
theorem dX12_differ_13 : decode cX12_differ 13 = .ok (.if_icmp .ne 7, 3) := by decide +kernel
theorem dX12_differ_16 : decode cX12_differ 16 = .ok (.iconst (-1), 1) := by decide +kernel
theorem dX12_differ_17 : decode cX12_differ 17 = .ok (.goto 9, 3) := by decide +kernel
theorem dX12_differ_20 : decode cX12_differ 20 = .ok (.aload_n 0, 1) := by decide +kernel
theorem dX12_differ_21 : decode cX12_differ 21 = .ok (.getfield 111, 3) := by decide +kernel
theorem dX12_differ_24 : decode cX12_differ 24 = .ok (.iload_n 1, 1) := by decide +kernel
theorem dX12_differ_25 : decode cX12_differ 25 = .ok (.iaload, 1) := by decide +kernel
theorem dX12_differ_26 : decode cX12_differ 26 = .ok (.ireturn, 1) := by decide +kernel
theorem dX12_differs_0 : decode cX12_differs 0 = .ok (.aload_n 0, 1) := by decide +kernel
theorem dX12_differs_1 : decode cX12_differs 1 = .ok (.iconst 0, 1) := by decide +kernel
theorem dX12_differs_2 : decode cX12_differs 2 = .ok (.putfield 1, 3) := by decide +kernel
theorem dX12_differs_5 : decode cX12_differs 5 = .ok (.aload_n 0, 1) := by decide +kernel
theorem dX12_differs_6 : decode cX12_differs 6 = .ok (.iconst 0, 1) := by decide +kernel
theorem dX12_differs_7 : decode cX12_differs 7 = .ok (.invokevirtual 536, 3) := by decide +kernel
theorem dX12_differs_10 : decode cX12_differs 10 = .ok (.istore_n 3, 1) := by decide +kernel
theorem dX12_differs_11 : decode cX12_differs 11 = .ok (.iload_n 3, 1) := by decide +kernel
theorem dX12_differs_12 : decode cX12_differs 12 = .ok (.iconst (-1), 1) := by decide +kernel
theorem dX12_differs_13 : decode cX12_differs 13 = .ok (.if_icmp .eq 31, 3) := by decide +kernel
theorem dX12_differs_16 : decode cX12_differs 16 = .ok (.iload_n 1, 1) := by decide +kernel
theorem dX12_differs_17 : decode cX12_differs 17 = .ok (.i2l, 1) := by decide +kernel
theorem dX12_differs_18 : decode cX12_differs 18 = .ok (.lconst 0, 1) := by decide +kernel
theorem dX12_differs_19 : decode cX12_differs 19 = .ok (.aload_n 0, 1) := by decide +kernel
theorem dX12_differs_20 : decode cX12_differs 20 = .ok (.getfield 111, 3) := by decide +kernel
theorem dX12_differs_23 : decode cX12_differs 23 = .ok (.iload_n 3, 1) := by decide +kernel
theorem dX12_differs_24 : decode cX12_differs 24 = .ok (.iaload, 1) := by decide +kernel
theorem dX12_differs_25 : decode cX12_differs 25 = .ok (.iconst 1, 1) := by decide +kernel
theorem dX12_differs_26 : decode cX12_differs 26 = .ok (.isub, 1) := by decide +kernel
theorem dX12_differs_27 : decode cX12_differs 27 = .ok (.i2l, 1) := by decide +kernel
theorem dX12_differs_28 : decode cX12_differs 28 = .ok (.invokestatic 182, 3) := by decide +kernel
theorem dX12_differs_31 : decode cX12_differs 31 = .ok (.ifCond .eq 13, 3) := by decide +kernel
theorem dX12_differs_34 : decode cX12_differs 34 = .ok (.iload_n 2, 1) := by decide +kernel
theorem dX12_differs_35 : decode cX12_differs 35 = .ok (.i2l, 1) := by decide +kernel
theorem dX12_differs_36 : decode cX12_differs 36 = .ok (.lconst 0, 1) := by decide +kernel
theorem dX12_differs_37 : decode cX12_differs 37 = .ok (.lconst 1, 1) := by decide +kernel
theorem dX12_differs_38 : decode cX12_differs 38 = .ok (.invokestatic 182, 3) := by decide +kernel
theorem dX12_differs_41 : decode cX12_differs 41 = .ok (.ifCond .ne 6, 3) := by decide +kernel
theorem dX12_differs_44 : decode cX12_differs 44 = .ok (.bipush (-2), 2) := by decide +kernel
theorem dX12_differs_46 : decode cX12_differs 46 = .ok (.ireturn, 1) := by decide +kernel
theorem dX12_differs_47 : decode cX12_differs 47 = .ok (.aload_n 0, 1) := by decide +kernel
theorem dX12_differs_48 : decode cX12_differs 48 = .ok (.getfield 111, 3) := by decide +kernel
theorem dX12_differs_51 : decode cX12_differs 51 = .ok (.iload_n 3, 1) := by decide +kernel
theorem dX12_differs_52 : decode cX12_differs 52 = .ok (.iaload, 1) := by decide +kernel
theorem dX12_differs_53 : decode cX12_differs 53 = .ok (.iconst 1, 1) := by decide +kernel
theorem dX12_differs_54 : decode cX12_differs 54 = .ok (.isub, 1) := by decide +kernel
theorem dX12_differs_55 : decode cX12_differs 55 = .ok (.istore 4, 2) := by decide +kernel
theorem dX12_differs_57 : decode cX12_differs 57 = .ok (.iload 4, 2) := by decide +kernel
theorem dX12_differs_59 : decode cX12_differs 59 = .ok (.iload_n 1, 1) := by decide +kernel
theorem dX12_differs_60 : decode cX12_differs 60 = .ok (.if_icmp .le 16, 3) := by decide +kernel
theorem dX12_differs_63 : decode cX12_differs 63 = .ok (.aload_n 0, 1) := by decide +kernel
theorem dX12_differs_64 : decode cX12_differs 64 = .ok (.getfield 102, 3) := by decide +kernel
theorem dX12_differs_67 : decode cX12_differs 67 = .ok (.iload_n 3, 1) := by decide +kernel
theorem dX12_differs_68 : decode cX12_differs 68 = .ok (.iaload, 1) := by decide +kernel
theorem dX12_differs_69 : decode cX12_differs 69 = .ok (.istore_n 3, 1) := by decide +kernel
theorem dX12_differs_70 : decode cX12_differs 70 = .ok (.iinc 4 (-1), 3) := by decide +kernel
theorem dX12_differs_73 : decode cX12_differs 73 = .ok (.goto (-16), 3) := by decide +kernel
theorem dX12_differs_76 : decode cX12_differs 76 = .ok (.iload_n 2, 1) := by decide +kernel
theorem dX12_differs_77 : decode cX12_differs 77 = .ok (.ifCond .ne 12, 3) := by decide +kernel
theorem dX12_differs_80 : decode cX12_differs 80 = .ok (.aload_n 0, 1) := by decide +kernel
theorem dX12_differs_81 : decode cX12_differs 81 = .ok (.getfield 105, 3) := by decide +kernel
theorem dX12_differs_84 : decode cX12_differs 84 = .ok (.iload_n 3, 1) := by decide +kernel
theorem dX12_differs_85 : decode cX12_differs 85 = .ok (.iaload, 1) := by decide +kernel
theorem dX12_differs_86 : decode cX12_differs 86 = .ok (.goto 9, 3) := by decide +kernel
theorem dX12_differs_89 : decode cX12_differs 89 = .ok (.aload_n 0, 1) := by decide +kernel
theorem dX12_differs_90 : decode cX12_differs 90 = .ok (.getfield 108, 3) := by decide +kernel
theorem dX12_differs_93 : decode cX12_differs 93 = .ok (.iload_n 3, 1) := by decide +kernel
theorem dX12_differs_94 : decode cX12_differs 94 = .ok (.iaload, 1) := by decide +kernel
theorem dX12_differs_95 : decode cX12_differs 95 = .ok (.ireturn, 1) := by decide +kernel
def f_X12_isMixedGood_128_b (k128 : Int32 → Dm → Option (Int32 × Dm)) (x3 : Int32) (D : Dm) : Option (Int32 × Dm) := if (D 281 64) ≤ x3 then (bV (f_X12_runs D) fun D2 => bI (f_X12_accepts 0 D2) fun y6 D4 => gd (zbB y6) (some (y6, D4))) else (gd (inB x3 20) (gd (inB x3 20) (bV (f_X12_takesLetter (D 308 (Int32.toNatClampNeg x3)) (D 309 (Int32.toNatClampNeg x3)) D) fun D10 => lt (x3 + 1) fun y12 => k128 y12 D10)))
def f_X12_isMixedGood_128 : Nat → Int32 → Dm → Option (Int32 × Dm)
  | 0, _, _ => none
  | n + 1, x3, D => f_X12_isMixedGood_128_b (f_X12_isMixedGood_128 n) x3 D
def f_X12_isMixedGood_119 (k55 : Int32 → Int32 → Int32 → Dm → Option (Int32 × Dm)) (x1 : Int32) (x2 : Int32) (x3 : Int32) (xs0 : Int32) (xs1 : Int32) (D : Dm) : Option (Int32 × Dm) := gd (inB xs1 40) (lt (ud D 300 (Int32.toNatClampNeg xs1) xs0) fun D2 => lt (x3 + 1) fun y4 => k55 x1 x2 y4 D2)
def f_X12_isMixedGood_55_b (k55 : Int32 → Int32 → Int32 → Dm → Option (Int32 × Dm)) (x1 : Int32) (x2 : Int32) (x3 : Int32) (D : Dm) : Option (Int32 × Dm) := if (D 281 36) ≤ x3 then (f_X12_isMixedGood_128 FU x1 D) else (gd (inB x3 40) (bI (f_X12_nameAt x2 0 D) fun y5 D3 => if (D 300 (Int32.toNatClampNeg x3)) = y5 then (f_X12_isMixedGood_119 k55 x1 x2 x3 (D3 281 67) x3 D3) else (gd (inB x3 40) (bI (f_X12_nameAt x2 1 D3) fun y10 D8 => if (D3 300 (Int32.toNatClampNeg x3)) = y10 then (f_X12_isMixedGood_119 k55 x1 x2 x3 (D8 281 68) x3 D8) else (gd (inB x3 40) (f_X12_isMixedGood_119 k55 x1 x2 x3 (100 + (D8 300 (Int32.toNatClampNeg x3))) x3 D8))))))
def f_X12_isMixedGood_55 : Nat → Int32 → Int32 → Int32 → Dm → Option (Int32 × Dm)
  | 0, _, _, _, _ => none
  | n + 1, x1, x2, x3, D => f_X12_isMixedGood_55_b (f_X12_isMixedGood_55 n) x1 x2 x3 D
def f_X12_isMixedGood_9_b (k9 : Int32 → Int32 → Dm → Option (Int32 × Dm)) (x1 : Int32) (x2 : Int32) (D : Dm) : Option (Int32 × Dm) := if x1 ≤ x2 then (bI (f_X12_hasShort (D 281 66) D) fun y4 D2 => bV (f_X12_takesShort (D2 281 66) D2) fun D5 => f_X12_isMixedGood_55 FU x1 y4 0 D5) else (gd (inB x2 20) (gd (inB x2 20) (bV (f_X12_guessGoes (D 308 (Int32.toNatClampNeg x2)) (D 309 (Int32.toNatClampNeg x2)) D) fun D9 => lt (x2 + 1) fun y11 => k9 x1 y11 D9)))
def f_X12_isMixedGood_9 : Nat → Int32 → Int32 → Dm → Option (Int32 × Dm)
  | 0, _, _, _ => none
  | n + 1, x1, x2, D => f_X12_isMixedGood_9_b (f_X12_isMixedGood_9 n) x1 x2 D
def f_X12_isMixedGood (x1 : Int32) (D : Dm) : Option (Int32 × Dm) := bV (f_X12_guesses 0 (-1) (-1) D) fun D1 => f_X12_isMixedGood_9 FU x1 0 D1
def f_X12_splits0_5_b (k5 : Dm → Option Dm)  (D : Dm) : Option Dm := bI (f_X12_isMixedGood (D 281 65) D) fun y3 D1 => bI (f_X12_isMixedGood ((D1 281 65) + 1) D1) fun y6 D4 => if y3 = y6 then (lt (ud D4 281 65 ((D4 281 65) + 1)) fun D8 => k5 D8) else (some D4)
def f_X12_splits0_5 : Nat → Dm → Option Dm
  | 0, _ => none
  | n + 1, D => f_X12_splits0_5_b (f_X12_splits0_5 n) D
def f_X12_splits0  (D : Dm) : Option Dm := lt (ud D 281 65 0) fun D1 => f_X12_splits0_5 FU D1
def f_X12_lays_191 (xs0 : Int32) (D : Dm) : Option Dm := lt (ud D 281 55 xs0) fun D1 => if (D1 281 55) = 3 then (bV (f_X12_splits0 D1) fun D4 => some D4) else (some D1)
def f_X12_lays_127_b (k105 : Int32 → Dm → Option Dm) (k115 : Int32 → Int32 → Dm → Option Dm) (k127 : Int32 → Int32 → Int32 → Dm → Option Dm) (x1 : Int32) (x2 : Int32) (x3 : Int32) (D : Dm) : Option Dm := bI (f_X12_hasShort x1 D) fun y3 D1 => bI (f_X12_bits y3 D1) fun y6 D4 => if y6 < x3 then (lt (x2 + 1) fun y8 => k115 x1 y8 D4) else (bI (f_X12_longName x1 x3 D4) fun y12 D10 => bI (f_X12_goesOn x1 x2 y12 D10) fun y15 D13 => if y15 = 0 then (some D13) else (lt (x3 + 1) fun y17 => k127 x1 x2 y17 D13))
def f_X12_lays_127 (k105 : Int32 → Dm → Option Dm) (k115 : Int32 → Int32 → Dm → Option Dm) : Nat → Int32 → Int32 → Int32 → Dm → Option Dm
  | 0, _, _, _, _ => none
  | n + 1, x1, x2, x3, D => f_X12_lays_127_b k105 k115 (f_X12_lays_127 k105 k115 n) x1 x2 x3 D
def f_X12_lays_115_b (k105 : Int32 → Dm → Option Dm) (k115 : Int32 → Int32 → Dm → Option Dm) (x1 : Int32) (x2 : Int32) (D : Dm) : Option Dm := bI (f_X12_its 0 2 D) fun y3 D1 => if y3 ≤ x2 then (lt (x1 + 1) fun y5 => k105 y5 D1) else (f_X12_lays_127 k105 k115 FU x1 x2 0 D1)
def f_X12_lays_115 (k105 : Int32 → Dm → Option Dm) : Nat → Int32 → Int32 → Dm → Option Dm
  | 0, _, _, _ => none
  | n + 1, x1, x2, D => f_X12_lays_115_b k105 (f_X12_lays_115 k105 n) x1 x2 D
def f_X12_lays_105_b (k105 : Int32 → Dm → Option Dm) (x1 : Int32) (D : Dm) : Option Dm := if (D 281 27) ≤ x1 then (bV (f_X12_findsWrong D) fun D2 => if (D2 281 64) = (-1) then (f_X12_lays_191 0 D2) else (f_X12_lays_191 3 D2)) else (f_X12_lays_115 k105 FU x1 0 D)
def f_X12_lays_105 : Nat → Int32 → Dm → Option Dm
  | 0, _, _ => none
  | n + 1, x1, D => f_X12_lays_105_b (f_X12_lays_105 n) x1 D
def f_X12_lays_52_b (k30 : Int32 → Dm → Option Dm) (k40 : Int32 → Int32 → Dm → Option Dm) (k52 : Int32 → Int32 → Int32 → Dm → Option Dm) (x1 : Int32) (x2 : Int32) (x3 : Int32) (D : Dm) : Option Dm := bI (f_X12_hasShort x1 D) fun y3 D1 => bI (f_X12_bits y3 D1) fun y6 D4 => if y6 < x3 then (lt (x2 + 1) fun y8 => k40 x1 y8 D4) else (bI (f_X12_longName x1 x3 D4) fun y12 D10 => bI (f_X12_forgets x1 x2 y12 D10) fun y15 D13 => if y15 = 0 then (lt (x3 + 1) fun y17 => k52 x1 x2 y17 D13) else (some D13))
def f_X12_lays_52 (k30 : Int32 → Dm → Option Dm) (k40 : Int32 → Int32 → Dm → Option Dm) : Nat → Int32 → Int32 → Int32 → Dm → Option Dm
  | 0, _, _, _, _ => none
  | n + 1, x1, x2, x3, D => f_X12_lays_52_b k30 k40 (f_X12_lays_52 k30 k40 n) x1 x2 x3 D
def f_X12_lays_40_b (k30 : Int32 → Dm → Option Dm) (k40 : Int32 → Int32 → Dm → Option Dm) (x1 : Int32) (x2 : Int32) (D : Dm) : Option Dm := bI (f_X12_its 0 2 D) fun y3 D1 => if y3 ≤ x2 then (lt (x1 + 1) fun y5 => k30 y5 D1) else (f_X12_lays_52 k30 k40 FU x1 x2 0 D1)
def f_X12_lays_40 (k30 : Int32 → Dm → Option Dm) : Nat → Int32 → Int32 → Dm → Option Dm
  | 0, _, _, _ => none
  | n + 1, x1, x2, D => f_X12_lays_40_b k30 (f_X12_lays_40 k30 n) x1 x2 D
def f_X12_lays_30_b (k30 : Int32 → Dm → Option Dm) (x1 : Int32) (D : Dm) : Option Dm := if (D 281 27) ≤ x1 then (lt (ud D 281 55 2) fun D2 => f_X12_lays_105 FU 0 D2) else (f_X12_lays_40 k30 FU x1 0 D)
def f_X12_lays_30 : Nat → Int32 → Dm → Option Dm
  | 0, _, _ => none
  | n + 1, x1, D => f_X12_lays_30_b (f_X12_lays_30 n) x1 D
def f_X12_lays  (D : Dm) : Option Dm := if (D 281 33) = 0 then (lt (ud D 281 33 1) fun D2 => lt (ud D2 281 64 (-1)) fun D4 => lt (ud D4 281 65 (-1)) fun D6 => lt (ud D6 281 55 1) fun D8 => f_X12_lays_30 FU 0 D8) else (some D)
def f_X12_isTest_17_b (k17 : Int32 → Int32 → Dm → Option (Int32 × Dm)) (x1 : Int32) (x2 : Int32) (D : Dm) : Option (Int32 × Dm) := if (D 281 36) ≤ x2 then (some (1, D)) else (gd (inB ((6 * x1) + x2) 60) (gd (inB x2 40) (if (D 293 (Int32.toNatClampNeg ((6 * x1) + x2))) = (D 299 (Int32.toNatClampNeg x2)) then (gd (inB ((6 * x1) + x2) 60) (gd (inB x2 40) (if (D 294 (Int32.toNatClampNeg ((6 * x1) + x2))) = (D 300 (Int32.toNatClampNeg x2)) then (lt (x2 + 1) fun y8 => k17 x1 y8 D) else (some (0, D))))) else (some (0, D)))))
def f_X12_isTest_17 : Nat → Int32 → Int32 → Dm → Option (Int32 × Dm)
  | 0, _, _, _ => none
  | n + 1, x1, x2, D => f_X12_isTest_17_b (f_X12_isTest_17 n) x1 x2 D
def f_X12_isTest (x1 : Int32) (D : Dm) : Option (Int32 × Dm) := gd (inB x1 10) (if (D 292 (Int32.toNatClampNeg x1)) = (D 281 36) then (f_X12_isTest_17 FU x1 0 D) else (some (0, D)))
def f_X12_addsTest_82_b (k82 : Int32 → Dm → Option (Int32 × Dm)) (x1 : Int32) (D : Dm) : Option (Int32 × Dm) := if (D 281 36) ≤ x1 then (lt (ud D 281 28 ((D 281 28) + 1)) fun D2 => some (1, D2)) else (gd (inB x1 40) (gd (inB ((6 * (D 281 28)) + x1) 60) (lt (ud D 293 (Int32.toNatClampNeg ((6 * (D 281 28)) + x1)) (D 299 (Int32.toNatClampNeg x1))) fun D6 => gd (inB x1 40) (gd (inB ((6 * (D6 281 28)) + x1) 60) (lt (ud D6 294 (Int32.toNatClampNeg ((6 * (D6 281 28)) + x1)) (D6 300 (Int32.toNatClampNeg x1))) fun D10 => lt (x1 + 1) fun y12 => k82 y12 D10)))))
def f_X12_addsTest_82 : Nat → Int32 → Dm → Option (Int32 × Dm)
  | 0, _, _ => none
  | n + 1, x1, D => f_X12_addsTest_82_b (f_X12_addsTest_82 n) x1 D
def f_X12_addsTest_43_b (k43 : Int32 → Dm → Option (Int32 × Dm)) (x1 : Int32) (D : Dm) : Option (Int32 × Dm) := if (D 281 28) ≤ x1 then (gd (inB (D 281 28) 10) (lt (ud D 292 (Int32.toNatClampNeg (D 281 28)) (D 281 36)) fun D3 => f_X12_addsTest_82 FU 0 D3)) else (bI (f_X12_isTest x1 D) fun y7 D5 => if y7 = 0 then (lt (x1 + 1) fun y9 => k43 y9 D5) else (some (0, D5)))
def f_X12_addsTest_43 : Nat → Int32 → Dm → Option (Int32 × Dm)
  | 0, _, _ => none
  | n + 1, x1, D => f_X12_addsTest_43_b (f_X12_addsTest_43 n) x1 D
def f_X12_addsTest  (D : Dm) : Option (Int32 × Dm) := bV (f_X12_leasts D) fun D1 => if (D1 281 28) = 10 then (some (0, D1)) else (if 6 < (D1 281 36) then (some (0, D1)) else (bI (f_X12_namesOf 300 40 0 (D1 281 36) D1) fun y7 D5 => if y7 ≤ 3 then (f_X12_addsTest_43 FU 0 D5) else (some (0, D5))))
def f_X12_addsShort_68_b (k68 : Int32 → Dm → Option (Int32 × Dm)) (x1 : Int32) (D : Dm) : Option (Int32 × Dm) := if (D 281 36) ≤ x1 then (lt (ud D 281 27 ((D 281 27) + 1)) fun D2 => some (1, D2)) else (gd (inB x1 40) (gd (inB ((6 * (D 281 27)) + x1) 60) (lt (ud D 290 (Int32.toNatClampNeg ((6 * (D 281 27)) + x1)) (D 299 (Int32.toNatClampNeg x1))) fun D6 => gd (inB x1 40) (gd (inB ((6 * (D6 281 27)) + x1) 60) (lt (ud D6 291 (Int32.toNatClampNeg ((6 * (D6 281 27)) + x1)) (D6 300 (Int32.toNatClampNeg x1))) fun D10 => lt (x1 + 1) fun y12 => k68 y12 D10)))))
def f_X12_addsShort_68 : Nat → Int32 → Dm → Option (Int32 × Dm)
  | 0, _, _ => none
  | n + 1, x1, D => f_X12_addsShort_68_b (f_X12_addsShort_68 n) x1 D
def f_X12_addsShort  (D : Dm) : Option (Int32 × Dm) := bV (f_X12_takesLong (D 281 56) (D 281 57) (D 281 58) D) fun D1 => if (D1 281 27) = 10 then (some (0, D1)) else (if 6 < (D1 281 36) then (some (0, D1)) else (bI (f_X12_namesOf 300 40 0 (D1 281 36) D1) fun y7 D5 => if y7 ≤ 3 then (gd (inB (D5 281 27) 10) (lt (ud D5 289 (Int32.toNatClampNeg (D5 281 27)) (D5 281 36)) fun D10 => f_X12_addsShort_68 FU 0 D10)) else (some (0, D5))))
def f_X12_addsShown_43_b (k43 : Int32 → Dm → Option (Int32 × Dm)) (x1 : Int32) (D : Dm) : Option (Int32 × Dm) := gd (inB (D 281 44) 10) (if (D 292 (Int32.toNatClampNeg (D 281 44))) ≤ x1 then (bI (f_X12_addsTest D) fun y5 D3 => gd (zbB y5) (some (y5, D3))) else (gd (inB ((6 * (D 281 44)) + x1) 60) (gd (inB ((6 * (D 281 44)) + x1) 60) (gd (inB (D 294 (Int32.toNatClampNeg ((6 * (D 281 44)) + x1))) 3) (bV (f_X12_takesLetter (D 293 (Int32.toNatClampNeg ((6 * (D 281 44)) + x1))) (D 303 (Int32.toNatClampNeg (D 294 (Int32.toNatClampNeg ((6 * (D 281 44)) + x1))))) D) fun D10 => lt (x1 + 1) fun y12 => k43 y12 D10)))))
def f_X12_addsShown_43 : Nat → Int32 → Dm → Option (Int32 × Dm)
  | 0, _, _ => none
  | n + 1, x1, D => f_X12_addsShown_43_b (f_X12_addsShown_43 n) x1 D
def f_X12_addsShown  (D : Dm) : Option (Int32 × Dm) := bV (f_X12_takesLong (D 281 56) (D 281 57) (D 281 58) D) fun D1 => bV (f_X12_shows (D1 281 59) D1) fun D3 => lt (ud D3 281 36 0) fun D5 => bV (f_X12_takesLetter (D5 281 57) (D5 281 58) D5) fun D7 => f_X12_addsShown_43 FU 0 D7
def f_X12_addsSplit_12_b (k12 : Int32 → Dm → Option (Int32 × Dm)) (x1 : Int32) (D : Dm) : Option (Int32 × Dm) := if (D 281 64) ≤ x1 then (bI (f_X12_addsTest D) fun y4 D2 => gd (zbB y4) (some (y4, D2))) else (gd (inB x1 20) (gd (inB x1 20) (bV (f_X12_takesLetter (D 308 (Int32.toNatClampNeg x1)) (D 309 (Int32.toNatClampNeg x1)) D) fun D8 => lt (x1 + 1) fun y10 => k12 y10 D8)))
def f_X12_addsSplit_12 : Nat → Int32 → Dm → Option (Int32 × Dm)
  | 0, _, _ => none
  | n + 1, x1, D => f_X12_addsSplit_12_b (f_X12_addsSplit_12 n) x1 D
def f_X12_addsSplit  (D : Dm) : Option (Int32 × Dm) := lt (ud D 281 36 0) fun D1 => lt ((D1 281 65) + 1) fun y3 => f_X12_addsSplit_12 FU y3 D1
def f_X12_steps_59 (xs0 : Int32) (D : Dm) : Option (Int32 × Dm) := if xs0 = 0 then (some ((-4), D)) else (lt (D 281 55) fun y2 => if y2 = 0 then (some (y2, D)) else (lt (ud D 281 33 0) fun D5 => some (y2, D5)))
def f_X12_steps_54  (D : Dm) : Option (Int32 × Dm) := f_X12_steps_59 1 D
def f_X12_steps_58  (D : Dm) : Option (Int32 × Dm) := f_X12_steps_59 0 D
def f_X12_steps  (D : Dm) : Option (Int32 × Dm) := bV (f_X12_lays D) fun D1 => if (D1 281 55) = 0 then (f_X12_steps_54 D1) else (if (D1 281 55) = 1 then (bI (f_X12_addsShown D1) fun y16 D14 => if y16 = 0 then (f_X12_steps_58 D14) else (f_X12_steps_54 D14)) else (if (D1 281 55) = 2 then (bI (f_X12_addsShort D1) fun y12 D10 => if y12 = 0 then (f_X12_steps_58 D10) else (f_X12_steps_54 D10)) else (bI (f_X12_addsSplit D1) fun y8 D6 => if y8 = 0 then (f_X12_steps_58 D6) else (f_X12_steps_54 D6))))
def f_X12_isLong_26  (D : Dm) : Option (Int32 × Dm) := some (1, D)
def f_X12_isLong  (D : Dm) : Option (Int32 × Dm) := if 6 < (D 281 36) then (f_X12_isLong_26 D) else (bI (f_X12_namesOf 300 40 0 (D 281 36) D) fun y4 D2 => if y4 ≤ 4 then (some (0, D2)) else (f_X12_isLong_26 D2))
def f_X12_remembered  (D : Dm) : Option (Int32 × Dm) := lt (ud D 281 0 0) fun D1 => bV (f_X12_takesTold D1) fun D3 => bI (f_X12_isLong D3) fun y7 D5 => if y7 = 0 then (bI (f_X12_remembers 0 0 D5) fun y11 D9 => some (y11, D9)) else (some ((-4), D5))
def f_X12_alike_94 (k65 : Int32 → Int32 → Int32 → Int32 → Dm → Option (Int32 × Dm)) (x2 : Int32) (x3 : Int32) (x5 : Int32) (xs0 : Int32) (xs1 : Int32) (D : Dm) : Option (Int32 × Dm) := lt (xs1 + xs0) fun y1 => lt (x5 + 1) fun y3 => k65 x2 x3 y1 y3 D
def f_X12_alike_65_b (k65 : Int32 → Int32 → Int32 → Int32 → Dm → Option (Int32 × Dm)) (x2 : Int32) (x3 : Int32) (x4 : Int32) (x5 : Int32) (D : Dm) : Option (Int32 × Dm) := bI (f_X12_bits x2 D) fun y3 D1 => if y3 ≤ x5 then (some (x4, D1)) else (if x3 = 0 then (f_X12_alike_94 k65 x2 x3 x5 x5 ((10 * x4) + 1) D1) else (f_X12_alike_94 k65 x2 x3 x5 (1 - x5) ((10 * x4) + 1) D1))
def f_X12_alike_65 : Nat → Int32 → Int32 → Int32 → Int32 → Dm → Option (Int32 × Dm)
  | 0, _, _, _, _, _ => none
  | n + 1, x2, x3, x4, x5, D => f_X12_alike_65_b (f_X12_alike_65 n) x2 x3 x4 x5 D
def f_X12_alike (x1 : Int32) (D : Dm) : Option (Int32 × Dm) := lt (ud D 281 0 0) fun D1 => bI (f_X12_isIn (Int32.toInt64 x1) 0 (Int32.toInt64 ((D1 281 27) - 1)) D1) fun y5 D3 => if y5 = 0 then (some ((-2), D3)) else (bV (f_X12_takesTold D3) fun D7 => bI (f_X12_isLong D7) fun y11 D9 => if y11 = 0 then (bI (f_X12_remembers 0 0 D9) fun y15 D13 => bI (f_X12_wayTo y15 x1 D13) fun y18 D16 => if y18 = (-1) then (some ((-1), D16)) else (f_X12_alike_65 FU y15 y18 0 0 D16)) else (some ((-4), D9)))
def f_X12_begin  (D : Dm) : Option (Int32 × Dm) := lt (ud D 281 0 0) fun D1 => lt ((D1 281 27) + (D1 281 28)) fun y3 => bV (f_X12_resets D1) fun D5 => some (y3, D5)
def f_X12_step  (D : Dm) : Option (Int32 × Dm) := lt (ud D 281 0 0) fun D1 => bI (f_X12_steps D1) fun y5 D3 => some (y5, D3)
def f_X12_learn_7_b (k7 : Int32 → Dm → Option (Int32 × Dm)) (x1 : Int32) (D : Dm) : Option (Int32 × Dm) := if 40 ≤ x1 then (some (40, D)) else (bI (f_X12_steps D) fun y4 D2 => if 0 < y4 then (lt (x1 + 1) fun y6 => k7 y6 D2) else (if 0 ≤ y4 then (some (x1, D2)) else (some (y4, D2))))
def f_X12_learn_7 : Nat → Int32 → Dm → Option (Int32 × Dm)
  | 0, _, _ => none
  | n + 1, x1, D => f_X12_learn_7_b (f_X12_learn_7 n) x1 D
def f_X12_learn  (D : Dm) : Option (Int32 × Dm) := lt (ud D 281 0 0) fun D1 => f_X12_learn_7 FU 0 D1
def f_X12_told (r0 : Nat) (n0 : Nat) (r1 : Nat) (n1 : Nat) (r2 : Nat) (n2 : Nat) (x3 : Int32) (x4 : Int32) (x5 : Int32) (D : Dm) : Option (Int32 × Dm) := if x4 = (-1) then (if x5 = 0 then (gd (inB x3 n0) (some ((D r0 (Int32.toNatClampNeg x3)), D))) else (some ((-2), D))) else (gd (inB x3 n0) (bI (f_X12_isIn (Int32.toInt64 x4) 0 (Int32.toInt64 ((D r0 (Int32.toNatClampNeg x3)) - 1)) D) fun y5 D3 => if y5 = 0 then (some ((-2), D3)) else (bI (f_X12_isIn (Int32.toInt64 x5) 0 1 D3) fun y9 D7 => if y9 = 0 then (some ((-2), D7)) else (if x5 = 0 then (gd (inB ((6 * x3) + x4) n1) (some ((D7 r1 (Int32.toNatClampNeg ((6 * x3) + x4))), D7))) else (gd (inB ((6 * x3) + x4) n2) (some ((D7 r2 (Int32.toNatClampNeg ((6 * x3) + x4))), D7)))))))
def f_X12_brief (x1 : Int32) (x2 : Int32) (x3 : Int32) (D : Dm) : Option (Int32 × Dm) := lt (ud D 281 0 0) fun D1 => bI (f_X12_isIn (Int32.toInt64 x1) 0 (Int32.toInt64 ((D1 281 27) - 1)) D1) fun y5 D3 => if y5 = 0 then (some ((-2), D3)) else (bI (f_X12_told 289 10 290 60 291 60 x1 x2 x3 D3) fun y9 D7 => some (y9, D7))
def f_X12_test (x1 : Int32) (x2 : Int32) (x3 : Int32) (D : Dm) : Option (Int32 × Dm) := lt (ud D 281 0 0) fun D1 => bI (f_X12_isIn (Int32.toInt64 x1) 0 (Int32.toInt64 ((D1 281 28) - 1)) D1) fun y5 D3 => if y5 = 0 then (some ((-2), D3)) else (bI (f_X12_told 292 10 293 60 294 60 x1 x2 x3 D3) fun y9 D7 => some (y9, D7))
def f_X12_registers (x1 : Int32) (D : Dm) : Option (Int32 × Dm) := lt (ud D 281 0 0) fun D1 => bI (f_X12_isIn (Int32.toInt64 x1) 0 (Int32.toInt64 ((D1 281 27) - 1)) D1) fun y5 D3 => if y5 = 0 then (some ((-2), D3)) else (bI (f_X12_hasShort x1 D3) fun y9 D7 => some (y9, D7))
def f_X12_goes (x1 : Int32) (x2 : Int32) (x3 : Int32) (D : Dm) : Option (Int32 × Dm) := lt (ud D 281 0 0) fun D1 => bI (f_X12_isIn (Int32.toInt64 x1) 0 (Int32.toInt64 ((D1 281 27) - 1)) D1) fun y5 D3 => if y5 = 0 then (some ((-2), D3)) else (bI (f_X12_its 0 2 D3) fun y9 D7 => bI (f_X12_isIn (Int32.toInt64 x2) 0 (Int32.toInt64 (y9 - 1)) D7) fun y12 D10 => if y12 = 0 then (some ((-2), D10)) else (bI (f_X12_namesOfShort x1 D10) fun y16 D14 => bI (f_X12_isIn (Int32.toInt64 x3) 0 (Int32.toInt64 y16) D14) fun y19 D17 => if y19 = 0 then (some ((-3), D17)) else (bI (f_X12_hasLong x1 x2 x3 D17) fun y23 D21 => bV (f_X12_takesLong x1 x2 x3 D21) fun D24 => bI (f_X12_likeOf y23 D24) fun y28 D26 => some (y28, D26))))
def f_X12_isStanding_19  (D : Dm) : Option (Int32 × Dm) := some (1, D)
def f_X12_isStanding  (D : Dm) : Option (Int32 × Dm) := bV (f_X12_lays D) fun D1 => if (D1 281 55) = 0 then (f_X12_isStanding_19 D1) else (if (D1 281 55) = 3 then (f_X12_isStanding_19 D1) else (some (0, D1)))
def f_X12_stands  (D : Dm) : Option (Int32 × Dm) := lt (ud D 281 0 0) fun D1 => bI (f_X12_isStanding D1) fun y5 D3 => if y5 = 0 then (some (0, D3)) else (if (D3 281 55) = 3 then (some (1, D3)) else (some (2, D3)))
def f_X12_guessAlong_9_b (k9 : Int32 → Int32 → Dm → Option Dm) (x1 : Int32) (x2 : Int32) (D : Dm) : Option Dm := if x1 ≤ x2 then (some D) else (gd (inB x2 12) (gd (inB x2 12) (bV (f_X12_guessGoes (D 285 (Int32.toNatClampNeg x2)) (D 286 (Int32.toNatClampNeg x2)) D) fun D4 => lt (x2 + 1) fun y6 => k9 x1 y6 D4)))
def f_X12_guessAlong_9 : Nat → Int32 → Int32 → Dm → Option Dm
  | 0, _, _, _ => none
  | n + 1, x1, x2, D => f_X12_guessAlong_9_b (f_X12_guessAlong_9 n) x1 x2 D
def f_X12_guessAlong (x1 : Int32) (D : Dm) : Option Dm := bV (f_X12_guesses 0 (-1) (-1) D) fun D1 => f_X12_guessAlong_9 FU x1 0 D1
def f_X12_guess  (D : Dm) : Option (Int32 × Dm) := lt (ud D 281 0 0) fun D1 => bI (f_X12_isStanding D1) fun y5 D3 => if y5 = 0 then (some ((-5), D3)) else (bV (f_X12_guessAlong (D3 281 18) D3) fun D7 => bI (f_X12_isGood (D7 281 66) D7) fun y11 D9 => if y11 = 0 then (some (0, D9)) else (some (1, D9)))
def f_X12_guessed (x1 : Int32) (x2 : Int32) (D : Dm) : Option (Int32 × Dm) := lt (ud D 281 0 0) fun D1 => bI (f_X12_isIn (Int32.toInt64 x1) 0 (Int32.toInt64 (D1 281 18)) D1) fun y5 D3 => if y5 = 0 then (some ((-3), D3)) else (bI (f_X12_isIn (Int32.toInt64 x2) 0 2 D3) fun y9 D7 => if y9 = 0 then (some ((-2), D7)) else (bI (f_X12_isStanding D7) fun y13 D11 => if y13 = 0 then (some ((-5), D11)) else (bV (f_X12_guessAlong x1 D11) fun D15 => if x2 = 0 then (some ((D15 281 66), D15)) else (if x2 = 1 then (some ((D15 281 67), D15)) else (some ((D15 281 68), D15))))))
def f_X12_refutes_29 (x1 : Int32) (x2 : Int32) (D : Dm) : Option (Int32 × Dm) := bI (f_X12_isIn (Int32.toInt64 x1) 0 (Int32.toInt64 ((D 281 64) - 1)) D) fun y3 D1 => if y3 = 0 then (some ((-2), D1)) else (bI (f_X12_isIn (Int32.toInt64 x2) 0 1 D1) fun y7 D5 => if y7 = 0 then (some ((-2), D5)) else (if x2 = 0 then (gd (inB x1 20) (some ((D5 308 (Int32.toNatClampNeg x1)), D5))) else (gd (inB x1 20) (some ((D5 309 (Int32.toNatClampNeg x1)), D5)))))
def f_X12_refutes (x1 : Int32) (x2 : Int32) (D : Dm) : Option (Int32 × Dm) := lt (ud D 281 0 0) fun D1 => bI (f_X12_isStanding D1) fun y5 D3 => if y5 = 0 then (some ((-5), D3)) else (if x1 = (-1) then (if x2 = 0 then (some ((D3 281 64), D3)) else (f_X12_refutes_29 x1 x2 D3)) else (f_X12_refutes_29 x1 x2 D3))
def f_X12_splits  (D : Dm) : Option (Int32 × Dm) := lt (ud D 281 0 0) fun D1 => bI (f_X12_isStanding D1) fun y5 D3 => if y5 = 0 then (some ((-5), D3)) else (some ((D3 281 65), D3))
def f_X12_spare_51 (k19 : Int32 → Int32 → Dm → Option (Int32 × Dm)) (x2 : Int32) (xs0 : Int32) (D : Dm) : Option (Int32 × Dm) := lt (x2 + 1) fun y1 => k19 xs0 y1 D
def f_X12_spare_19_b (k19 : Int32 → Int32 → Dm → Option (Int32 × Dm)) (x1 : Int32) (x2 : Int32) (D : Dm) : Option (Int32 × Dm) := if (D 281 27) ≤ x2 then (bI (f_X12_its 0 1 D) fun y4 D2 => some ((y4 - x1), D2)) else (bI (f_X12_hasShort x2 D) fun y7 D5 => bI (f_X12_bits y7 D5) fun y10 D8 => if y10 ≤ x1 then (f_X12_spare_51 k19 x2 x1 D8) else (bI (f_X12_hasShort x2 D8) fun y14 D12 => bI (f_X12_bits y14 D12) fun y17 D15 => f_X12_spare_51 k19 x2 y17 D15))
def f_X12_spare_19 : Nat → Int32 → Int32 → Dm → Option (Int32 × Dm)
  | 0, _, _, _ => none
  | n + 1, x1, x2, D => f_X12_spare_19_b (f_X12_spare_19 n) x1 x2 D
def f_X12_spare  (D : Dm) : Option (Int32 × Dm) := lt (ud D 281 0 0) fun D1 => bI (f_X12_isStanding D1) fun y5 D3 => if y5 = 0 then (some ((-5), D3)) else (f_X12_spare_19 FU 0 0 D3)
def f_X12_differ  (D : Dm) : Option (Int32 × Dm) := lt (ud D 281 0 0) fun D1 => bI (f_X12_seeks 0 D1) fun y5 D3 => if y5 = (-1) then (some ((-1), D3)) else (gd (inB y5 3500) (some ((D3 313 (Int32.toNatClampNeg y5)), D3)))
def f_X12_differs_57_b (k57 : Int32 → Int32 → Int32 → Int32 → Dm → Option (Int32 × Dm)) (x1 : Int32) (x2 : Int32) (x3 : Int32) (x4 : Int32) (D : Dm) : Option (Int32 × Dm) := if x4 ≤ x1 then (if x2 = 0 then (gd (inB x3 3500) (some ((D 311 (Int32.toNatClampNeg x3)), D))) else (gd (inB x3 3500) (some ((D 312 (Int32.toNatClampNeg x3)), D)))) else (gd (inB x3 3500) (lt (D 310 (Int32.toNatClampNeg x3)) fun y6 => lt (x4 + (-1)) fun y8 => k57 x1 x2 y6 y8 D))
def f_X12_differs_57 : Nat → Int32 → Int32 → Int32 → Int32 → Dm → Option (Int32 × Dm)
  | 0, _, _, _, _, _ => none
  | n + 1, x1, x2, x3, x4, D => f_X12_differs_57_b (f_X12_differs_57 n) x1 x2 x3 x4 D
def f_X12_differs (x1 : Int32) (x2 : Int32) (D : Dm) : Option (Int32 × Dm) := lt (ud D 281 0 0) fun D1 => bI (f_X12_seeks 0 D1) fun y5 D3 => if y5 = (-1) then (some ((-2), D3)) else (gd (inB y5 3500) (bI (f_X12_isIn (Int32.toInt64 x1) 0 (Int32.toInt64 ((D3 313 (Int32.toNatClampNeg y5)) - 1)) D3) fun y10 D8 => if y10 = 0 then (some ((-2), D8)) else (bI (f_X12_isIn (Int32.toInt64 x2) 0 1 D8) fun y14 D12 => if y14 = 0 then (some ((-2), D12)) else (gd (inB y5 3500) (lt ((D12 313 (Int32.toNatClampNeg y5)) - 1) fun y17 => f_X12_differs_57 FU x1 x2 y5 y17 D12)))))
set_option maxHeartbeats 4000000 in
theorem w_X12_isMixedGood_128_b {G : va_G} {tA : Nat → ClassId} {z : Nat} {E : Ex} {p : Program} {l : Launch} {e : Env} {s : State} {m : MethodId} {args : Array Value} {below : List Frame} {meth : Method} {c : Code} {r : Int32} {D' : Dm} (O : Ok G tA z E cX12_isMixedGood RX12 4 p s m args c) (hr : meth.sig.returnType = some .boolean) (hlk : meth.locks = false) {k128 : Int32 → Dm → Option (Int32 × Dm)} (hk128 : ∀ (x3 : Int32) (D : Dm), k128 x3 D = some (r, D') → BI G tA z E p l e (rmC 27 0 0) s m args below meth c LAY D r D' 4 128 [(0, .ref (z + 281)), (3, .int x3)] []) (x3 : Int32) (D : Dm) (h : f_X12_isMixedGood_128_b k128 x3 D = some (r, D')) : BI G tA z E p l e (rmC 27 0 0) s m args below meth c LAY D r D' 4 128 [(0, .ref (z + 281)), (3, .int x3)] [] := by
  obtain ⟨hx, hb, -, hown, hts, -⟩ := id O
  unfold f_X12_isMixedGood_128_b at h
  intro H locs ls hH hl
  refine lv_iload_n hx hb dX12_isMixedGood_128 rfl (lv_at hl 1 rfl) ?_
  refine lv_aload_n hx hb dX12_isMixedGood_129 rfl (lv_at hl 0 rfl) ?_
  refine h_geti O hH ly_281 rfl fl_X12_434 dX12_isMixedGood_130 ?_
  refine lv_icmp_ge (tgt := 158) hx hb dX12_isMixedGood_133 (by decide) (fun c1 => ?_) (fun c1 => ?_)
  · have h := it_pos h c1
    refine lv_aload_n hx hb dX12_isMixedGood_158 rfl (lv_at hl 0 rfl) ?_
    obtain ⟨D2, hc3, h⟩ := bV_some h
    refine h_callVv (As := []) (rest := []) O hH (c_X12_runs hc3) ml_X12_332 ly_281 rfl rfl hl.1 rfl ⟨Nat.le_of_ble_eq_true rfl, Nat.le_of_ble_eq_true rfl⟩ (Nat.le_of_ble_eq_true rfl) dX12_isMixedGood_159 (fun H locs hH => ?_)
    refine lv_aload_n hx hb dX12_isMixedGood_162 rfl (lv_at hl 0 rfl) ?_
    refine lv_iconst (v := 0) hx hb dX12_isMixedGood_163 (by decide) ?_
    obtain ⟨y6, D4, hc5, h⟩ := bI_some h
    refine h_callVi (As := [.int 0]) (rest := []) O hH (c_X12_accepts hc5) ml_X12_285 ly_281 rfl rfl hl.1 rfl ⟨Nat.le_of_ble_eq_true rfl, Nat.le_of_ble_eq_true rfl⟩ (Nat.le_of_ble_eq_true rfl) dX12_isMixedGood_164 (fun H locs hH => ?_)
    obtain ⟨g7, h⟩ := gd_some h
    obtain ⟨rfl, rfl⟩ := ret_i h
    exact h_zret O hr hlk (zbB_ok g7) hH dX12_isMixedGood_167
  · have h := it_neg h c1
    refine lv_aload_n hx hb dX12_isMixedGood_136 rfl (lv_at hl 0 rfl) ?_
    refine lv_aload_n hx hb dX12_isMixedGood_137 rfl (lv_at hl 0 rfl) ?_
    refine h_getr O hH ly_281 rfl fl_X12_96 dX12_isMixedGood_138 ?_
    refine lv_iload_n hx hb dX12_isMixedGood_141 rfl (lv_at hl 1 rfl) ?_
    obtain ⟨g8, h⟩ := gd_some h
    refine h_iald O hH ly_308 g8 dX12_isMixedGood_142 ?_
    refine lv_aload_n hx hb dX12_isMixedGood_143 rfl (lv_at hl 0 rfl) ?_
    refine h_getr O hH ly_281 rfl fl_X12_99 dX12_isMixedGood_144 ?_
    refine lv_iload_n hx hb dX12_isMixedGood_147 rfl (lv_at hl 1 rfl) ?_
    obtain ⟨g9, h⟩ := gd_some h
    refine h_iald O hH ly_309 g9 dX12_isMixedGood_148 ?_
    obtain ⟨D10, hc11, h⟩ := bV_some h
    refine h_callVv (As := [.int (D 308 (Int32.toNatClampNeg x3)), .int (D 309 (Int32.toNatClampNeg x3))]) (rest := []) O hH (c_X12_takesLetter hc11) ml_X12_325 ly_281 rfl rfl hl.1 rfl ⟨Nat.le_of_ble_eq_true rfl, Nat.le_of_ble_eq_true rfl⟩ (Nat.le_of_ble_eq_true rfl) dX12_isMixedGood_149 (fun H locs hH => ?_)
    obtain ⟨y12, e13, h⟩ := lt_some h
    refine lv_iinc (v := y12) (lv' := [(3, .int y12), (0, .ref (z + 281))]) hx hb dX12_isMixedGood_152 hl (k := 1) rfl (by rw [e13]; rfl) (by decide) rfl (fun ls hl => ?_)
    refine lv_goto (tgt := 128) hx hb dX12_isMixedGood_155 (by decide) ?_
    exact hk128 _ _ h _ _ _ hH (lv_sub hl [1, 0] rfl)
set_option maxHeartbeats 4000000 in
theorem w_X12_isMixedGood_128 {G : va_G} {tA : Nat → ClassId} {z : Nat} {E : Ex} {p : Program} {l : Launch} {e : Env} {s : State} {m : MethodId} {args : Array Value} {below : List Frame} {meth : Method} {c : Code} {r : Int32} {D' : Dm} (O : Ok G tA z E cX12_isMixedGood RX12 4 p s m args c) (hr : meth.sig.returnType = some .boolean) (hlk : meth.locks = false) : ∀ (n : Nat) (x3 : Int32) (D : Dm) (h : f_X12_isMixedGood_128 n x3 D = some (r, D')), BI G tA z E p l e (rmC 27 0 0) s m args below meth c LAY D r D' 4 128 [(0, .ref (z + 281)), (3, .int x3)] [] := by
  intro n
  induction n with
  | zero => intro x3 D h; exact no_some h
  | succ n ih => intro x3 D h; exact w_X12_isMixedGood_128_b O hr hlk (fun x3 D h => ih x3 D h) x3 D h
set_option maxHeartbeats 4000000 in
theorem w_X12_isMixedGood_119 {G : va_G} {tA : Nat → ClassId} {z : Nat} {E : Ex} {p : Program} {l : Launch} {e : Env} {s : State} {m : MethodId} {args : Array Value} {below : List Frame} {meth : Method} {c : Code} {r : Int32} {D' : Dm} (O : Ok G tA z E cX12_isMixedGood RX12 4 p s m args c) (hr : meth.sig.returnType = some .boolean) (hlk : meth.locks = false) {k55 : Int32 → Int32 → Int32 → Dm → Option (Int32 × Dm)} (hk55 : ∀ (x1 : Int32) (x2 : Int32) (x3 : Int32) (D : Dm), k55 x1 x2 x3 D = some (r, D') → BI G tA z E p l e (rmC 27 0 0) s m args below meth c LAY D r D' 4 55 [(0, .ref (z + 281)), (1, .int x1), (2, .int x2), (3, .int x3)] []) (x1 : Int32) (x2 : Int32) (x3 : Int32) (xs0 : Int32) (xs1 : Int32) (D : Dm) (h : f_X12_isMixedGood_119 k55 x1 x2 x3 xs0 xs1 D = some (r, D')) : BI G tA z E p l e (rmC 27 0 0) s m args below meth c LAY D r D' 4 119 [(0, .ref (z + 281)), (1, .int x1), (2, .int x2), (3, .int x3)] [.int xs0, .int xs1, .ref (z + 300)] := by
  obtain ⟨hx, hb, -, hown, hts, -⟩ := id O
  unfold f_X12_isMixedGood_119 at h
  intro H locs ls hH hl
  obtain ⟨g1, h⟩ := gd_some h
  obtain ⟨D2, e3, h⟩ := lt_some h
  refine h_iast O hH ly_300 g1 e3 dX12_isMixedGood_119 (fun H locs hH => ?_)
  obtain ⟨y4, e5, h⟩ := lt_some h
  refine lv_iinc (v := y4) (lv' := [(3, .int y4), (0, .ref (z + 281)), (1, .int x1), (2, .int x2)]) hx hb dX12_isMixedGood_120 hl (k := 3) rfl (by rw [e5]; rfl) (by decide) rfl (fun ls hl => ?_)
  refine lv_goto (tgt := 55) hx hb dX12_isMixedGood_123 (by decide) ?_
  exact hk55 _ _ _ _ h _ _ _ hH (lv_sub hl [1, 2, 3, 0] rfl)
set_option maxHeartbeats 4000000 in
theorem w_X12_isMixedGood_55_b {G : va_G} {tA : Nat → ClassId} {z : Nat} {E : Ex} {p : Program} {l : Launch} {e : Env} {s : State} {m : MethodId} {args : Array Value} {below : List Frame} {meth : Method} {c : Code} {r : Int32} {D' : Dm} (O : Ok G tA z E cX12_isMixedGood RX12 4 p s m args c) (hr : meth.sig.returnType = some .boolean) (hlk : meth.locks = false) {k55 : Int32 → Int32 → Int32 → Dm → Option (Int32 × Dm)} (hk55 : ∀ (x1 : Int32) (x2 : Int32) (x3 : Int32) (D : Dm), k55 x1 x2 x3 D = some (r, D') → BI G tA z E p l e (rmC 27 0 0) s m args below meth c LAY D r D' 4 55 [(0, .ref (z + 281)), (1, .int x1), (2, .int x2), (3, .int x3)] []) (x1 : Int32) (x2 : Int32) (x3 : Int32) (D : Dm) (h : f_X12_isMixedGood_55_b k55 x1 x2 x3 D = some (r, D')) : BI G tA z E p l e (rmC 27 0 0) s m args below meth c LAY D r D' 4 55 [(0, .ref (z + 281)), (1, .int x1), (2, .int x2), (3, .int x3)] [] := by
  obtain ⟨hx, hb, -, hown, hts, -⟩ := id O
  unfold f_X12_isMixedGood_55_b at h
  intro H locs ls hH hl
  refine lv_iload_n hx hb dX12_isMixedGood_55 rfl (lv_at hl 3 rfl) ?_
  refine lv_aload_n hx hb dX12_isMixedGood_56 rfl (lv_at hl 0 rfl) ?_
  refine h_geti O hH ly_281 rfl fl_X12_319 dX12_isMixedGood_57 ?_
  refine lv_icmp_ge (tgt := 126) hx hb dX12_isMixedGood_60 (by decide) (fun c1 => ?_) (fun c1 => ?_)
  · have h := it_pos h c1
    refine lv_iload_n hx hb dX12_isMixedGood_126 rfl (lv_at hl 1 rfl) ?_
    refine lv_istore_n (lv' := [(3, .int x1), (0, .ref (z + 281)), (1, .int x1), (2, .int x2)]) hx hb dX12_isMixedGood_127 rfl hl (by decide) rfl (fun ls hl => ?_)
    exact w_X12_isMixedGood_128 O hr hlk FU _ _ h _ _ _ hH (lv_sub hl [1, 0] rfl)
  · have h := it_neg h c1
    refine lv_aload_n hx hb dX12_isMixedGood_63 rfl (lv_at hl 0 rfl) ?_
    refine h_getr O hH ly_281 rfl fl_X12_72 dX12_isMixedGood_64 ?_
    refine lv_iload_n hx hb dX12_isMixedGood_67 rfl (lv_at hl 3 rfl) ?_
    refine lv_aload_n hx hb dX12_isMixedGood_68 rfl (lv_at hl 0 rfl) ?_
    refine h_getr O hH ly_281 rfl fl_X12_72 dX12_isMixedGood_69 ?_
    refine lv_iload_n hx hb dX12_isMixedGood_72 rfl (lv_at hl 3 rfl) ?_
    obtain ⟨g2, h⟩ := gd_some h
    refine h_iald O hH ly_300 g2 dX12_isMixedGood_73 ?_
    refine lv_iload_n hx hb dX12_isMixedGood_74 rfl (lv_at hl 2 rfl) ?_
    refine lv_iconst (v := 0) hx hb dX12_isMixedGood_75 (by decide) ?_
    obtain ⟨y5, D3, hc4, h⟩ := bI_some h
    refine h_callSi (As := [.int x2, .int 0]) (rest := [.int (D 300 (Int32.toNatClampNeg x3)), .int x3, .ref (z + 300)]) O hH (c_X12_nameAt hc4) ml_X12_392 rfl hl.1 rfl ⟨Nat.le_of_ble_eq_true rfl, Nat.le_of_ble_eq_true rfl⟩ (Nat.le_of_ble_eq_true rfl) dX12_isMixedGood_76 (fun H locs hH => ?_)
    refine lv_icmp_ne (tgt := 89) hx hb dX12_isMixedGood_79 (by decide) (fun c6 => ?_) (fun c6 => ?_)
    · have h := it_neg h c6
      refine lv_aload_n hx hb dX12_isMixedGood_89 rfl (lv_at hl 0 rfl) ?_
      refine h_getr O hH ly_281 rfl fl_X12_72 dX12_isMixedGood_90 ?_
      refine lv_iload_n hx hb dX12_isMixedGood_93 rfl (lv_at hl 3 rfl) ?_
      obtain ⟨g7, h⟩ := gd_some h
      refine h_iald O hH ly_300 g7 dX12_isMixedGood_94 ?_
      refine lv_iload_n hx hb dX12_isMixedGood_95 rfl (lv_at hl 2 rfl) ?_
      refine lv_iconst (v := 1) hx hb dX12_isMixedGood_96 (by decide) ?_
      obtain ⟨y10, D8, hc9, h⟩ := bI_some h
      refine h_callSi (As := [.int x2, .int 1]) (rest := [.int (D3 300 (Int32.toNatClampNeg x3)), .int x3, .ref (z + 300)]) O hH (c_X12_nameAt hc9) ml_X12_392 rfl hl.1 rfl ⟨Nat.le_of_ble_eq_true rfl, Nat.le_of_ble_eq_true rfl⟩ (Nat.le_of_ble_eq_true rfl) dX12_isMixedGood_97 (fun H locs hH => ?_)
      refine lv_icmp_ne (tgt := 110) hx hb dX12_isMixedGood_100 (by decide) (fun c11 => ?_) (fun c11 => ?_)
      · have h := it_neg h c11
        refine lv_bipush (v := 100) hx hb dX12_isMixedGood_110 (by decide) ?_
        refine lv_aload_n hx hb dX12_isMixedGood_112 rfl (lv_at hl 0 rfl) ?_
        refine h_getr O hH ly_281 rfl fl_X12_72 dX12_isMixedGood_113 ?_
        refine lv_iload_n hx hb dX12_isMixedGood_116 rfl (lv_at hl 3 rfl) ?_
        obtain ⟨g12, h⟩ := gd_some h
        refine h_iald O hH ly_300 g12 dX12_isMixedGood_117 ?_
        refine lv_iadd hx hb dX12_isMixedGood_118 ?_
        exact w_X12_isMixedGood_119 O hr hlk hk55 _ _ _ _ _ _ h _ _ _ hH (lv_sub hl [0, 1, 2, 3] rfl)
      · have h := it_pos h c11
        refine lv_aload_n hx hb dX12_isMixedGood_103 rfl (lv_at hl 0 rfl) ?_
        refine h_geti O hH ly_281 rfl fl_X12_483 dX12_isMixedGood_104 ?_
        refine lv_goto (tgt := 119) hx hb dX12_isMixedGood_107 (by decide) ?_
        exact w_X12_isMixedGood_119 O hr hlk hk55 _ _ _ _ _ _ h _ _ _ hH (lv_sub hl [0, 1, 2, 3] rfl)
    · have h := it_pos h c6
      refine lv_aload_n hx hb dX12_isMixedGood_82 rfl (lv_at hl 0 rfl) ?_
      refine h_geti O hH ly_281 rfl fl_X12_480 dX12_isMixedGood_83 ?_
      refine lv_goto (tgt := 119) hx hb dX12_isMixedGood_86 (by decide) ?_
      exact w_X12_isMixedGood_119 O hr hlk hk55 _ _ _ _ _ _ h _ _ _ hH (lv_sub hl [0, 1, 2, 3] rfl)
set_option maxHeartbeats 4000000 in
theorem w_X12_isMixedGood_55 {G : va_G} {tA : Nat → ClassId} {z : Nat} {E : Ex} {p : Program} {l : Launch} {e : Env} {s : State} {m : MethodId} {args : Array Value} {below : List Frame} {meth : Method} {c : Code} {r : Int32} {D' : Dm} (O : Ok G tA z E cX12_isMixedGood RX12 4 p s m args c) (hr : meth.sig.returnType = some .boolean) (hlk : meth.locks = false) : ∀ (n : Nat) (x1 : Int32) (x2 : Int32) (x3 : Int32) (D : Dm) (h : f_X12_isMixedGood_55 n x1 x2 x3 D = some (r, D')), BI G tA z E p l e (rmC 27 0 0) s m args below meth c LAY D r D' 4 55 [(0, .ref (z + 281)), (1, .int x1), (2, .int x2), (3, .int x3)] [] := by
  intro n
  induction n with
  | zero => intro x1 x2 x3 D h; exact no_some h
  | succ n ih => intro x1 x2 x3 D h; exact w_X12_isMixedGood_55_b O hr hlk (fun x1 x2 x3 D h => ih x1 x2 x3 D h) x1 x2 x3 D h
set_option maxHeartbeats 4000000 in
theorem w_X12_isMixedGood_9_b {G : va_G} {tA : Nat → ClassId} {z : Nat} {E : Ex} {p : Program} {l : Launch} {e : Env} {s : State} {m : MethodId} {args : Array Value} {below : List Frame} {meth : Method} {c : Code} {r : Int32} {D' : Dm} (O : Ok G tA z E cX12_isMixedGood RX12 4 p s m args c) (hr : meth.sig.returnType = some .boolean) (hlk : meth.locks = false) {k9 : Int32 → Int32 → Dm → Option (Int32 × Dm)} (hk9 : ∀ (x1 : Int32) (x2 : Int32) (D : Dm), k9 x1 x2 D = some (r, D') → BI G tA z E p l e (rmC 27 0 0) s m args below meth c LAY D r D' 4 9 [(0, .ref (z + 281)), (1, .int x1), (2, .int x2)] []) (x1 : Int32) (x2 : Int32) (D : Dm) (h : f_X12_isMixedGood_9_b k9 x1 x2 D = some (r, D')) : BI G tA z E p l e (rmC 27 0 0) s m args below meth c LAY D r D' 4 9 [(0, .ref (z + 281)), (1, .int x1), (2, .int x2)] [] := by
  obtain ⟨hx, hb, -, hown, hts, -⟩ := id O
  unfold f_X12_isMixedGood_9_b at h
  intro H locs ls hH hl
  refine lv_iload_n hx hb dX12_isMixedGood_9 rfl (lv_at hl 2 rfl) ?_
  refine lv_iload_n hx hb dX12_isMixedGood_10 rfl (lv_at hl 1 rfl) ?_
  refine lv_icmp_ge (tgt := 36) hx hb dX12_isMixedGood_11 (by decide) (fun c1 => ?_) (fun c1 => ?_)
  · have h := it_pos h c1
    refine lv_aload_n hx hb dX12_isMixedGood_36 rfl (lv_at hl 0 rfl) ?_
    refine lv_aload_n hx hb dX12_isMixedGood_37 rfl (lv_at hl 0 rfl) ?_
    refine h_geti O hH ly_281 rfl fl_X12_477 dX12_isMixedGood_38 ?_
    obtain ⟨y4, D2, hc3, h⟩ := bI_some h
    refine h_callVi (As := [.int (D 281 66)]) (rest := []) O hH (c_X12_hasShort hc3) ml_X12_422 ly_281 rfl rfl hl.1 rfl ⟨Nat.le_of_ble_eq_true rfl, Nat.le_of_ble_eq_true rfl⟩ (Nat.le_of_ble_eq_true rfl) dX12_isMixedGood_41 (fun H locs hH => ?_)
    refine lv_istore_n (lv' := [(2, .int y4), (0, .ref (z + 281)), (1, .int x1)]) hx hb dX12_isMixedGood_44 rfl hl (by decide) rfl (fun ls hl => ?_)
    refine lv_aload_n hx hb dX12_isMixedGood_45 rfl (lv_at hl 1 rfl) ?_
    refine lv_aload_n hx hb dX12_isMixedGood_46 rfl (lv_at hl 1 rfl) ?_
    refine h_geti O hH ly_281 rfl fl_X12_477 dX12_isMixedGood_47 ?_
    obtain ⟨D5, hc6, h⟩ := bV_some h
    refine h_callVv (As := [.int (D2 281 66)]) (rest := []) O hH (c_X12_takesShort hc6) ml_X12_322 ly_281 rfl rfl hl.1 rfl ⟨Nat.le_of_ble_eq_true rfl, Nat.le_of_ble_eq_true rfl⟩ (Nat.le_of_ble_eq_true rfl) dX12_isMixedGood_50 (fun H locs hH => ?_)
    refine lv_iconst (v := 0) hx hb dX12_isMixedGood_53 (by decide) ?_
    refine lv_istore_n (lv' := [(3, .int 0), (2, .int y4), (0, .ref (z + 281)), (1, .int x1)]) hx hb dX12_isMixedGood_54 rfl hl (by decide) rfl (fun ls hl => ?_)
    exact w_X12_isMixedGood_55 O hr hlk FU _ _ _ _ h _ _ _ hH (lv_sub hl [2, 3, 1, 0] rfl)
  · have h := it_neg h c1
    refine lv_aload_n hx hb dX12_isMixedGood_14 rfl (lv_at hl 0 rfl) ?_
    refine lv_aload_n hx hb dX12_isMixedGood_15 rfl (lv_at hl 0 rfl) ?_
    refine h_getr O hH ly_281 rfl fl_X12_96 dX12_isMixedGood_16 ?_
    refine lv_iload_n hx hb dX12_isMixedGood_19 rfl (lv_at hl 2 rfl) ?_
    obtain ⟨g7, h⟩ := gd_some h
    refine h_iald O hH ly_308 g7 dX12_isMixedGood_20 ?_
    refine lv_aload_n hx hb dX12_isMixedGood_21 rfl (lv_at hl 0 rfl) ?_
    refine h_getr O hH ly_281 rfl fl_X12_99 dX12_isMixedGood_22 ?_
    refine lv_iload_n hx hb dX12_isMixedGood_25 rfl (lv_at hl 2 rfl) ?_
    obtain ⟨g8, h⟩ := gd_some h
    refine h_iald O hH ly_309 g8 dX12_isMixedGood_26 ?_
    obtain ⟨D9, hc10, h⟩ := bV_some h
    refine h_callVv (As := [.int (D 308 (Int32.toNatClampNeg x2)), .int (D 309 (Int32.toNatClampNeg x2))]) (rest := []) O hH (c_X12_guessGoes hc10) ml_X12_533 ly_281 rfl rfl hl.1 rfl ⟨Nat.le_of_ble_eq_true rfl, Nat.le_of_ble_eq_true rfl⟩ (Nat.le_of_ble_eq_true rfl) dX12_isMixedGood_27 (fun H locs hH => ?_)
    obtain ⟨y11, e12, h⟩ := lt_some h
    refine lv_iinc (v := y11) (lv' := [(2, .int y11), (0, .ref (z + 281)), (1, .int x1)]) hx hb dX12_isMixedGood_30 hl (k := 2) rfl (by rw [e12]; rfl) (by decide) rfl (fun ls hl => ?_)
    refine lv_goto (tgt := 9) hx hb dX12_isMixedGood_33 (by decide) ?_
    exact hk9 _ _ _ h _ _ _ hH (lv_sub hl [1, 2, 0] rfl)
set_option maxHeartbeats 4000000 in
theorem w_X12_isMixedGood_9 {G : va_G} {tA : Nat → ClassId} {z : Nat} {E : Ex} {p : Program} {l : Launch} {e : Env} {s : State} {m : MethodId} {args : Array Value} {below : List Frame} {meth : Method} {c : Code} {r : Int32} {D' : Dm} (O : Ok G tA z E cX12_isMixedGood RX12 4 p s m args c) (hr : meth.sig.returnType = some .boolean) (hlk : meth.locks = false) : ∀ (n : Nat) (x1 : Int32) (x2 : Int32) (D : Dm) (h : f_X12_isMixedGood_9 n x1 x2 D = some (r, D')), BI G tA z E p l e (rmC 27 0 0) s m args below meth c LAY D r D' 4 9 [(0, .ref (z + 281)), (1, .int x1), (2, .int x2)] [] := by
  intro n
  induction n with
  | zero => intro x1 x2 D h; exact no_some h
  | succ n ih => intro x1 x2 D h; exact w_X12_isMixedGood_9_b O hr hlk (fun x1 x2 D h => ih x1 x2 D h) x1 x2 D h
set_option maxHeartbeats 4000000 in
theorem w_X12_isMixedGood {G : va_G} {tA : Nat → ClassId} {z : Nat} {E : Ex} {p : Program} {l : Launch} {e : Env} {s : State} {m : MethodId} {args : Array Value} {below : List Frame} {meth : Method} {c : Code} {r : Int32} {D' : Dm} (O : Ok G tA z E cX12_isMixedGood RX12 4 p s m args c) (hr : meth.sig.returnType = some .boolean) (hlk : meth.locks = false) (x1 : Int32) (D : Dm) (h : f_X12_isMixedGood x1 D = some (r, D')) : BI G tA z E p l e (rmC 27 0 0) s m args below meth c LAY D r D' 4 0 [(0, .ref (z + 281)), (1, .int x1)] [] := by
  obtain ⟨hx, hb, -, hown, hts, -⟩ := id O
  unfold f_X12_isMixedGood at h
  intro H locs ls hH hl
  refine lv_aload_n hx hb dX12_isMixedGood_0 rfl (lv_at hl 0 rfl) ?_
  refine lv_iconst (v := 0) hx hb dX12_isMixedGood_1 (by decide) ?_
  refine lv_iconst (v := (-1)) hx hb dX12_isMixedGood_2 (by decide) ?_
  refine lv_iconst (v := (-1)) hx hb dX12_isMixedGood_3 (by decide) ?_
  obtain ⟨D1, hc2, h⟩ := bV_some h
  refine h_callVv (As := [.int 0, .int (-1), .int (-1)]) (rest := []) O hH (c_X12_guesses hc2) ml_X12_486 ly_281 rfl rfl hl.1 rfl ⟨Nat.le_of_ble_eq_true rfl, Nat.le_of_ble_eq_true rfl⟩ (Nat.le_of_ble_eq_true rfl) dX12_isMixedGood_4 (fun H locs hH => ?_)
  refine lv_iconst (v := 0) hx hb dX12_isMixedGood_7 (by decide) ?_
  refine lv_istore_n (lv' := [(2, .int 0), (0, .ref (z + 281)), (1, .int x1)]) hx hb dX12_isMixedGood_8 rfl hl (by decide) rfl (fun ls hl => ?_)
  exact w_X12_isMixedGood_9 O hr hlk FU _ _ _ h _ _ _ hH (lv_sub hl [1, 2, 0] rfl)
set_option maxHeartbeats 4000000 in
theorem c_X12_isMixedGood {l : Launch} {G : va_G} {tA : Nat → ClassId} {z : Nat} {E : Ex} {x1 : Int32} {D D' : Dm} {r : Int32} (h : f_X12_isMixedGood x1 D = some (r, D')) : CtI l yX12_isMixedGood cX12_isMixedGood 4 (some .boolean) G tA z E 27 0 0 [.ref (z + 281), .int x1] LAY D r LAY D' :=
  ct_BI (by decide +kernel) (Nat.le_of_ble_eq_true rfl) (fun _ _ _ _ _ _ _ _ O hr hlk => w_X12_isMixedGood O hr hlk _ _ h)
set_option maxHeartbeats 4000000 in
theorem w_X12_splits0_5_b {G : va_G} {tA : Nat → ClassId} {z : Nat} {E : Ex} {p : Program} {l : Launch} {e : Env} {s : State} {m : MethodId} {args : Array Value} {below : List Frame} {meth : Method} {c : Code} {D' : Dm} (O : Ok G tA z E cX12_splits0 RX12 1 p s m args c) (hr : meth.sig.returnType = none) (hlk : meth.locks = false) {k5 : Dm → Option Dm} (hk5 : ∀  (D : Dm), k5  D = some D' → BV G tA z E p l e (rmC 28 0 0) s m args below meth c LAY D D' 1 5 [(0, .ref (z + 281))] [])  (D : Dm) (h : f_X12_splits0_5_b k5  D = some D') : BV G tA z E p l e (rmC 28 0 0) s m args below meth c LAY D D' 1 5 [(0, .ref (z + 281))] [] := by
  obtain ⟨hx, hb, -, hown, hts, -⟩ := id O
  unfold f_X12_splits0_5_b at h
  intro H locs ls hH hl
  refine lv_aload_n hx hb dX12_splits0_5 rfl (lv_at hl 0 rfl) ?_
  refine lv_aload_n hx hb dX12_splits0_6 rfl (lv_at hl 0 rfl) ?_
  refine h_geti O hH ly_281 rfl fl_X12_437 dX12_splits0_7 ?_
  obtain ⟨y3, D1, hc2, h⟩ := bI_some h
  refine h_callVi (As := [.int (D 281 65)]) (rest := []) O hH (c_X12_isMixedGood hc2) ml_X12_539 ly_281 rfl rfl hl.1 rfl ⟨Nat.le_of_ble_eq_true rfl, Nat.le_of_ble_eq_true rfl⟩ (Nat.le_of_ble_eq_true rfl) dX12_splits0_10 (fun H locs hH => ?_)
  refine lv_aload_n hx hb dX12_splits0_13 rfl (lv_at hl 0 rfl) ?_
  refine lv_aload_n hx hb dX12_splits0_14 rfl (lv_at hl 0 rfl) ?_
  refine h_geti O hH ly_281 rfl fl_X12_437 dX12_splits0_15 ?_
  refine lv_iconst (v := 1) hx hb dX12_splits0_18 (by decide) ?_
  refine lv_iadd hx hb dX12_splits0_19 ?_
  obtain ⟨y6, D4, hc5, h⟩ := bI_some h
  refine h_callVi (As := [.int ((D1 281 65) + 1)]) (rest := [.int y3]) O hH (c_X12_isMixedGood hc5) ml_X12_539 ly_281 rfl rfl hl.1 rfl ⟨Nat.le_of_ble_eq_true rfl, Nat.le_of_ble_eq_true rfl⟩ (Nat.le_of_ble_eq_true rfl) dX12_splits0_20 (fun H locs hH => ?_)
  refine lv_icmp_ne (tgt := 39) hx hb dX12_splits0_23 (by decide) (fun c7 => ?_) (fun c7 => ?_)
  · have h := it_neg h c7
    obtain rfl := ret_v h
    exact h_vret O hr hlk hH dX12_splits0_39
  · have h := it_pos h c7
    refine lv_aload_n hx hb dX12_splits0_26 rfl (lv_at hl 0 rfl) ?_
    refine lv_dup hx hb dX12_splits0_27 rfl ?_
    refine h_geti O hH ly_281 rfl fl_X12_437 dX12_splits0_28 ?_
    refine lv_iconst (v := 1) hx hb dX12_splits0_31 (by decide) ?_
    refine lv_iadd hx hb dX12_splits0_32 ?_
    obtain ⟨D8, e9, h⟩ := lt_some h
    refine h_puti O hH ly_281 rfl fl_X12_437 e9 dX12_splits0_33 (fun H locs hH => ?_)
    refine lv_goto (tgt := 5) hx hb dX12_splits0_36 (by decide) ?_
    exact hk5 _ h _ _ _ hH (lv_sub hl [0] rfl)
set_option maxHeartbeats 4000000 in
theorem w_X12_splits0_5 {G : va_G} {tA : Nat → ClassId} {z : Nat} {E : Ex} {p : Program} {l : Launch} {e : Env} {s : State} {m : MethodId} {args : Array Value} {below : List Frame} {meth : Method} {c : Code} {D' : Dm} (O : Ok G tA z E cX12_splits0 RX12 1 p s m args c) (hr : meth.sig.returnType = none) (hlk : meth.locks = false) : ∀ (n : Nat)  (D : Dm) (h : f_X12_splits0_5 n  D = some D'), BV G tA z E p l e (rmC 28 0 0) s m args below meth c LAY D D' 1 5 [(0, .ref (z + 281))] [] := by
  intro n
  induction n with
  | zero => intro  D h; exact no_some h
  | succ n ih => intro  D h; exact w_X12_splits0_5_b O hr hlk (fun  D h => ih  D h)  D h
set_option maxHeartbeats 4000000 in
theorem w_X12_splits0 {G : va_G} {tA : Nat → ClassId} {z : Nat} {E : Ex} {p : Program} {l : Launch} {e : Env} {s : State} {m : MethodId} {args : Array Value} {below : List Frame} {meth : Method} {c : Code} {D' : Dm} (O : Ok G tA z E cX12_splits0 RX12 1 p s m args c) (hr : meth.sig.returnType = none) (hlk : meth.locks = false)  (D : Dm) (h : f_X12_splits0  D = some D') : BV G tA z E p l e (rmC 28 0 0) s m args below meth c LAY D D' 1 0 [(0, .ref (z + 281))] [] := by
  obtain ⟨hx, hb, -, hown, hts, -⟩ := id O
  unfold f_X12_splits0 at h
  intro H locs ls hH hl
  refine lv_aload_n hx hb dX12_splits0_0 rfl (lv_at hl 0 rfl) ?_
  refine lv_iconst (v := 0) hx hb dX12_splits0_1 (by decide) ?_
  obtain ⟨D1, e2, h⟩ := lt_some h
  refine h_puti O hH ly_281 rfl fl_X12_437 e2 dX12_splits0_2 (fun H locs hH => ?_)
  exact w_X12_splits0_5 O hr hlk FU _ h _ _ _ hH (lv_sub hl [0] rfl)
set_option maxHeartbeats 4000000 in
theorem c_X12_splits0 {l : Launch} {G : va_G} {tA : Nat → ClassId} {z : Nat} {E : Ex}  {D D' : Dm} (h : f_X12_splits0  D = some D') : CtV l yX12_splits0 cX12_splits0 1 G tA z E 28 0 0 [.ref (z + 281)] LAY D LAY D' :=
  ct_BV (by decide +kernel) (Nat.le_of_ble_eq_true rfl) (fun _ _ _ _ _ _ _ _ O hr hlk => w_X12_splits0 O hr hlk  _ h)
set_option maxHeartbeats 4000000 in
theorem w_X12_lays_191 {G : va_G} {tA : Nat → ClassId} {z : Nat} {E : Ex} {p : Program} {l : Launch} {e : Env} {s : State} {m : MethodId} {args : Array Value} {below : List Frame} {meth : Method} {c : Code} {D' : Dm} (O : Ok G tA z E cX12_lays RX12 4 p s m args c) (hr : meth.sig.returnType = none) (hlk : meth.locks = false) (xs0 : Int32) (D : Dm) (h : f_X12_lays_191 xs0 D = some D') : BV G tA z E p l e (rmC 30 0 0) s m args below meth c LAY D D' 4 191 [(0, .ref (z + 281))] [.int xs0, .ref (z + 281)] := by
  obtain ⟨hx, hb, -, hown, hts, -⟩ := id O
  unfold f_X12_lays_191 at h
  intro H locs ls hH hl
  obtain ⟨D1, e2, h⟩ := lt_some h
  refine h_puti O hH ly_281 rfl fl_X12_440 e2 dX12_lays_191 (fun H locs hH => ?_)
  refine lv_aload_n hx hb dX12_lays_194 rfl (lv_at hl 0 rfl) ?_
  refine h_geti O hH ly_281 rfl fl_X12_440 dX12_lays_195 ?_
  refine lv_iconst (v := 3) hx hb dX12_lays_198 (by decide) ?_
  refine lv_icmp_ne (tgt := 206) hx hb dX12_lays_199 (by decide) (fun c3 => ?_) (fun c3 => ?_)
  · have h := it_neg h c3
    obtain rfl := ret_v h
    exact h_vret O hr hlk hH dX12_lays_206
  · have h := it_pos h c3
    refine lv_aload_n hx hb dX12_lays_202 rfl (lv_at hl 0 rfl) ?_
    obtain ⟨D4, hc5, h⟩ := bV_some h
    refine h_callVv (As := []) (rest := []) O hH (c_X12_splits0 hc5) ml_X12_456 ly_281 rfl rfl hl.1 rfl ⟨Nat.le_of_ble_eq_true rfl, Nat.le_of_ble_eq_true rfl⟩ (Nat.le_of_ble_eq_true rfl) dX12_lays_203 (fun H locs hH => ?_)
    obtain rfl := ret_v h
    exact h_vret O hr hlk hH dX12_lays_206
set_option maxHeartbeats 4000000 in
theorem w_X12_lays_127_b {G : va_G} {tA : Nat → ClassId} {z : Nat} {E : Ex} {p : Program} {l : Launch} {e : Env} {s : State} {m : MethodId} {args : Array Value} {below : List Frame} {meth : Method} {c : Code} {D' : Dm} (O : Ok G tA z E cX12_lays RX12 4 p s m args c) (hr : meth.sig.returnType = none) (hlk : meth.locks = false) {k105 : Int32 → Dm → Option Dm} (hk105 : ∀ (x1 : Int32) (D : Dm), k105 x1 D = some D' → BV G tA z E p l e (rmC 30 0 0) s m args below meth c LAY D D' 4 105 [(0, .ref (z + 281)), (1, .int x1)] []) {k115 : Int32 → Int32 → Dm → Option Dm} (hk115 : ∀ (x1 : Int32) (x2 : Int32) (D : Dm), k115 x1 x2 D = some D' → BV G tA z E p l e (rmC 30 0 0) s m args below meth c LAY D D' 4 115 [(0, .ref (z + 281)), (1, .int x1), (2, .int x2)] []) {k127 : Int32 → Int32 → Int32 → Dm → Option Dm} (hk127 : ∀ (x1 : Int32) (x2 : Int32) (x3 : Int32) (D : Dm), k127 x1 x2 x3 D = some D' → BV G tA z E p l e (rmC 30 0 0) s m args below meth c LAY D D' 4 127 [(0, .ref (z + 281)), (1, .int x1), (2, .int x2), (3, .int x3)] []) (x1 : Int32) (x2 : Int32) (x3 : Int32) (D : Dm) (h : f_X12_lays_127_b k105 k115 k127 x1 x2 x3 D = some D') : BV G tA z E p l e (rmC 30 0 0) s m args below meth c LAY D D' 4 127 [(0, .ref (z + 281)), (1, .int x1), (2, .int x2), (3, .int x3)] [] := by
  obtain ⟨hx, hb, -, hown, hts, -⟩ := id O
  unfold f_X12_lays_127_b at h
  intro H locs ls hH hl
  refine lv_iload_n hx hb dX12_lays_127 rfl (lv_at hl 3 rfl) ?_
  refine lv_aload_n hx hb dX12_lays_128 rfl (lv_at hl 0 rfl) ?_
  refine lv_iload_n hx hb dX12_lays_129 rfl (lv_at hl 1 rfl) ?_
  obtain ⟨y3, D1, hc2, h⟩ := bI_some h
  refine h_callVi (As := [.int x1]) (rest := [.int x3]) O hH (c_X12_hasShort hc2) ml_X12_422 ly_281 rfl rfl hl.1 rfl ⟨Nat.le_of_ble_eq_true rfl, Nat.le_of_ble_eq_true rfl⟩ (Nat.le_of_ble_eq_true rfl) dX12_lays_130 (fun H locs hH => ?_)
  obtain ⟨y6, D4, hc5, h⟩ := bI_some h
  refine h_callSi (As := [.int y3]) (rest := [.int x3]) O hH (c_X12_bits hc5) ml_X12_410 rfl hl.1 rfl ⟨Nat.le_of_ble_eq_true rfl, Nat.le_of_ble_eq_true rfl⟩ (Nat.le_of_ble_eq_true rfl) dX12_lays_133 (fun H locs hH => ?_)
  refine lv_icmp_gt (tgt := 161) hx hb dX12_lays_136 (by decide) (fun c7 => ?_) (fun c7 => ?_)
  · have h := it_pos h c7
    obtain ⟨y8, e9, h⟩ := lt_some h
    refine lv_iinc (v := y8) (lv' := [(2, .int y8), (0, .ref (z + 281)), (1, .int x1), (3, .int x3)]) hx hb dX12_lays_161 hl (k := 2) rfl (by rw [e9]; rfl) (by decide) rfl (fun ls hl => ?_)
    refine lv_goto (tgt := 115) hx hb dX12_lays_164 (by decide) ?_
    exact hk115 _ _ _ h _ _ _ hH (lv_sub hl [1, 2, 0] rfl)
  · have h := it_neg h c7
    refine lv_aload_n hx hb dX12_lays_139 rfl (lv_at hl 0 rfl) ?_
    refine lv_iload_n hx hb dX12_lays_140 rfl (lv_at hl 1 rfl) ?_
    refine lv_iload_n hx hb dX12_lays_141 rfl (lv_at hl 2 rfl) ?_
    refine lv_aload_n hx hb dX12_lays_142 rfl (lv_at hl 0 rfl) ?_
    refine lv_iload_n hx hb dX12_lays_143 rfl (lv_at hl 1 rfl) ?_
    refine lv_iload_n hx hb dX12_lays_144 rfl (lv_at hl 3 rfl) ?_
    obtain ⟨y12, D10, hc11, h⟩ := bI_some h
    refine h_callVi (As := [.int x1, .int x3]) (rest := [.int x2, .int x1, .ref (z + 281)]) O hH (c_X12_longName hc11) ml_X12_443 ly_281 rfl rfl hl.1 rfl ⟨Nat.le_of_ble_eq_true rfl, Nat.le_of_ble_eq_true rfl⟩ (Nat.le_of_ble_eq_true rfl) dX12_lays_145 (fun H locs hH => ?_)
    obtain ⟨y15, D13, hc14, h⟩ := bI_some h
    refine h_callVi (As := [.int x1, .int x2, .int y12]) (rest := []) O hH (c_X12_goesOn hc14) ml_X12_450 ly_281 rfl rfl hl.1 rfl ⟨Nat.le_of_ble_eq_true rfl, Nat.le_of_ble_eq_true rfl⟩ (Nat.le_of_ble_eq_true rfl) dX12_lays_148 (fun H locs hH => ?_)
    refine lv_if_ne (tgt := 155) hx hb dX12_lays_151 (by decide) (fun c16 => ?_) (fun c16 => ?_)
    · have h := it_neg h c16
      obtain ⟨y17, e18, h⟩ := lt_some h
      refine lv_iinc (v := y17) (lv' := [(3, .int y17), (0, .ref (z + 281)), (1, .int x1), (2, .int x2)]) hx hb dX12_lays_155 hl (k := 3) rfl (by rw [e18]; rfl) (by decide) rfl (fun ls hl => ?_)
      refine lv_goto (tgt := 127) hx hb dX12_lays_158 (by decide) ?_
      exact hk127 _ _ _ _ h _ _ _ hH (lv_sub hl [1, 2, 3, 0] rfl)
    · have h := it_pos h c16
      obtain rfl := ret_v h
      exact h_vret O hr hlk hH dX12_lays_154
set_option maxHeartbeats 4000000 in
theorem w_X12_lays_127 {G : va_G} {tA : Nat → ClassId} {z : Nat} {E : Ex} {p : Program} {l : Launch} {e : Env} {s : State} {m : MethodId} {args : Array Value} {below : List Frame} {meth : Method} {c : Code} {D' : Dm} (O : Ok G tA z E cX12_lays RX12 4 p s m args c) (hr : meth.sig.returnType = none) (hlk : meth.locks = false) {k105 : Int32 → Dm → Option Dm} (hk105 : ∀ (x1 : Int32) (D : Dm), k105 x1 D = some D' → BV G tA z E p l e (rmC 30 0 0) s m args below meth c LAY D D' 4 105 [(0, .ref (z + 281)), (1, .int x1)] []) {k115 : Int32 → Int32 → Dm → Option Dm} (hk115 : ∀ (x1 : Int32) (x2 : Int32) (D : Dm), k115 x1 x2 D = some D' → BV G tA z E p l e (rmC 30 0 0) s m args below meth c LAY D D' 4 115 [(0, .ref (z + 281)), (1, .int x1), (2, .int x2)] []) : ∀ (n : Nat) (x1 : Int32) (x2 : Int32) (x3 : Int32) (D : Dm) (h : f_X12_lays_127 k105 k115 n x1 x2 x3 D = some D'), BV G tA z E p l e (rmC 30 0 0) s m args below meth c LAY D D' 4 127 [(0, .ref (z + 281)), (1, .int x1), (2, .int x2), (3, .int x3)] [] := by
  intro n
  induction n with
  | zero => intro x1 x2 x3 D h; exact no_some h
  | succ n ih => intro x1 x2 x3 D h; exact w_X12_lays_127_b O hr hlk hk105 hk115 (fun x1 x2 x3 D h => ih x1 x2 x3 D h) x1 x2 x3 D h
set_option maxHeartbeats 4000000 in
theorem w_X12_lays_115_b {G : va_G} {tA : Nat → ClassId} {z : Nat} {E : Ex} {p : Program} {l : Launch} {e : Env} {s : State} {m : MethodId} {args : Array Value} {below : List Frame} {meth : Method} {c : Code} {D' : Dm} (O : Ok G tA z E cX12_lays RX12 4 p s m args c) (hr : meth.sig.returnType = none) (hlk : meth.locks = false) {k105 : Int32 → Dm → Option Dm} (hk105 : ∀ (x1 : Int32) (D : Dm), k105 x1 D = some D' → BV G tA z E p l e (rmC 30 0 0) s m args below meth c LAY D D' 4 105 [(0, .ref (z + 281)), (1, .int x1)] []) {k115 : Int32 → Int32 → Dm → Option Dm} (hk115 : ∀ (x1 : Int32) (x2 : Int32) (D : Dm), k115 x1 x2 D = some D' → BV G tA z E p l e (rmC 30 0 0) s m args below meth c LAY D D' 4 115 [(0, .ref (z + 281)), (1, .int x1), (2, .int x2)] []) (x1 : Int32) (x2 : Int32) (D : Dm) (h : f_X12_lays_115_b k105 k115 x1 x2 D = some D') : BV G tA z E p l e (rmC 30 0 0) s m args below meth c LAY D D' 4 115 [(0, .ref (z + 281)), (1, .int x1), (2, .int x2)] [] := by
  obtain ⟨hx, hb, -, hown, hts, -⟩ := id O
  unfold f_X12_lays_115_b at h
  intro H locs ls hH hl
  refine lv_iload_n hx hb dX12_lays_115 rfl (lv_at hl 2 rfl) ?_
  refine lv_aload_n hx hb dX12_lays_116 rfl (lv_at hl 0 rfl) ?_
  refine lv_iconst (v := 0) hx hb dX12_lays_117 (by decide) ?_
  refine lv_iconst (v := 2) hx hb dX12_lays_118 (by decide) ?_
  obtain ⟨y3, D1, hc2, h⟩ := bI_some h
  refine h_callVi (As := [.int 0, .int 2]) (rest := [.int x2]) O hH (c_X12_its hc2) ml_X12_155 ly_281 rfl rfl hl.1 rfl ⟨Nat.le_of_ble_eq_true rfl, Nat.le_of_ble_eq_true rfl⟩ (Nat.le_of_ble_eq_true rfl) dX12_lays_119 (fun H locs hH => ?_)
  refine lv_icmp_ge (tgt := 167) hx hb dX12_lays_122 (by decide) (fun c4 => ?_) (fun c4 => ?_)
  · have h := it_pos h c4
    obtain ⟨y5, e6, h⟩ := lt_some h
    refine lv_iinc (v := y5) (lv' := [(1, .int y5), (0, .ref (z + 281)), (2, .int x2)]) hx hb dX12_lays_167 hl (k := 1) rfl (by rw [e6]; rfl) (by decide) rfl (fun ls hl => ?_)
    refine lv_goto (tgt := 105) hx hb dX12_lays_170 (by decide) ?_
    exact hk105 _ _ h _ _ _ hH (lv_sub hl [1, 0] rfl)
  · have h := it_neg h c4
    refine lv_iconst (v := 0) hx hb dX12_lays_125 (by decide) ?_
    refine lv_istore_n (lv' := [(3, .int 0), (0, .ref (z + 281)), (1, .int x1), (2, .int x2)]) hx hb dX12_lays_126 rfl hl (by decide) rfl (fun ls hl => ?_)
    exact w_X12_lays_127 O hr hlk hk105 hk115 FU _ _ _ _ h _ _ _ hH (lv_sub hl [1, 2, 3, 0] rfl)
set_option maxHeartbeats 4000000 in
theorem w_X12_lays_115 {G : va_G} {tA : Nat → ClassId} {z : Nat} {E : Ex} {p : Program} {l : Launch} {e : Env} {s : State} {m : MethodId} {args : Array Value} {below : List Frame} {meth : Method} {c : Code} {D' : Dm} (O : Ok G tA z E cX12_lays RX12 4 p s m args c) (hr : meth.sig.returnType = none) (hlk : meth.locks = false) {k105 : Int32 → Dm → Option Dm} (hk105 : ∀ (x1 : Int32) (D : Dm), k105 x1 D = some D' → BV G tA z E p l e (rmC 30 0 0) s m args below meth c LAY D D' 4 105 [(0, .ref (z + 281)), (1, .int x1)] []) : ∀ (n : Nat) (x1 : Int32) (x2 : Int32) (D : Dm) (h : f_X12_lays_115 k105 n x1 x2 D = some D'), BV G tA z E p l e (rmC 30 0 0) s m args below meth c LAY D D' 4 115 [(0, .ref (z + 281)), (1, .int x1), (2, .int x2)] [] := by
  intro n
  induction n with
  | zero => intro x1 x2 D h; exact no_some h
  | succ n ih => intro x1 x2 D h; exact w_X12_lays_115_b O hr hlk hk105 (fun x1 x2 D h => ih x1 x2 D h) x1 x2 D h
set_option maxHeartbeats 4000000 in
theorem w_X12_lays_105_b {G : va_G} {tA : Nat → ClassId} {z : Nat} {E : Ex} {p : Program} {l : Launch} {e : Env} {s : State} {m : MethodId} {args : Array Value} {below : List Frame} {meth : Method} {c : Code} {D' : Dm} (O : Ok G tA z E cX12_lays RX12 4 p s m args c) (hr : meth.sig.returnType = none) (hlk : meth.locks = false) {k105 : Int32 → Dm → Option Dm} (hk105 : ∀ (x1 : Int32) (D : Dm), k105 x1 D = some D' → BV G tA z E p l e (rmC 30 0 0) s m args below meth c LAY D D' 4 105 [(0, .ref (z + 281)), (1, .int x1)] []) (x1 : Int32) (D : Dm) (h : f_X12_lays_105_b k105 x1 D = some D') : BV G tA z E p l e (rmC 30 0 0) s m args below meth c LAY D D' 4 105 [(0, .ref (z + 281)), (1, .int x1)] [] := by
  obtain ⟨hx, hb, -, hown, hts, -⟩ := id O
  unfold f_X12_lays_105_b at h
  intro H locs ls hH hl
  refine lv_iload_n hx hb dX12_lays_105 rfl (lv_at hl 1 rfl) ?_
  refine lv_aload_n hx hb dX12_lays_106 rfl (lv_at hl 0 rfl) ?_
  refine h_geti O hH ly_281 rfl fl_X12_310 dX12_lays_107 ?_
  refine lv_icmp_ge (tgt := 173) hx hb dX12_lays_110 (by decide) (fun c1 => ?_) (fun c1 => ?_)
  · have h := it_pos h c1
    refine lv_aload_n hx hb dX12_lays_173 rfl (lv_at hl 0 rfl) ?_
    obtain ⟨D2, hc3, h⟩ := bV_some h
    refine h_callVv (As := []) (rest := []) O hH (c_X12_findsWrong hc3) ml_X12_453 ly_281 rfl rfl hl.1 rfl ⟨Nat.le_of_ble_eq_true rfl, Nat.le_of_ble_eq_true rfl⟩ (Nat.le_of_ble_eq_true rfl) dX12_lays_174 (fun H locs hH => ?_)
    refine lv_aload_n hx hb dX12_lays_177 rfl (lv_at hl 0 rfl) ?_
    refine lv_aload_n hx hb dX12_lays_178 rfl (lv_at hl 0 rfl) ?_
    refine h_geti O hH ly_281 rfl fl_X12_434 dX12_lays_179 ?_
    refine lv_iconst (v := (-1)) hx hb dX12_lays_182 (by decide) ?_
    refine lv_icmp_ne (tgt := 190) hx hb dX12_lays_183 (by decide) (fun c4 => ?_) (fun c4 => ?_)
    · have h := it_neg h c4
      refine lv_iconst (v := 3) hx hb dX12_lays_190 (by decide) ?_
      exact w_X12_lays_191 O hr hlk _ _ h _ _ _ hH (lv_sub hl [0] rfl)
    · have h := it_pos h c4
      refine lv_iconst (v := 0) hx hb dX12_lays_186 (by decide) ?_
      refine lv_goto (tgt := 191) hx hb dX12_lays_187 (by decide) ?_
      exact w_X12_lays_191 O hr hlk _ _ h _ _ _ hH (lv_sub hl [0] rfl)
  · have h := it_neg h c1
    refine lv_iconst (v := 0) hx hb dX12_lays_113 (by decide) ?_
    refine lv_istore_n (lv' := [(2, .int 0), (0, .ref (z + 281)), (1, .int x1)]) hx hb dX12_lays_114 rfl hl (by decide) rfl (fun ls hl => ?_)
    exact w_X12_lays_115 O hr hlk hk105 FU _ _ _ h _ _ _ hH (lv_sub hl [1, 2, 0] rfl)
set_option maxHeartbeats 4000000 in
theorem w_X12_lays_105 {G : va_G} {tA : Nat → ClassId} {z : Nat} {E : Ex} {p : Program} {l : Launch} {e : Env} {s : State} {m : MethodId} {args : Array Value} {below : List Frame} {meth : Method} {c : Code} {D' : Dm} (O : Ok G tA z E cX12_lays RX12 4 p s m args c) (hr : meth.sig.returnType = none) (hlk : meth.locks = false) : ∀ (n : Nat) (x1 : Int32) (D : Dm) (h : f_X12_lays_105 n x1 D = some D'), BV G tA z E p l e (rmC 30 0 0) s m args below meth c LAY D D' 4 105 [(0, .ref (z + 281)), (1, .int x1)] [] := by
  intro n
  induction n with
  | zero => intro x1 D h; exact no_some h
  | succ n ih => intro x1 D h; exact w_X12_lays_105_b O hr hlk (fun x1 D h => ih x1 D h) x1 D h
set_option maxHeartbeats 4000000 in
theorem w_X12_lays_52_b {G : va_G} {tA : Nat → ClassId} {z : Nat} {E : Ex} {p : Program} {l : Launch} {e : Env} {s : State} {m : MethodId} {args : Array Value} {below : List Frame} {meth : Method} {c : Code} {D' : Dm} (O : Ok G tA z E cX12_lays RX12 4 p s m args c) (hr : meth.sig.returnType = none) (hlk : meth.locks = false) {k30 : Int32 → Dm → Option Dm} (hk30 : ∀ (x1 : Int32) (D : Dm), k30 x1 D = some D' → BV G tA z E p l e (rmC 30 0 0) s m args below meth c LAY D D' 4 30 [(0, .ref (z + 281)), (1, .int x1)] []) {k40 : Int32 → Int32 → Dm → Option Dm} (hk40 : ∀ (x1 : Int32) (x2 : Int32) (D : Dm), k40 x1 x2 D = some D' → BV G tA z E p l e (rmC 30 0 0) s m args below meth c LAY D D' 4 40 [(0, .ref (z + 281)), (1, .int x1), (2, .int x2)] []) {k52 : Int32 → Int32 → Int32 → Dm → Option Dm} (hk52 : ∀ (x1 : Int32) (x2 : Int32) (x3 : Int32) (D : Dm), k52 x1 x2 x3 D = some D' → BV G tA z E p l e (rmC 30 0 0) s m args below meth c LAY D D' 4 52 [(0, .ref (z + 281)), (1, .int x1), (2, .int x2), (3, .int x3)] []) (x1 : Int32) (x2 : Int32) (x3 : Int32) (D : Dm) (h : f_X12_lays_52_b k30 k40 k52 x1 x2 x3 D = some D') : BV G tA z E p l e (rmC 30 0 0) s m args below meth c LAY D D' 4 52 [(0, .ref (z + 281)), (1, .int x1), (2, .int x2), (3, .int x3)] [] := by
  obtain ⟨hx, hb, -, hown, hts, -⟩ := id O
  unfold f_X12_lays_52_b at h
  intro H locs ls hH hl
  refine lv_iload_n hx hb dX12_lays_52 rfl (lv_at hl 3 rfl) ?_
  refine lv_aload_n hx hb dX12_lays_53 rfl (lv_at hl 0 rfl) ?_
  refine lv_iload_n hx hb dX12_lays_54 rfl (lv_at hl 1 rfl) ?_
  obtain ⟨y3, D1, hc2, h⟩ := bI_some h
  refine h_callVi (As := [.int x1]) (rest := [.int x3]) O hH (c_X12_hasShort hc2) ml_X12_422 ly_281 rfl rfl hl.1 rfl ⟨Nat.le_of_ble_eq_true rfl, Nat.le_of_ble_eq_true rfl⟩ (Nat.le_of_ble_eq_true rfl) dX12_lays_55 (fun H locs hH => ?_)
  obtain ⟨y6, D4, hc5, h⟩ := bI_some h
  refine h_callSi (As := [.int y3]) (rest := [.int x3]) O hH (c_X12_bits hc5) ml_X12_410 rfl hl.1 rfl ⟨Nat.le_of_ble_eq_true rfl, Nat.le_of_ble_eq_true rfl⟩ (Nat.le_of_ble_eq_true rfl) dX12_lays_58 (fun H locs hH => ?_)
  refine lv_icmp_gt (tgt := 86) hx hb dX12_lays_61 (by decide) (fun c7 => ?_) (fun c7 => ?_)
  · have h := it_pos h c7
    obtain ⟨y8, e9, h⟩ := lt_some h
    refine lv_iinc (v := y8) (lv' := [(2, .int y8), (0, .ref (z + 281)), (1, .int x1), (3, .int x3)]) hx hb dX12_lays_86 hl (k := 2) rfl (by rw [e9]; rfl) (by decide) rfl (fun ls hl => ?_)
    refine lv_goto (tgt := 40) hx hb dX12_lays_89 (by decide) ?_
    exact hk40 _ _ _ h _ _ _ hH (lv_sub hl [1, 2, 0] rfl)
  · have h := it_neg h c7
    refine lv_aload_n hx hb dX12_lays_64 rfl (lv_at hl 0 rfl) ?_
    refine lv_iload_n hx hb dX12_lays_65 rfl (lv_at hl 1 rfl) ?_
    refine lv_iload_n hx hb dX12_lays_66 rfl (lv_at hl 2 rfl) ?_
    refine lv_aload_n hx hb dX12_lays_67 rfl (lv_at hl 0 rfl) ?_
    refine lv_iload_n hx hb dX12_lays_68 rfl (lv_at hl 1 rfl) ?_
    refine lv_iload_n hx hb dX12_lays_69 rfl (lv_at hl 3 rfl) ?_
    obtain ⟨y12, D10, hc11, h⟩ := bI_some h
    refine h_callVi (As := [.int x1, .int x3]) (rest := [.int x2, .int x1, .ref (z + 281)]) O hH (c_X12_longName hc11) ml_X12_443 ly_281 rfl rfl hl.1 rfl ⟨Nat.le_of_ble_eq_true rfl, Nat.le_of_ble_eq_true rfl⟩ (Nat.le_of_ble_eq_true rfl) dX12_lays_70 (fun H locs hH => ?_)
    obtain ⟨y15, D13, hc14, h⟩ := bI_some h
    refine h_callVi (As := [.int x1, .int x2, .int y12]) (rest := []) O hH (c_X12_forgets hc14) ml_X12_446 ly_281 rfl rfl hl.1 rfl ⟨Nat.le_of_ble_eq_true rfl, Nat.le_of_ble_eq_true rfl⟩ (Nat.le_of_ble_eq_true rfl) dX12_lays_73 (fun H locs hH => ?_)
    refine lv_if_eq (tgt := 80) hx hb dX12_lays_76 (by decide) (fun c16 => ?_) (fun c16 => ?_)
    · have h := it_pos h c16
      obtain ⟨y17, e18, h⟩ := lt_some h
      refine lv_iinc (v := y17) (lv' := [(3, .int y17), (0, .ref (z + 281)), (1, .int x1), (2, .int x2)]) hx hb dX12_lays_80 hl (k := 3) rfl (by rw [e18]; rfl) (by decide) rfl (fun ls hl => ?_)
      refine lv_goto (tgt := 52) hx hb dX12_lays_83 (by decide) ?_
      exact hk52 _ _ _ _ h _ _ _ hH (lv_sub hl [1, 2, 3, 0] rfl)
    · have h := it_neg h c16
      obtain rfl := ret_v h
      exact h_vret O hr hlk hH dX12_lays_79
set_option maxHeartbeats 4000000 in
theorem w_X12_lays_52 {G : va_G} {tA : Nat → ClassId} {z : Nat} {E : Ex} {p : Program} {l : Launch} {e : Env} {s : State} {m : MethodId} {args : Array Value} {below : List Frame} {meth : Method} {c : Code} {D' : Dm} (O : Ok G tA z E cX12_lays RX12 4 p s m args c) (hr : meth.sig.returnType = none) (hlk : meth.locks = false) {k30 : Int32 → Dm → Option Dm} (hk30 : ∀ (x1 : Int32) (D : Dm), k30 x1 D = some D' → BV G tA z E p l e (rmC 30 0 0) s m args below meth c LAY D D' 4 30 [(0, .ref (z + 281)), (1, .int x1)] []) {k40 : Int32 → Int32 → Dm → Option Dm} (hk40 : ∀ (x1 : Int32) (x2 : Int32) (D : Dm), k40 x1 x2 D = some D' → BV G tA z E p l e (rmC 30 0 0) s m args below meth c LAY D D' 4 40 [(0, .ref (z + 281)), (1, .int x1), (2, .int x2)] []) : ∀ (n : Nat) (x1 : Int32) (x2 : Int32) (x3 : Int32) (D : Dm) (h : f_X12_lays_52 k30 k40 n x1 x2 x3 D = some D'), BV G tA z E p l e (rmC 30 0 0) s m args below meth c LAY D D' 4 52 [(0, .ref (z + 281)), (1, .int x1), (2, .int x2), (3, .int x3)] [] := by
  intro n
  induction n with
  | zero => intro x1 x2 x3 D h; exact no_some h
  | succ n ih => intro x1 x2 x3 D h; exact w_X12_lays_52_b O hr hlk hk30 hk40 (fun x1 x2 x3 D h => ih x1 x2 x3 D h) x1 x2 x3 D h
set_option maxHeartbeats 4000000 in
theorem w_X12_lays_40_b {G : va_G} {tA : Nat → ClassId} {z : Nat} {E : Ex} {p : Program} {l : Launch} {e : Env} {s : State} {m : MethodId} {args : Array Value} {below : List Frame} {meth : Method} {c : Code} {D' : Dm} (O : Ok G tA z E cX12_lays RX12 4 p s m args c) (hr : meth.sig.returnType = none) (hlk : meth.locks = false) {k30 : Int32 → Dm → Option Dm} (hk30 : ∀ (x1 : Int32) (D : Dm), k30 x1 D = some D' → BV G tA z E p l e (rmC 30 0 0) s m args below meth c LAY D D' 4 30 [(0, .ref (z + 281)), (1, .int x1)] []) {k40 : Int32 → Int32 → Dm → Option Dm} (hk40 : ∀ (x1 : Int32) (x2 : Int32) (D : Dm), k40 x1 x2 D = some D' → BV G tA z E p l e (rmC 30 0 0) s m args below meth c LAY D D' 4 40 [(0, .ref (z + 281)), (1, .int x1), (2, .int x2)] []) (x1 : Int32) (x2 : Int32) (D : Dm) (h : f_X12_lays_40_b k30 k40 x1 x2 D = some D') : BV G tA z E p l e (rmC 30 0 0) s m args below meth c LAY D D' 4 40 [(0, .ref (z + 281)), (1, .int x1), (2, .int x2)] [] := by
  obtain ⟨hx, hb, -, hown, hts, -⟩ := id O
  unfold f_X12_lays_40_b at h
  intro H locs ls hH hl
  refine lv_iload_n hx hb dX12_lays_40 rfl (lv_at hl 2 rfl) ?_
  refine lv_aload_n hx hb dX12_lays_41 rfl (lv_at hl 0 rfl) ?_
  refine lv_iconst (v := 0) hx hb dX12_lays_42 (by decide) ?_
  refine lv_iconst (v := 2) hx hb dX12_lays_43 (by decide) ?_
  obtain ⟨y3, D1, hc2, h⟩ := bI_some h
  refine h_callVi (As := [.int 0, .int 2]) (rest := [.int x2]) O hH (c_X12_its hc2) ml_X12_155 ly_281 rfl rfl hl.1 rfl ⟨Nat.le_of_ble_eq_true rfl, Nat.le_of_ble_eq_true rfl⟩ (Nat.le_of_ble_eq_true rfl) dX12_lays_44 (fun H locs hH => ?_)
  refine lv_icmp_ge (tgt := 92) hx hb dX12_lays_47 (by decide) (fun c4 => ?_) (fun c4 => ?_)
  · have h := it_pos h c4
    obtain ⟨y5, e6, h⟩ := lt_some h
    refine lv_iinc (v := y5) (lv' := [(1, .int y5), (0, .ref (z + 281)), (2, .int x2)]) hx hb dX12_lays_92 hl (k := 1) rfl (by rw [e6]; rfl) (by decide) rfl (fun ls hl => ?_)
    refine lv_goto (tgt := 30) hx hb dX12_lays_95 (by decide) ?_
    exact hk30 _ _ h _ _ _ hH (lv_sub hl [1, 0] rfl)
  · have h := it_neg h c4
    refine lv_iconst (v := 0) hx hb dX12_lays_50 (by decide) ?_
    refine lv_istore_n (lv' := [(3, .int 0), (0, .ref (z + 281)), (1, .int x1), (2, .int x2)]) hx hb dX12_lays_51 rfl hl (by decide) rfl (fun ls hl => ?_)
    exact w_X12_lays_52 O hr hlk hk30 hk40 FU _ _ _ _ h _ _ _ hH (lv_sub hl [1, 2, 3, 0] rfl)
set_option maxHeartbeats 4000000 in
theorem w_X12_lays_40 {G : va_G} {tA : Nat → ClassId} {z : Nat} {E : Ex} {p : Program} {l : Launch} {e : Env} {s : State} {m : MethodId} {args : Array Value} {below : List Frame} {meth : Method} {c : Code} {D' : Dm} (O : Ok G tA z E cX12_lays RX12 4 p s m args c) (hr : meth.sig.returnType = none) (hlk : meth.locks = false) {k30 : Int32 → Dm → Option Dm} (hk30 : ∀ (x1 : Int32) (D : Dm), k30 x1 D = some D' → BV G tA z E p l e (rmC 30 0 0) s m args below meth c LAY D D' 4 30 [(0, .ref (z + 281)), (1, .int x1)] []) : ∀ (n : Nat) (x1 : Int32) (x2 : Int32) (D : Dm) (h : f_X12_lays_40 k30 n x1 x2 D = some D'), BV G tA z E p l e (rmC 30 0 0) s m args below meth c LAY D D' 4 40 [(0, .ref (z + 281)), (1, .int x1), (2, .int x2)] [] := by
  intro n
  induction n with
  | zero => intro x1 x2 D h; exact no_some h
  | succ n ih => intro x1 x2 D h; exact w_X12_lays_40_b O hr hlk hk30 (fun x1 x2 D h => ih x1 x2 D h) x1 x2 D h
set_option maxHeartbeats 4000000 in
theorem w_X12_lays_30_b {G : va_G} {tA : Nat → ClassId} {z : Nat} {E : Ex} {p : Program} {l : Launch} {e : Env} {s : State} {m : MethodId} {args : Array Value} {below : List Frame} {meth : Method} {c : Code} {D' : Dm} (O : Ok G tA z E cX12_lays RX12 4 p s m args c) (hr : meth.sig.returnType = none) (hlk : meth.locks = false) {k30 : Int32 → Dm → Option Dm} (hk30 : ∀ (x1 : Int32) (D : Dm), k30 x1 D = some D' → BV G tA z E p l e (rmC 30 0 0) s m args below meth c LAY D D' 4 30 [(0, .ref (z + 281)), (1, .int x1)] []) (x1 : Int32) (D : Dm) (h : f_X12_lays_30_b k30 x1 D = some D') : BV G tA z E p l e (rmC 30 0 0) s m args below meth c LAY D D' 4 30 [(0, .ref (z + 281)), (1, .int x1)] [] := by
  obtain ⟨hx, hb, -, hown, hts, -⟩ := id O
  unfold f_X12_lays_30_b at h
  intro H locs ls hH hl
  refine lv_iload_n hx hb dX12_lays_30 rfl (lv_at hl 1 rfl) ?_
  refine lv_aload_n hx hb dX12_lays_31 rfl (lv_at hl 0 rfl) ?_
  refine h_geti O hH ly_281 rfl fl_X12_310 dX12_lays_32 ?_
  refine lv_icmp_ge (tgt := 98) hx hb dX12_lays_35 (by decide) (fun c1 => ?_) (fun c1 => ?_)
  · have h := it_pos h c1
    refine lv_aload_n hx hb dX12_lays_98 rfl (lv_at hl 0 rfl) ?_
    refine lv_iconst (v := 2) hx hb dX12_lays_99 (by decide) ?_
    obtain ⟨D2, e3, h⟩ := lt_some h
    refine h_puti O hH ly_281 rfl fl_X12_440 e3 dX12_lays_100 (fun H locs hH => ?_)
    refine lv_iconst (v := 0) hx hb dX12_lays_103 (by decide) ?_
    refine lv_istore_n (lv' := [(1, .int 0), (0, .ref (z + 281))]) hx hb dX12_lays_104 rfl hl (by decide) rfl (fun ls hl => ?_)
    exact w_X12_lays_105 O hr hlk FU _ _ h _ _ _ hH (lv_sub hl [1, 0] rfl)
  · have h := it_neg h c1
    refine lv_iconst (v := 0) hx hb dX12_lays_38 (by decide) ?_
    refine lv_istore_n (lv' := [(2, .int 0), (0, .ref (z + 281)), (1, .int x1)]) hx hb dX12_lays_39 rfl hl (by decide) rfl (fun ls hl => ?_)
    exact w_X12_lays_40 O hr hlk hk30 FU _ _ _ h _ _ _ hH (lv_sub hl [1, 2, 0] rfl)
set_option maxHeartbeats 4000000 in
theorem w_X12_lays_30 {G : va_G} {tA : Nat → ClassId} {z : Nat} {E : Ex} {p : Program} {l : Launch} {e : Env} {s : State} {m : MethodId} {args : Array Value} {below : List Frame} {meth : Method} {c : Code} {D' : Dm} (O : Ok G tA z E cX12_lays RX12 4 p s m args c) (hr : meth.sig.returnType = none) (hlk : meth.locks = false) : ∀ (n : Nat) (x1 : Int32) (D : Dm) (h : f_X12_lays_30 n x1 D = some D'), BV G tA z E p l e (rmC 30 0 0) s m args below meth c LAY D D' 4 30 [(0, .ref (z + 281)), (1, .int x1)] [] := by
  intro n
  induction n with
  | zero => intro x1 D h; exact no_some h
  | succ n ih => intro x1 D h; exact w_X12_lays_30_b O hr hlk (fun x1 D h => ih x1 D h) x1 D h
set_option maxHeartbeats 4000000 in
theorem w_X12_lays {G : va_G} {tA : Nat → ClassId} {z : Nat} {E : Ex} {p : Program} {l : Launch} {e : Env} {s : State} {m : MethodId} {args : Array Value} {below : List Frame} {meth : Method} {c : Code} {D' : Dm} (O : Ok G tA z E cX12_lays RX12 4 p s m args c) (hr : meth.sig.returnType = none) (hlk : meth.locks = false)  (D : Dm) (h : f_X12_lays  D = some D') : BV G tA z E p l e (rmC 30 0 0) s m args below meth c LAY D D' 4 0 [(0, .ref (z + 281))] [] := by
  obtain ⟨hx, hb, -, hown, hts, -⟩ := id O
  unfold f_X12_lays at h
  intro H locs ls hH hl
  refine lv_aload_n hx hb dX12_lays_0 rfl (lv_at hl 0 rfl) ?_
  refine h_geti O hH ly_281 rfl fl_X12_316 dX12_lays_1 ?_
  refine lv_if_eq (tgt := 8) hx hb dX12_lays_4 (by decide) (fun c1 => ?_) (fun c1 => ?_)
  · have h := it_pos h c1
    refine lv_aload_n hx hb dX12_lays_8 rfl (lv_at hl 0 rfl) ?_
    refine lv_iconst (v := 1) hx hb dX12_lays_9 (by decide) ?_
    obtain ⟨D2, e3, h⟩ := lt_some h
    refine h_putz O hH ly_281 rfl fl_X12_316 zb_1 e3 dX12_lays_10 (fun H locs hH => ?_)
    refine lv_aload_n hx hb dX12_lays_13 rfl (lv_at hl 0 rfl) ?_
    refine lv_iconst (v := (-1)) hx hb dX12_lays_14 (by decide) ?_
    obtain ⟨D4, e5, h⟩ := lt_some h
    refine h_puti O hH ly_281 rfl fl_X12_434 e5 dX12_lays_15 (fun H locs hH => ?_)
    refine lv_aload_n hx hb dX12_lays_18 rfl (lv_at hl 0 rfl) ?_
    refine lv_iconst (v := (-1)) hx hb dX12_lays_19 (by decide) ?_
    obtain ⟨D6, e7, h⟩ := lt_some h
    refine h_puti O hH ly_281 rfl fl_X12_437 e7 dX12_lays_20 (fun H locs hH => ?_)
    refine lv_aload_n hx hb dX12_lays_23 rfl (lv_at hl 0 rfl) ?_
    refine lv_iconst (v := 1) hx hb dX12_lays_24 (by decide) ?_
    obtain ⟨D8, e9, h⟩ := lt_some h
    refine h_puti O hH ly_281 rfl fl_X12_440 e9 dX12_lays_25 (fun H locs hH => ?_)
    refine lv_iconst (v := 0) hx hb dX12_lays_28 (by decide) ?_
    refine lv_istore_n (lv' := [(1, .int 0), (0, .ref (z + 281))]) hx hb dX12_lays_29 rfl hl (by decide) rfl (fun ls hl => ?_)
    exact w_X12_lays_30 O hr hlk FU _ _ h _ _ _ hH (lv_sub hl [1, 0] rfl)
  · have h := it_neg h c1
    obtain rfl := ret_v h
    exact h_vret O hr hlk hH dX12_lays_7
set_option maxHeartbeats 4000000 in
theorem c_X12_lays {l : Launch} {G : va_G} {tA : Nat → ClassId} {z : Nat} {E : Ex}  {D D' : Dm} (h : f_X12_lays  D = some D') : CtV l yX12_lays cX12_lays 4 G tA z E 30 0 0 [.ref (z + 281)] LAY D LAY D' :=
  ct_BV (by decide +kernel) (Nat.le_of_ble_eq_true rfl) (fun _ _ _ _ _ _ _ _ O hr hlk => w_X12_lays O hr hlk  _ h)
set_option maxHeartbeats 4000000 in
theorem w_X12_isTest_17_b {G : va_G} {tA : Nat → ClassId} {z : Nat} {E : Ex} {p : Program} {l : Launch} {e : Env} {s : State} {m : MethodId} {args : Array Value} {below : List Frame} {meth : Method} {c : Code} {r : Int32} {D' : Dm} (O : Ok G tA z E cX12_isTest RX12 3 p s m args c) (hr : meth.sig.returnType = some .boolean) (hlk : meth.locks = false) {k17 : Int32 → Int32 → Dm → Option (Int32 × Dm)} (hk17 : ∀ (x1 : Int32) (x2 : Int32) (D : Dm), k17 x1 x2 D = some (r, D') → BI G tA z E p l e (rmC 1 0 0) s m args below meth c LAY D r D' 3 17 [(0, .ref (z + 281)), (1, .int x1), (2, .int x2)] []) (x1 : Int32) (x2 : Int32) (D : Dm) (h : f_X12_isTest_17_b k17 x1 x2 D = some (r, D')) : BI G tA z E p l e (rmC 1 0 0) s m args below meth c LAY D r D' 3 17 [(0, .ref (z + 281)), (1, .int x1), (2, .int x2)] [] := by
  obtain ⟨hx, hb, -, hown, hts, -⟩ := id O
  unfold f_X12_isTest_17_b at h
  intro H locs ls hH hl
  refine lv_iload_n hx hb dX12_isTest_17 rfl (lv_at hl 2 rfl) ?_
  refine lv_aload_n hx hb dX12_isTest_18 rfl (lv_at hl 0 rfl) ?_
  refine h_geti O hH ly_281 rfl fl_X12_319 dX12_isTest_19 ?_
  refine lv_icmp_ge (tgt := 73) hx hb dX12_isTest_22 (by decide) (fun c1 => ?_) (fun c1 => ?_)
  · have h := it_pos h c1
    refine lv_iconst (v := 1) hx hb dX12_isTest_73 (by decide) ?_
    obtain ⟨rfl, rfl⟩ := ret_i h
    exact h_zret O hr hlk zb_1 hH dX12_isTest_74
  · have h := it_neg h c1
    refine lv_aload_n hx hb dX12_isTest_25 rfl (lv_at hl 0 rfl) ?_
    refine h_getr O hH ly_281 rfl fl_X12_51 dX12_isTest_26 ?_
    refine lv_bipush (v := 6) hx hb dX12_isTest_29 (by decide) ?_
    refine lv_iload_n hx hb dX12_isTest_31 rfl (lv_at hl 1 rfl) ?_
    refine lv_imul hx hb dX12_isTest_32 ?_
    refine lv_iload_n hx hb dX12_isTest_33 rfl (lv_at hl 2 rfl) ?_
    refine lv_iadd hx hb dX12_isTest_34 ?_
    obtain ⟨g2, h⟩ := gd_some h
    refine h_iald O hH ly_293 g2 dX12_isTest_35 ?_
    refine lv_aload_n hx hb dX12_isTest_36 rfl (lv_at hl 0 rfl) ?_
    refine h_getr O hH ly_281 rfl fl_X12_69 dX12_isTest_37 ?_
    refine lv_iload_n hx hb dX12_isTest_40 rfl (lv_at hl 2 rfl) ?_
    obtain ⟨g3, h⟩ := gd_some h
    refine h_iald O hH ly_299 g3 dX12_isTest_41 ?_
    refine lv_icmp_ne (tgt := 65) hx hb dX12_isTest_42 (by decide) (fun c4 => ?_) (fun c4 => ?_)
    · have h := it_neg h c4
      refine lv_iconst (v := 0) hx hb dX12_isTest_65 (by decide) ?_
      obtain ⟨rfl, rfl⟩ := ret_i h
      exact h_zret O hr hlk zb_0 hH dX12_isTest_66
    · have h := it_pos h c4
      refine lv_aload_n hx hb dX12_isTest_45 rfl (lv_at hl 0 rfl) ?_
      refine h_getr O hH ly_281 rfl fl_X12_54 dX12_isTest_46 ?_
      refine lv_bipush (v := 6) hx hb dX12_isTest_49 (by decide) ?_
      refine lv_iload_n hx hb dX12_isTest_51 rfl (lv_at hl 1 rfl) ?_
      refine lv_imul hx hb dX12_isTest_52 ?_
      refine lv_iload_n hx hb dX12_isTest_53 rfl (lv_at hl 2 rfl) ?_
      refine lv_iadd hx hb dX12_isTest_54 ?_
      obtain ⟨g5, h⟩ := gd_some h
      refine h_iald O hH ly_294 g5 dX12_isTest_55 ?_
      refine lv_aload_n hx hb dX12_isTest_56 rfl (lv_at hl 0 rfl) ?_
      refine h_getr O hH ly_281 rfl fl_X12_72 dX12_isTest_57 ?_
      refine lv_iload_n hx hb dX12_isTest_60 rfl (lv_at hl 2 rfl) ?_
      obtain ⟨g6, h⟩ := gd_some h
      refine h_iald O hH ly_300 g6 dX12_isTest_61 ?_
      refine lv_icmp_eq (tgt := 67) hx hb dX12_isTest_62 (by decide) (fun c7 => ?_) (fun c7 => ?_)
      · have h := it_pos h c7
        obtain ⟨y8, e9, h⟩ := lt_some h
        refine lv_iinc (v := y8) (lv' := [(2, .int y8), (0, .ref (z + 281)), (1, .int x1)]) hx hb dX12_isTest_67 hl (k := 2) rfl (by rw [e9]; rfl) (by decide) rfl (fun ls hl => ?_)
        refine lv_goto (tgt := 17) hx hb dX12_isTest_70 (by decide) ?_
        exact hk17 _ _ _ h _ _ _ hH (lv_sub hl [1, 2, 0] rfl)
      · have h := it_neg h c7
        refine lv_iconst (v := 0) hx hb dX12_isTest_65 (by decide) ?_
        obtain ⟨rfl, rfl⟩ := ret_i h
        exact h_zret O hr hlk zb_0 hH dX12_isTest_66
set_option maxHeartbeats 4000000 in
theorem w_X12_isTest_17 {G : va_G} {tA : Nat → ClassId} {z : Nat} {E : Ex} {p : Program} {l : Launch} {e : Env} {s : State} {m : MethodId} {args : Array Value} {below : List Frame} {meth : Method} {c : Code} {r : Int32} {D' : Dm} (O : Ok G tA z E cX12_isTest RX12 3 p s m args c) (hr : meth.sig.returnType = some .boolean) (hlk : meth.locks = false) : ∀ (n : Nat) (x1 : Int32) (x2 : Int32) (D : Dm) (h : f_X12_isTest_17 n x1 x2 D = some (r, D')), BI G tA z E p l e (rmC 1 0 0) s m args below meth c LAY D r D' 3 17 [(0, .ref (z + 281)), (1, .int x1), (2, .int x2)] [] := by
  intro n
  induction n with
  | zero => intro x1 x2 D h; exact no_some h
  | succ n ih => intro x1 x2 D h; exact w_X12_isTest_17_b O hr hlk (fun x1 x2 D h => ih x1 x2 D h) x1 x2 D h
set_option maxHeartbeats 4000000 in
theorem w_X12_isTest {G : va_G} {tA : Nat → ClassId} {z : Nat} {E : Ex} {p : Program} {l : Launch} {e : Env} {s : State} {m : MethodId} {args : Array Value} {below : List Frame} {meth : Method} {c : Code} {r : Int32} {D' : Dm} (O : Ok G tA z E cX12_isTest RX12 3 p s m args c) (hr : meth.sig.returnType = some .boolean) (hlk : meth.locks = false) (x1 : Int32) (D : Dm) (h : f_X12_isTest x1 D = some (r, D')) : BI G tA z E p l e (rmC 1 0 0) s m args below meth c LAY D r D' 3 0 [(0, .ref (z + 281)), (1, .int x1)] [] := by
  obtain ⟨hx, hb, -, hown, hts, -⟩ := id O
  unfold f_X12_isTest at h
  intro H locs ls hH hl
  refine lv_aload_n hx hb dX12_isTest_0 rfl (lv_at hl 0 rfl) ?_
  refine h_getr O hH ly_281 rfl fl_X12_48 dX12_isTest_1 ?_
  refine lv_iload_n hx hb dX12_isTest_4 rfl (lv_at hl 1 rfl) ?_
  obtain ⟨g1, h⟩ := gd_some h
  refine h_iald O hH ly_292 g1 dX12_isTest_5 ?_
  refine lv_aload_n hx hb dX12_isTest_6 rfl (lv_at hl 0 rfl) ?_
  refine h_geti O hH ly_281 rfl fl_X12_319 dX12_isTest_7 ?_
  refine lv_icmp_eq (tgt := 15) hx hb dX12_isTest_10 (by decide) (fun c2 => ?_) (fun c2 => ?_)
  · have h := it_pos h c2
    refine lv_iconst (v := 0) hx hb dX12_isTest_15 (by decide) ?_
    refine lv_istore_n (lv' := [(2, .int 0), (0, .ref (z + 281)), (1, .int x1)]) hx hb dX12_isTest_16 rfl hl (by decide) rfl (fun ls hl => ?_)
    exact w_X12_isTest_17 O hr hlk FU _ _ _ h _ _ _ hH (lv_sub hl [1, 2, 0] rfl)
  · have h := it_neg h c2
    refine lv_iconst (v := 0) hx hb dX12_isTest_13 (by decide) ?_
    obtain ⟨rfl, rfl⟩ := ret_i h
    exact h_zret O hr hlk zb_0 hH dX12_isTest_14
set_option maxHeartbeats 4000000 in
theorem c_X12_isTest {l : Launch} {G : va_G} {tA : Nat → ClassId} {z : Nat} {E : Ex} {x1 : Int32} {D D' : Dm} {r : Int32} (h : f_X12_isTest x1 D = some (r, D')) : CtI l yX12_isTest cX12_isTest 3 (some .boolean) G tA z E 1 0 0 [.ref (z + 281), .int x1] LAY D r LAY D' :=
  ct_BI (by decide +kernel) (Nat.le_of_ble_eq_true rfl) (fun _ _ _ _ _ _ _ _ O hr hlk => w_X12_isTest O hr hlk _ _ h)
set_option maxHeartbeats 4000000 in
theorem w_X12_addsTest_82_b {G : va_G} {tA : Nat → ClassId} {z : Nat} {E : Ex} {p : Program} {l : Launch} {e : Env} {s : State} {m : MethodId} {args : Array Value} {below : List Frame} {meth : Method} {c : Code} {r : Int32} {D' : Dm} (O : Ok G tA z E cX12_addsTest RX12 2 p s m args c) (hr : meth.sig.returnType = some .boolean) (hlk : meth.locks = false) {k82 : Int32 → Dm → Option (Int32 × Dm)} (hk82 : ∀ (x1 : Int32) (D : Dm), k82 x1 D = some (r, D') → BI G tA z E p l e (rmC 2 0 0) s m args below meth c LAY D r D' 2 82 [(0, .ref (z + 281)), (1, .int x1)] []) (x1 : Int32) (D : Dm) (h : f_X12_addsTest_82_b k82 x1 D = some (r, D')) : BI G tA z E p l e (rmC 2 0 0) s m args below meth c LAY D r D' 2 82 [(0, .ref (z + 281)), (1, .int x1)] [] := by
  obtain ⟨hx, hb, -, hown, hts, -⟩ := id O
  unfold f_X12_addsTest_82_b at h
  intro H locs ls hH hl
  refine lv_iload_n hx hb dX12_addsTest_82 rfl (lv_at hl 1 rfl) ?_
  refine lv_aload_n hx hb dX12_addsTest_83 rfl (lv_at hl 0 rfl) ?_
  refine h_geti O hH ly_281 rfl fl_X12_319 dX12_addsTest_84 ?_
  refine lv_icmp_ge (tgt := 136) hx hb dX12_addsTest_87 (by decide) (fun c1 => ?_) (fun c1 => ?_)
  · have h := it_pos h c1
    refine lv_aload_n hx hb dX12_addsTest_136 rfl (lv_at hl 0 rfl) ?_
    refine lv_dup hx hb dX12_addsTest_137 rfl ?_
    refine h_geti O hH ly_281 rfl fl_X12_313 dX12_addsTest_138 ?_
    refine lv_iconst (v := 1) hx hb dX12_addsTest_141 (by decide) ?_
    refine lv_iadd hx hb dX12_addsTest_142 ?_
    obtain ⟨D2, e3, h⟩ := lt_some h
    refine h_puti O hH ly_281 rfl fl_X12_313 e3 dX12_addsTest_143 (fun H locs hH => ?_)
    refine lv_iconst (v := 1) hx hb dX12_addsTest_146 (by decide) ?_
    obtain ⟨rfl, rfl⟩ := ret_i h
    exact h_zret O hr hlk zb_1 hH dX12_addsTest_147
  · have h := it_neg h c1
    refine lv_aload_n hx hb dX12_addsTest_90 rfl (lv_at hl 0 rfl) ?_
    refine h_getr O hH ly_281 rfl fl_X12_51 dX12_addsTest_91 ?_
    refine lv_bipush (v := 6) hx hb dX12_addsTest_94 (by decide) ?_
    refine lv_aload_n hx hb dX12_addsTest_96 rfl (lv_at hl 0 rfl) ?_
    refine h_geti O hH ly_281 rfl fl_X12_313 dX12_addsTest_97 ?_
    refine lv_imul hx hb dX12_addsTest_100 ?_
    refine lv_iload_n hx hb dX12_addsTest_101 rfl (lv_at hl 1 rfl) ?_
    refine lv_iadd hx hb dX12_addsTest_102 ?_
    refine lv_aload_n hx hb dX12_addsTest_103 rfl (lv_at hl 0 rfl) ?_
    refine h_getr O hH ly_281 rfl fl_X12_69 dX12_addsTest_104 ?_
    refine lv_iload_n hx hb dX12_addsTest_107 rfl (lv_at hl 1 rfl) ?_
    obtain ⟨g4, h⟩ := gd_some h
    refine h_iald O hH ly_299 g4 dX12_addsTest_108 ?_
    obtain ⟨g5, h⟩ := gd_some h
    obtain ⟨D6, e7, h⟩ := lt_some h
    refine h_iast O hH ly_293 g5 e7 dX12_addsTest_109 (fun H locs hH => ?_)
    refine lv_aload_n hx hb dX12_addsTest_110 rfl (lv_at hl 0 rfl) ?_
    refine h_getr O hH ly_281 rfl fl_X12_54 dX12_addsTest_111 ?_
    refine lv_bipush (v := 6) hx hb dX12_addsTest_114 (by decide) ?_
    refine lv_aload_n hx hb dX12_addsTest_116 rfl (lv_at hl 0 rfl) ?_
    refine h_geti O hH ly_281 rfl fl_X12_313 dX12_addsTest_117 ?_
    refine lv_imul hx hb dX12_addsTest_120 ?_
    refine lv_iload_n hx hb dX12_addsTest_121 rfl (lv_at hl 1 rfl) ?_
    refine lv_iadd hx hb dX12_addsTest_122 ?_
    refine lv_aload_n hx hb dX12_addsTest_123 rfl (lv_at hl 0 rfl) ?_
    refine h_getr O hH ly_281 rfl fl_X12_72 dX12_addsTest_124 ?_
    refine lv_iload_n hx hb dX12_addsTest_127 rfl (lv_at hl 1 rfl) ?_
    obtain ⟨g8, h⟩ := gd_some h
    refine h_iald O hH ly_300 g8 dX12_addsTest_128 ?_
    obtain ⟨g9, h⟩ := gd_some h
    obtain ⟨D10, e11, h⟩ := lt_some h
    refine h_iast O hH ly_294 g9 e11 dX12_addsTest_129 (fun H locs hH => ?_)
    obtain ⟨y12, e13, h⟩ := lt_some h
    refine lv_iinc (v := y12) (lv' := [(1, .int y12), (0, .ref (z + 281))]) hx hb dX12_addsTest_130 hl (k := 1) rfl (by rw [e13]; rfl) (by decide) rfl (fun ls hl => ?_)
    refine lv_goto (tgt := 82) hx hb dX12_addsTest_133 (by decide) ?_
    exact hk82 _ _ h _ _ _ hH (lv_sub hl [1, 0] rfl)
set_option maxHeartbeats 4000000 in
theorem w_X12_addsTest_82 {G : va_G} {tA : Nat → ClassId} {z : Nat} {E : Ex} {p : Program} {l : Launch} {e : Env} {s : State} {m : MethodId} {args : Array Value} {below : List Frame} {meth : Method} {c : Code} {r : Int32} {D' : Dm} (O : Ok G tA z E cX12_addsTest RX12 2 p s m args c) (hr : meth.sig.returnType = some .boolean) (hlk : meth.locks = false) : ∀ (n : Nat) (x1 : Int32) (D : Dm) (h : f_X12_addsTest_82 n x1 D = some (r, D')), BI G tA z E p l e (rmC 2 0 0) s m args below meth c LAY D r D' 2 82 [(0, .ref (z + 281)), (1, .int x1)] [] := by
  intro n
  induction n with
  | zero => intro x1 D h; exact no_some h
  | succ n ih => intro x1 D h; exact w_X12_addsTest_82_b O hr hlk (fun x1 D h => ih x1 D h) x1 D h
set_option maxHeartbeats 4000000 in
theorem w_X12_addsTest_43_b {G : va_G} {tA : Nat → ClassId} {z : Nat} {E : Ex} {p : Program} {l : Launch} {e : Env} {s : State} {m : MethodId} {args : Array Value} {below : List Frame} {meth : Method} {c : Code} {r : Int32} {D' : Dm} (O : Ok G tA z E cX12_addsTest RX12 2 p s m args c) (hr : meth.sig.returnType = some .boolean) (hlk : meth.locks = false) {k43 : Int32 → Dm → Option (Int32 × Dm)} (hk43 : ∀ (x1 : Int32) (D : Dm), k43 x1 D = some (r, D') → BI G tA z E p l e (rmC 2 0 0) s m args below meth c LAY D r D' 2 43 [(0, .ref (z + 281)), (1, .int x1)] []) (x1 : Int32) (D : Dm) (h : f_X12_addsTest_43_b k43 x1 D = some (r, D')) : BI G tA z E p l e (rmC 2 0 0) s m args below meth c LAY D r D' 2 43 [(0, .ref (z + 281)), (1, .int x1)] [] := by
  obtain ⟨hx, hb, -, hown, hts, -⟩ := id O
  unfold f_X12_addsTest_43_b at h
  intro H locs ls hH hl
  refine lv_iload_n hx hb dX12_addsTest_43 rfl (lv_at hl 1 rfl) ?_
  refine lv_aload_n hx hb dX12_addsTest_44 rfl (lv_at hl 0 rfl) ?_
  refine h_geti O hH ly_281 rfl fl_X12_313 dX12_addsTest_45 ?_
  refine lv_icmp_ge (tgt := 67) hx hb dX12_addsTest_48 (by decide) (fun c1 => ?_) (fun c1 => ?_)
  · have h := it_pos h c1
    refine lv_aload_n hx hb dX12_addsTest_67 rfl (lv_at hl 0 rfl) ?_
    refine h_getr O hH ly_281 rfl fl_X12_48 dX12_addsTest_68 ?_
    refine lv_aload_n hx hb dX12_addsTest_71 rfl (lv_at hl 0 rfl) ?_
    refine h_geti O hH ly_281 rfl fl_X12_313 dX12_addsTest_72 ?_
    refine lv_aload_n hx hb dX12_addsTest_75 rfl (lv_at hl 0 rfl) ?_
    refine h_geti O hH ly_281 rfl fl_X12_319 dX12_addsTest_76 ?_
    obtain ⟨g2, h⟩ := gd_some h
    obtain ⟨D3, e4, h⟩ := lt_some h
    refine h_iast O hH ly_292 g2 e4 dX12_addsTest_79 (fun H locs hH => ?_)
    refine lv_iconst (v := 0) hx hb dX12_addsTest_80 (by decide) ?_
    refine lv_istore_n (lv' := [(1, .int 0), (0, .ref (z + 281))]) hx hb dX12_addsTest_81 rfl hl (by decide) rfl (fun ls hl => ?_)
    exact w_X12_addsTest_82 O hr hlk FU _ _ h _ _ _ hH (lv_sub hl [1, 0] rfl)
  · have h := it_neg h c1
    refine lv_aload_n hx hb dX12_addsTest_51 rfl (lv_at hl 0 rfl) ?_
    refine lv_iload_n hx hb dX12_addsTest_52 rfl (lv_at hl 1 rfl) ?_
    obtain ⟨y7, D5, hc6, h⟩ := bI_some h
    refine h_callVi (As := [.int x1]) (rest := []) O hH (c_X12_isTest hc6) ml_X12_545 ly_281 rfl rfl hl.1 rfl ⟨Nat.le_of_ble_eq_true rfl, Nat.le_of_ble_eq_true rfl⟩ (Nat.le_of_ble_eq_true rfl) dX12_addsTest_53 (fun H locs hH => ?_)
    refine lv_if_eq (tgt := 61) hx hb dX12_addsTest_56 (by decide) (fun c8 => ?_) (fun c8 => ?_)
    · have h := it_pos h c8
      obtain ⟨y9, e10, h⟩ := lt_some h
      refine lv_iinc (v := y9) (lv' := [(1, .int y9), (0, .ref (z + 281))]) hx hb dX12_addsTest_61 hl (k := 1) rfl (by rw [e10]; rfl) (by decide) rfl (fun ls hl => ?_)
      refine lv_goto (tgt := 43) hx hb dX12_addsTest_64 (by decide) ?_
      exact hk43 _ _ h _ _ _ hH (lv_sub hl [1, 0] rfl)
    · have h := it_neg h c8
      refine lv_iconst (v := 0) hx hb dX12_addsTest_59 (by decide) ?_
      obtain ⟨rfl, rfl⟩ := ret_i h
      exact h_zret O hr hlk zb_0 hH dX12_addsTest_60
set_option maxHeartbeats 4000000 in
theorem w_X12_addsTest_43 {G : va_G} {tA : Nat → ClassId} {z : Nat} {E : Ex} {p : Program} {l : Launch} {e : Env} {s : State} {m : MethodId} {args : Array Value} {below : List Frame} {meth : Method} {c : Code} {r : Int32} {D' : Dm} (O : Ok G tA z E cX12_addsTest RX12 2 p s m args c) (hr : meth.sig.returnType = some .boolean) (hlk : meth.locks = false) : ∀ (n : Nat) (x1 : Int32) (D : Dm) (h : f_X12_addsTest_43 n x1 D = some (r, D')), BI G tA z E p l e (rmC 2 0 0) s m args below meth c LAY D r D' 2 43 [(0, .ref (z + 281)), (1, .int x1)] [] := by
  intro n
  induction n with
  | zero => intro x1 D h; exact no_some h
  | succ n ih => intro x1 D h; exact w_X12_addsTest_43_b O hr hlk (fun x1 D h => ih x1 D h) x1 D h
set_option maxHeartbeats 4000000 in
theorem w_X12_addsTest {G : va_G} {tA : Nat → ClassId} {z : Nat} {E : Ex} {p : Program} {l : Launch} {e : Env} {s : State} {m : MethodId} {args : Array Value} {below : List Frame} {meth : Method} {c : Code} {r : Int32} {D' : Dm} (O : Ok G tA z E cX12_addsTest RX12 2 p s m args c) (hr : meth.sig.returnType = some .boolean) (hlk : meth.locks = false)  (D : Dm) (h : f_X12_addsTest  D = some (r, D')) : BI G tA z E p l e (rmC 2 0 0) s m args below meth c LAY D r D' 2 0 [(0, .ref (z + 281))] [] := by
  obtain ⟨hx, hb, -, hown, hts, -⟩ := id O
  unfold f_X12_addsTest at h
  intro H locs ls hH hl
  refine lv_aload_n hx hb dX12_addsTest_0 rfl (lv_at hl 0 rfl) ?_
  obtain ⟨D1, hc2, h⟩ := bV_some h
  refine h_callVv (As := []) (rest := []) O hH (c_X12_leasts hc2) ml_X12_542 ly_281 rfl rfl hl.1 rfl ⟨Nat.le_of_ble_eq_true rfl, Nat.le_of_ble_eq_true rfl⟩ (Nat.le_of_ble_eq_true rfl) dX12_addsTest_1 (fun H locs hH => ?_)
  refine lv_aload_n hx hb dX12_addsTest_4 rfl (lv_at hl 0 rfl) ?_
  refine h_geti O hH ly_281 rfl fl_X12_313 dX12_addsTest_5 ?_
  refine lv_bipush (v := 10) hx hb dX12_addsTest_8 (by decide) ?_
  refine lv_icmp_eq (tgt := 39) hx hb dX12_addsTest_10 (by decide) (fun c3 => ?_) (fun c3 => ?_)
  · have h := it_pos h c3
    refine lv_iconst (v := 0) hx hb dX12_addsTest_39 (by decide) ?_
    obtain ⟨rfl, rfl⟩ := ret_i h
    exact h_zret O hr hlk zb_0 hH dX12_addsTest_40
  · have h := it_neg h c3
    refine lv_aload_n hx hb dX12_addsTest_13 rfl (lv_at hl 0 rfl) ?_
    refine h_geti O hH ly_281 rfl fl_X12_319 dX12_addsTest_14 ?_
    refine lv_bipush (v := 6) hx hb dX12_addsTest_17 (by decide) ?_
    refine lv_icmp_gt (tgt := 39) hx hb dX12_addsTest_19 (by decide) (fun c4 => ?_) (fun c4 => ?_)
    · have h := it_pos h c4
      refine lv_iconst (v := 0) hx hb dX12_addsTest_39 (by decide) ?_
      obtain ⟨rfl, rfl⟩ := ret_i h
      exact h_zret O hr hlk zb_0 hH dX12_addsTest_40
    · have h := it_neg h c4
      refine lv_aload_n hx hb dX12_addsTest_22 rfl (lv_at hl 0 rfl) ?_
      refine lv_aload_n hx hb dX12_addsTest_23 rfl (lv_at hl 0 rfl) ?_
      refine h_getr O hH ly_281 rfl fl_X12_72 dX12_addsTest_24 ?_
      refine lv_iconst (v := 0) hx hb dX12_addsTest_27 (by decide) ?_
      refine lv_aload_n hx hb dX12_addsTest_28 rfl (lv_at hl 0 rfl) ?_
      refine h_geti O hH ly_281 rfl fl_X12_319 dX12_addsTest_29 ?_
      obtain ⟨y7, D5, hc6, h⟩ := bI_some h
      refine h_callVi (As := [.ref (z + 300), .int 0, .int (D1 281 36)]) (rest := []) O hH (c_X12_namesOf ly_300 hc6) ml_X12_328 ly_281 rfl rfl hl.1 rfl ⟨Nat.le_of_ble_eq_true rfl, Nat.le_of_ble_eq_true rfl⟩ (Nat.le_of_ble_eq_true rfl) dX12_addsTest_32 (fun H locs hH => ?_)
      refine lv_iconst (v := 3) hx hb dX12_addsTest_35 (by decide) ?_
      refine lv_icmp_le (tgt := 41) hx hb dX12_addsTest_36 (by decide) (fun c8 => ?_) (fun c8 => ?_)
      · have h := it_pos h c8
        refine lv_iconst (v := 0) hx hb dX12_addsTest_41 (by decide) ?_
        refine lv_istore_n (lv' := [(1, .int 0), (0, .ref (z + 281))]) hx hb dX12_addsTest_42 rfl hl (by decide) rfl (fun ls hl => ?_)
        exact w_X12_addsTest_43 O hr hlk FU _ _ h _ _ _ hH (lv_sub hl [1, 0] rfl)
      · have h := it_neg h c8
        refine lv_iconst (v := 0) hx hb dX12_addsTest_39 (by decide) ?_
        obtain ⟨rfl, rfl⟩ := ret_i h
        exact h_zret O hr hlk zb_0 hH dX12_addsTest_40
set_option maxHeartbeats 4000000 in
theorem c_X12_addsTest {l : Launch} {G : va_G} {tA : Nat → ClassId} {z : Nat} {E : Ex}  {D D' : Dm} {r : Int32} (h : f_X12_addsTest  D = some (r, D')) : CtI l yX12_addsTest cX12_addsTest 2 (some .boolean) G tA z E 2 0 0 [.ref (z + 281)] LAY D r LAY D' :=
  ct_BI (by decide +kernel) (Nat.le_of_ble_eq_true rfl) (fun _ _ _ _ _ _ _ _ O hr hlk => w_X12_addsTest O hr hlk  _ h)
set_option maxHeartbeats 4000000 in
theorem w_X12_addsShort_68_b {G : va_G} {tA : Nat → ClassId} {z : Nat} {E : Ex} {p : Program} {l : Launch} {e : Env} {s : State} {m : MethodId} {args : Array Value} {below : List Frame} {meth : Method} {c : Code} {r : Int32} {D' : Dm} (O : Ok G tA z E cX12_addsShort RX12 2 p s m args c) (hr : meth.sig.returnType = some .boolean) (hlk : meth.locks = false) {k68 : Int32 → Dm → Option (Int32 × Dm)} (hk68 : ∀ (x1 : Int32) (D : Dm), k68 x1 D = some (r, D') → BI G tA z E p l e (rmC 3 0 0) s m args below meth c LAY D r D' 2 68 [(0, .ref (z + 281)), (1, .int x1)] []) (x1 : Int32) (D : Dm) (h : f_X12_addsShort_68_b k68 x1 D = some (r, D')) : BI G tA z E p l e (rmC 3 0 0) s m args below meth c LAY D r D' 2 68 [(0, .ref (z + 281)), (1, .int x1)] [] := by
  obtain ⟨hx, hb, -, hown, hts, -⟩ := id O
  unfold f_X12_addsShort_68_b at h
  intro H locs ls hH hl
  refine lv_iload_n hx hb dX12_addsShort_68 rfl (lv_at hl 1 rfl) ?_
  refine lv_aload_n hx hb dX12_addsShort_69 rfl (lv_at hl 0 rfl) ?_
  refine h_geti O hH ly_281 rfl fl_X12_319 dX12_addsShort_70 ?_
  refine lv_icmp_ge (tgt := 122) hx hb dX12_addsShort_73 (by decide) (fun c1 => ?_) (fun c1 => ?_)
  · have h := it_pos h c1
    refine lv_aload_n hx hb dX12_addsShort_122 rfl (lv_at hl 0 rfl) ?_
    refine lv_dup hx hb dX12_addsShort_123 rfl ?_
    refine h_geti O hH ly_281 rfl fl_X12_310 dX12_addsShort_124 ?_
    refine lv_iconst (v := 1) hx hb dX12_addsShort_127 (by decide) ?_
    refine lv_iadd hx hb dX12_addsShort_128 ?_
    obtain ⟨D2, e3, h⟩ := lt_some h
    refine h_puti O hH ly_281 rfl fl_X12_310 e3 dX12_addsShort_129 (fun H locs hH => ?_)
    refine lv_iconst (v := 1) hx hb dX12_addsShort_132 (by decide) ?_
    obtain ⟨rfl, rfl⟩ := ret_i h
    exact h_zret O hr hlk zb_1 hH dX12_addsShort_133
  · have h := it_neg h c1
    refine lv_aload_n hx hb dX12_addsShort_76 rfl (lv_at hl 0 rfl) ?_
    refine h_getr O hH ly_281 rfl fl_X12_42 dX12_addsShort_77 ?_
    refine lv_bipush (v := 6) hx hb dX12_addsShort_80 (by decide) ?_
    refine lv_aload_n hx hb dX12_addsShort_82 rfl (lv_at hl 0 rfl) ?_
    refine h_geti O hH ly_281 rfl fl_X12_310 dX12_addsShort_83 ?_
    refine lv_imul hx hb dX12_addsShort_86 ?_
    refine lv_iload_n hx hb dX12_addsShort_87 rfl (lv_at hl 1 rfl) ?_
    refine lv_iadd hx hb dX12_addsShort_88 ?_
    refine lv_aload_n hx hb dX12_addsShort_89 rfl (lv_at hl 0 rfl) ?_
    refine h_getr O hH ly_281 rfl fl_X12_69 dX12_addsShort_90 ?_
    refine lv_iload_n hx hb dX12_addsShort_93 rfl (lv_at hl 1 rfl) ?_
    obtain ⟨g4, h⟩ := gd_some h
    refine h_iald O hH ly_299 g4 dX12_addsShort_94 ?_
    obtain ⟨g5, h⟩ := gd_some h
    obtain ⟨D6, e7, h⟩ := lt_some h
    refine h_iast O hH ly_290 g5 e7 dX12_addsShort_95 (fun H locs hH => ?_)
    refine lv_aload_n hx hb dX12_addsShort_96 rfl (lv_at hl 0 rfl) ?_
    refine h_getr O hH ly_281 rfl fl_X12_45 dX12_addsShort_97 ?_
    refine lv_bipush (v := 6) hx hb dX12_addsShort_100 (by decide) ?_
    refine lv_aload_n hx hb dX12_addsShort_102 rfl (lv_at hl 0 rfl) ?_
    refine h_geti O hH ly_281 rfl fl_X12_310 dX12_addsShort_103 ?_
    refine lv_imul hx hb dX12_addsShort_106 ?_
    refine lv_iload_n hx hb dX12_addsShort_107 rfl (lv_at hl 1 rfl) ?_
    refine lv_iadd hx hb dX12_addsShort_108 ?_
    refine lv_aload_n hx hb dX12_addsShort_109 rfl (lv_at hl 0 rfl) ?_
    refine h_getr O hH ly_281 rfl fl_X12_72 dX12_addsShort_110 ?_
    refine lv_iload_n hx hb dX12_addsShort_113 rfl (lv_at hl 1 rfl) ?_
    obtain ⟨g8, h⟩ := gd_some h
    refine h_iald O hH ly_300 g8 dX12_addsShort_114 ?_
    obtain ⟨g9, h⟩ := gd_some h
    obtain ⟨D10, e11, h⟩ := lt_some h
    refine h_iast O hH ly_291 g9 e11 dX12_addsShort_115 (fun H locs hH => ?_)
    obtain ⟨y12, e13, h⟩ := lt_some h
    refine lv_iinc (v := y12) (lv' := [(1, .int y12), (0, .ref (z + 281))]) hx hb dX12_addsShort_116 hl (k := 1) rfl (by rw [e13]; rfl) (by decide) rfl (fun ls hl => ?_)
    refine lv_goto (tgt := 68) hx hb dX12_addsShort_119 (by decide) ?_
    exact hk68 _ _ h _ _ _ hH (lv_sub hl [1, 0] rfl)
set_option maxHeartbeats 4000000 in
theorem w_X12_addsShort_68 {G : va_G} {tA : Nat → ClassId} {z : Nat} {E : Ex} {p : Program} {l : Launch} {e : Env} {s : State} {m : MethodId} {args : Array Value} {below : List Frame} {meth : Method} {c : Code} {r : Int32} {D' : Dm} (O : Ok G tA z E cX12_addsShort RX12 2 p s m args c) (hr : meth.sig.returnType = some .boolean) (hlk : meth.locks = false) : ∀ (n : Nat) (x1 : Int32) (D : Dm) (h : f_X12_addsShort_68 n x1 D = some (r, D')), BI G tA z E p l e (rmC 3 0 0) s m args below meth c LAY D r D' 2 68 [(0, .ref (z + 281)), (1, .int x1)] [] := by
  intro n
  induction n with
  | zero => intro x1 D h; exact no_some h
  | succ n ih => intro x1 D h; exact w_X12_addsShort_68_b O hr hlk (fun x1 D h => ih x1 D h) x1 D h
set_option maxHeartbeats 4000000 in
theorem w_X12_addsShort {G : va_G} {tA : Nat → ClassId} {z : Nat} {E : Ex} {p : Program} {l : Launch} {e : Env} {s : State} {m : MethodId} {args : Array Value} {below : List Frame} {meth : Method} {c : Code} {r : Int32} {D' : Dm} (O : Ok G tA z E cX12_addsShort RX12 2 p s m args c) (hr : meth.sig.returnType = some .boolean) (hlk : meth.locks = false)  (D : Dm) (h : f_X12_addsShort  D = some (r, D')) : BI G tA z E p l e (rmC 3 0 0) s m args below meth c LAY D r D' 2 0 [(0, .ref (z + 281))] [] := by
  obtain ⟨hx, hb, -, hown, hts, -⟩ := id O
  unfold f_X12_addsShort at h
  intro H locs ls hH hl
  refine lv_aload_n hx hb dX12_addsShort_0 rfl (lv_at hl 0 rfl) ?_
  refine lv_aload_n hx hb dX12_addsShort_1 rfl (lv_at hl 0 rfl) ?_
  refine h_geti O hH ly_281 rfl fl_X12_462 dX12_addsShort_2 ?_
  refine lv_aload_n hx hb dX12_addsShort_5 rfl (lv_at hl 0 rfl) ?_
  refine h_geti O hH ly_281 rfl fl_X12_465 dX12_addsShort_6 ?_
  refine lv_aload_n hx hb dX12_addsShort_9 rfl (lv_at hl 0 rfl) ?_
  refine h_geti O hH ly_281 rfl fl_X12_468 dX12_addsShort_10 ?_
  obtain ⟨D1, hc2, h⟩ := bV_some h
  refine h_callVv (As := [.int (D 281 56), .int (D 281 57), .int (D 281 58)]) (rest := []) O hH (c_X12_takesLong hc2) ml_X12_381 ly_281 rfl rfl hl.1 rfl ⟨Nat.le_of_ble_eq_true rfl, Nat.le_of_ble_eq_true rfl⟩ (Nat.le_of_ble_eq_true rfl) dX12_addsShort_13 (fun H locs hH => ?_)
  refine lv_aload_n hx hb dX12_addsShort_16 rfl (lv_at hl 0 rfl) ?_
  refine h_geti O hH ly_281 rfl fl_X12_310 dX12_addsShort_17 ?_
  refine lv_bipush (v := 10) hx hb dX12_addsShort_20 (by decide) ?_
  refine lv_icmp_eq (tgt := 51) hx hb dX12_addsShort_22 (by decide) (fun c3 => ?_) (fun c3 => ?_)
  · have h := it_pos h c3
    refine lv_iconst (v := 0) hx hb dX12_addsShort_51 (by decide) ?_
    obtain ⟨rfl, rfl⟩ := ret_i h
    exact h_zret O hr hlk zb_0 hH dX12_addsShort_52
  · have h := it_neg h c3
    refine lv_aload_n hx hb dX12_addsShort_25 rfl (lv_at hl 0 rfl) ?_
    refine h_geti O hH ly_281 rfl fl_X12_319 dX12_addsShort_26 ?_
    refine lv_bipush (v := 6) hx hb dX12_addsShort_29 (by decide) ?_
    refine lv_icmp_gt (tgt := 51) hx hb dX12_addsShort_31 (by decide) (fun c4 => ?_) (fun c4 => ?_)
    · have h := it_pos h c4
      refine lv_iconst (v := 0) hx hb dX12_addsShort_51 (by decide) ?_
      obtain ⟨rfl, rfl⟩ := ret_i h
      exact h_zret O hr hlk zb_0 hH dX12_addsShort_52
    · have h := it_neg h c4
      refine lv_aload_n hx hb dX12_addsShort_34 rfl (lv_at hl 0 rfl) ?_
      refine lv_aload_n hx hb dX12_addsShort_35 rfl (lv_at hl 0 rfl) ?_
      refine h_getr O hH ly_281 rfl fl_X12_72 dX12_addsShort_36 ?_
      refine lv_iconst (v := 0) hx hb dX12_addsShort_39 (by decide) ?_
      refine lv_aload_n hx hb dX12_addsShort_40 rfl (lv_at hl 0 rfl) ?_
      refine h_geti O hH ly_281 rfl fl_X12_319 dX12_addsShort_41 ?_
      obtain ⟨y7, D5, hc6, h⟩ := bI_some h
      refine h_callVi (As := [.ref (z + 300), .int 0, .int (D1 281 36)]) (rest := []) O hH (c_X12_namesOf ly_300 hc6) ml_X12_328 ly_281 rfl rfl hl.1 rfl ⟨Nat.le_of_ble_eq_true rfl, Nat.le_of_ble_eq_true rfl⟩ (Nat.le_of_ble_eq_true rfl) dX12_addsShort_44 (fun H locs hH => ?_)
      refine lv_iconst (v := 3) hx hb dX12_addsShort_47 (by decide) ?_
      refine lv_icmp_le (tgt := 53) hx hb dX12_addsShort_48 (by decide) (fun c8 => ?_) (fun c8 => ?_)
      · have h := it_pos h c8
        refine lv_aload_n hx hb dX12_addsShort_53 rfl (lv_at hl 0 rfl) ?_
        refine h_getr O hH ly_281 rfl fl_X12_39 dX12_addsShort_54 ?_
        refine lv_aload_n hx hb dX12_addsShort_57 rfl (lv_at hl 0 rfl) ?_
        refine h_geti O hH ly_281 rfl fl_X12_310 dX12_addsShort_58 ?_
        refine lv_aload_n hx hb dX12_addsShort_61 rfl (lv_at hl 0 rfl) ?_
        refine h_geti O hH ly_281 rfl fl_X12_319 dX12_addsShort_62 ?_
        obtain ⟨g9, h⟩ := gd_some h
        obtain ⟨D10, e11, h⟩ := lt_some h
        refine h_iast O hH ly_289 g9 e11 dX12_addsShort_65 (fun H locs hH => ?_)
        refine lv_iconst (v := 0) hx hb dX12_addsShort_66 (by decide) ?_
        refine lv_istore_n (lv' := [(1, .int 0), (0, .ref (z + 281))]) hx hb dX12_addsShort_67 rfl hl (by decide) rfl (fun ls hl => ?_)
        exact w_X12_addsShort_68 O hr hlk FU _ _ h _ _ _ hH (lv_sub hl [1, 0] rfl)
      · have h := it_neg h c8
        refine lv_iconst (v := 0) hx hb dX12_addsShort_51 (by decide) ?_
        obtain ⟨rfl, rfl⟩ := ret_i h
        exact h_zret O hr hlk zb_0 hH dX12_addsShort_52
set_option maxHeartbeats 4000000 in
theorem c_X12_addsShort {l : Launch} {G : va_G} {tA : Nat → ClassId} {z : Nat} {E : Ex}  {D D' : Dm} {r : Int32} (h : f_X12_addsShort  D = some (r, D')) : CtI l yX12_addsShort cX12_addsShort 2 (some .boolean) G tA z E 3 0 0 [.ref (z + 281)] LAY D r LAY D' :=
  ct_BI (by decide +kernel) (Nat.le_of_ble_eq_true rfl) (fun _ _ _ _ _ _ _ _ O hr hlk => w_X12_addsShort O hr hlk  _ h)
set_option maxHeartbeats 4000000 in
theorem w_X12_addsShown_43_b {G : va_G} {tA : Nat → ClassId} {z : Nat} {E : Ex} {p : Program} {l : Launch} {e : Env} {s : State} {m : MethodId} {args : Array Value} {below : List Frame} {meth : Method} {c : Code} {r : Int32} {D' : Dm} (O : Ok G tA z E cX12_addsShown RX12 2 p s m args c) (hr : meth.sig.returnType = some .boolean) (hlk : meth.locks = false) {k43 : Int32 → Dm → Option (Int32 × Dm)} (hk43 : ∀ (x1 : Int32) (D : Dm), k43 x1 D = some (r, D') → BI G tA z E p l e (rmC 25 0 0) s m args below meth c LAY D r D' 2 43 [(0, .ref (z + 281)), (1, .int x1)] []) (x1 : Int32) (D : Dm) (h : f_X12_addsShown_43_b k43 x1 D = some (r, D')) : BI G tA z E p l e (rmC 25 0 0) s m args below meth c LAY D r D' 2 43 [(0, .ref (z + 281)), (1, .int x1)] [] := by
  obtain ⟨hx, hb, -, hown, hts, -⟩ := id O
  unfold f_X12_addsShown_43_b at h
  intro H locs ls hH hl
  refine lv_iload_n hx hb dX12_addsShown_43 rfl (lv_at hl 1 rfl) ?_
  refine lv_aload_n hx hb dX12_addsShown_44 rfl (lv_at hl 0 rfl) ?_
  refine h_getr O hH ly_281 rfl fl_X12_48 dX12_addsShown_45 ?_
  refine lv_aload_n hx hb dX12_addsShown_48 rfl (lv_at hl 0 rfl) ?_
  refine h_geti O hH ly_281 rfl fl_X12_366 dX12_addsShown_49 ?_
  obtain ⟨g1, h⟩ := gd_some h
  refine h_iald O hH ly_292 g1 dX12_addsShown_52 ?_
  refine lv_icmp_ge (tgt := 99) hx hb dX12_addsShown_53 (by decide) (fun c2 => ?_) (fun c2 => ?_)
  · have h := it_pos h c2
    refine lv_aload_n hx hb dX12_addsShown_99 rfl (lv_at hl 0 rfl) ?_
    obtain ⟨y5, D3, hc4, h⟩ := bI_some h
    refine h_callVi (As := []) (rest := []) O hH (c_X12_addsTest hc4) ml_X12_551 ly_281 rfl rfl hl.1 rfl ⟨Nat.le_of_ble_eq_true rfl, Nat.le_of_ble_eq_true rfl⟩ (Nat.le_of_ble_eq_true rfl) dX12_addsShown_100 (fun H locs hH => ?_)
    obtain ⟨g6, h⟩ := gd_some h
    obtain ⟨rfl, rfl⟩ := ret_i h
    exact h_zret O hr hlk (zbB_ok g6) hH dX12_addsShown_103
  · have h := it_neg h c2
    refine lv_aload_n hx hb dX12_addsShown_56 rfl (lv_at hl 0 rfl) ?_
    refine lv_aload_n hx hb dX12_addsShown_57 rfl (lv_at hl 0 rfl) ?_
    refine h_getr O hH ly_281 rfl fl_X12_51 dX12_addsShown_58 ?_
    refine lv_bipush (v := 6) hx hb dX12_addsShown_61 (by decide) ?_
    refine lv_aload_n hx hb dX12_addsShown_63 rfl (lv_at hl 0 rfl) ?_
    refine h_geti O hH ly_281 rfl fl_X12_366 dX12_addsShown_64 ?_
    refine lv_imul hx hb dX12_addsShown_67 ?_
    refine lv_iload_n hx hb dX12_addsShown_68 rfl (lv_at hl 1 rfl) ?_
    refine lv_iadd hx hb dX12_addsShown_69 ?_
    obtain ⟨g7, h⟩ := gd_some h
    refine h_iald O hH ly_293 g7 dX12_addsShown_70 ?_
    refine lv_aload_n hx hb dX12_addsShown_71 rfl (lv_at hl 0 rfl) ?_
    refine h_getr O hH ly_281 rfl fl_X12_81 dX12_addsShown_72 ?_
    refine lv_aload_n hx hb dX12_addsShown_75 rfl (lv_at hl 0 rfl) ?_
    refine h_getr O hH ly_281 rfl fl_X12_54 dX12_addsShown_76 ?_
    refine lv_bipush (v := 6) hx hb dX12_addsShown_79 (by decide) ?_
    refine lv_aload_n hx hb dX12_addsShown_81 rfl (lv_at hl 0 rfl) ?_
    refine h_geti O hH ly_281 rfl fl_X12_366 dX12_addsShown_82 ?_
    refine lv_imul hx hb dX12_addsShown_85 ?_
    refine lv_iload_n hx hb dX12_addsShown_86 rfl (lv_at hl 1 rfl) ?_
    refine lv_iadd hx hb dX12_addsShown_87 ?_
    obtain ⟨g8, h⟩ := gd_some h
    refine h_iald O hH ly_294 g8 dX12_addsShown_88 ?_
    obtain ⟨g9, h⟩ := gd_some h
    refine h_iald O hH ly_303 g9 dX12_addsShown_89 ?_
    obtain ⟨D10, hc11, h⟩ := bV_some h
    refine h_callVv (As := [.int (D 293 (Int32.toNatClampNeg ((6 * (D 281 44)) + x1))), .int (D 303 (Int32.toNatClampNeg (D 294 (Int32.toNatClampNeg ((6 * (D 281 44)) + x1)))))]) (rest := []) O hH (c_X12_takesLetter hc11) ml_X12_325 ly_281 rfl rfl hl.1 rfl ⟨Nat.le_of_ble_eq_true rfl, Nat.le_of_ble_eq_true rfl⟩ (Nat.le_of_ble_eq_true rfl) dX12_addsShown_90 (fun H locs hH => ?_)
    obtain ⟨y12, e13, h⟩ := lt_some h
    refine lv_iinc (v := y12) (lv' := [(1, .int y12), (0, .ref (z + 281))]) hx hb dX12_addsShown_93 hl (k := 1) rfl (by rw [e13]; rfl) (by decide) rfl (fun ls hl => ?_)
    refine lv_goto (tgt := 43) hx hb dX12_addsShown_96 (by decide) ?_
    exact hk43 _ _ h _ _ _ hH (lv_sub hl [1, 0] rfl)
set_option maxHeartbeats 4000000 in
theorem w_X12_addsShown_43 {G : va_G} {tA : Nat → ClassId} {z : Nat} {E : Ex} {p : Program} {l : Launch} {e : Env} {s : State} {m : MethodId} {args : Array Value} {below : List Frame} {meth : Method} {c : Code} {r : Int32} {D' : Dm} (O : Ok G tA z E cX12_addsShown RX12 2 p s m args c) (hr : meth.sig.returnType = some .boolean) (hlk : meth.locks = false) : ∀ (n : Nat) (x1 : Int32) (D : Dm) (h : f_X12_addsShown_43 n x1 D = some (r, D')), BI G tA z E p l e (rmC 25 0 0) s m args below meth c LAY D r D' 2 43 [(0, .ref (z + 281)), (1, .int x1)] [] := by
  intro n
  induction n with
  | zero => intro x1 D h; exact no_some h
  | succ n ih => intro x1 D h; exact w_X12_addsShown_43_b O hr hlk (fun x1 D h => ih x1 D h) x1 D h
set_option maxHeartbeats 4000000 in
theorem w_X12_addsShown {G : va_G} {tA : Nat → ClassId} {z : Nat} {E : Ex} {p : Program} {l : Launch} {e : Env} {s : State} {m : MethodId} {args : Array Value} {below : List Frame} {meth : Method} {c : Code} {r : Int32} {D' : Dm} (O : Ok G tA z E cX12_addsShown RX12 2 p s m args c) (hr : meth.sig.returnType = some .boolean) (hlk : meth.locks = false)  (D : Dm) (h : f_X12_addsShown  D = some (r, D')) : BI G tA z E p l e (rmC 25 0 0) s m args below meth c LAY D r D' 2 0 [(0, .ref (z + 281))] [] := by
  obtain ⟨hx, hb, -, hown, hts, -⟩ := id O
  unfold f_X12_addsShown at h
  intro H locs ls hH hl
  refine lv_aload_n hx hb dX12_addsShown_0 rfl (lv_at hl 0 rfl) ?_
  refine lv_aload_n hx hb dX12_addsShown_1 rfl (lv_at hl 0 rfl) ?_
  refine h_geti O hH ly_281 rfl fl_X12_462 dX12_addsShown_2 ?_
  refine lv_aload_n hx hb dX12_addsShown_5 rfl (lv_at hl 0 rfl) ?_
  refine h_geti O hH ly_281 rfl fl_X12_465 dX12_addsShown_6 ?_
  refine lv_aload_n hx hb dX12_addsShown_9 rfl (lv_at hl 0 rfl) ?_
  refine h_geti O hH ly_281 rfl fl_X12_468 dX12_addsShown_10 ?_
  obtain ⟨D1, hc2, h⟩ := bV_some h
  refine h_callVv (As := [.int (D 281 56), .int (D 281 57), .int (D 281 58)]) (rest := []) O hH (c_X12_takesLong hc2) ml_X12_381 ly_281 rfl rfl hl.1 rfl ⟨Nat.le_of_ble_eq_true rfl, Nat.le_of_ble_eq_true rfl⟩ (Nat.le_of_ble_eq_true rfl) dX12_addsShown_13 (fun H locs hH => ?_)
  refine lv_aload_n hx hb dX12_addsShown_16 rfl (lv_at hl 0 rfl) ?_
  refine lv_aload_n hx hb dX12_addsShown_17 rfl (lv_at hl 0 rfl) ?_
  refine h_geti O hH ly_281 rfl fl_X12_471 dX12_addsShown_18 ?_
  obtain ⟨D3, hc4, h⟩ := bV_some h
  refine h_callVv (As := [.int (D1 281 59)]) (rest := []) O hH (c_X12_shows hc4) ml_X12_548 ly_281 rfl rfl hl.1 rfl ⟨Nat.le_of_ble_eq_true rfl, Nat.le_of_ble_eq_true rfl⟩ (Nat.le_of_ble_eq_true rfl) dX12_addsShown_21 (fun H locs hH => ?_)
  refine lv_aload_n hx hb dX12_addsShown_24 rfl (lv_at hl 0 rfl) ?_
  refine lv_iconst (v := 0) hx hb dX12_addsShown_25 (by decide) ?_
  obtain ⟨D5, e6, h⟩ := lt_some h
  refine h_puti O hH ly_281 rfl fl_X12_319 e6 dX12_addsShown_26 (fun H locs hH => ?_)
  refine lv_aload_n hx hb dX12_addsShown_29 rfl (lv_at hl 0 rfl) ?_
  refine lv_aload_n hx hb dX12_addsShown_30 rfl (lv_at hl 0 rfl) ?_
  refine h_geti O hH ly_281 rfl fl_X12_465 dX12_addsShown_31 ?_
  refine lv_aload_n hx hb dX12_addsShown_34 rfl (lv_at hl 0 rfl) ?_
  refine h_geti O hH ly_281 rfl fl_X12_468 dX12_addsShown_35 ?_
  obtain ⟨D7, hc8, h⟩ := bV_some h
  refine h_callVv (As := [.int (D5 281 57), .int (D5 281 58)]) (rest := []) O hH (c_X12_takesLetter hc8) ml_X12_325 ly_281 rfl rfl hl.1 rfl ⟨Nat.le_of_ble_eq_true rfl, Nat.le_of_ble_eq_true rfl⟩ (Nat.le_of_ble_eq_true rfl) dX12_addsShown_38 (fun H locs hH => ?_)
  refine lv_iconst (v := 0) hx hb dX12_addsShown_41 (by decide) ?_
  refine lv_istore_n (lv' := [(1, .int 0), (0, .ref (z + 281))]) hx hb dX12_addsShown_42 rfl hl (by decide) rfl (fun ls hl => ?_)
  exact w_X12_addsShown_43 O hr hlk FU _ _ h _ _ _ hH (lv_sub hl [1, 0] rfl)
set_option maxHeartbeats 4000000 in
theorem c_X12_addsShown {l : Launch} {G : va_G} {tA : Nat → ClassId} {z : Nat} {E : Ex}  {D D' : Dm} {r : Int32} (h : f_X12_addsShown  D = some (r, D')) : CtI l yX12_addsShown cX12_addsShown 2 (some .boolean) G tA z E 25 0 0 [.ref (z + 281)] LAY D r LAY D' :=
  ct_BI (by decide +kernel) (Nat.le_of_ble_eq_true rfl) (fun _ _ _ _ _ _ _ _ O hr hlk => w_X12_addsShown O hr hlk  _ h)
set_option maxHeartbeats 4000000 in
theorem w_X12_addsSplit_12_b {G : va_G} {tA : Nat → ClassId} {z : Nat} {E : Ex} {p : Program} {l : Launch} {e : Env} {s : State} {m : MethodId} {args : Array Value} {below : List Frame} {meth : Method} {c : Code} {r : Int32} {D' : Dm} (O : Ok G tA z E cX12_addsSplit RX12 2 p s m args c) (hr : meth.sig.returnType = some .boolean) (hlk : meth.locks = false) {k12 : Int32 → Dm → Option (Int32 × Dm)} (hk12 : ∀ (x1 : Int32) (D : Dm), k12 x1 D = some (r, D') → BI G tA z E p l e (rmC 3 0 0) s m args below meth c LAY D r D' 2 12 [(0, .ref (z + 281)), (1, .int x1)] []) (x1 : Int32) (D : Dm) (h : f_X12_addsSplit_12_b k12 x1 D = some (r, D')) : BI G tA z E p l e (rmC 3 0 0) s m args below meth c LAY D r D' 2 12 [(0, .ref (z + 281)), (1, .int x1)] [] := by
  obtain ⟨hx, hb, -, hown, hts, -⟩ := id O
  unfold f_X12_addsSplit_12_b at h
  intro H locs ls hH hl
  refine lv_iload_n hx hb dX12_addsSplit_12 rfl (lv_at hl 1 rfl) ?_
  refine lv_aload_n hx hb dX12_addsSplit_13 rfl (lv_at hl 0 rfl) ?_
  refine h_geti O hH ly_281 rfl fl_X12_434 dX12_addsSplit_14 ?_
  refine lv_icmp_ge (tgt := 42) hx hb dX12_addsSplit_17 (by decide) (fun c1 => ?_) (fun c1 => ?_)
  · have h := it_pos h c1
    refine lv_aload_n hx hb dX12_addsSplit_42 rfl (lv_at hl 0 rfl) ?_
    obtain ⟨y4, D2, hc3, h⟩ := bI_some h
    refine h_callVi (As := []) (rest := []) O hH (c_X12_addsTest hc3) ml_X12_551 ly_281 rfl rfl hl.1 rfl ⟨Nat.le_of_ble_eq_true rfl, Nat.le_of_ble_eq_true rfl⟩ (Nat.le_of_ble_eq_true rfl) dX12_addsSplit_43 (fun H locs hH => ?_)
    obtain ⟨g5, h⟩ := gd_some h
    obtain ⟨rfl, rfl⟩ := ret_i h
    exact h_zret O hr hlk (zbB_ok g5) hH dX12_addsSplit_46
  · have h := it_neg h c1
    refine lv_aload_n hx hb dX12_addsSplit_20 rfl (lv_at hl 0 rfl) ?_
    refine lv_aload_n hx hb dX12_addsSplit_21 rfl (lv_at hl 0 rfl) ?_
    refine h_getr O hH ly_281 rfl fl_X12_96 dX12_addsSplit_22 ?_
    refine lv_iload_n hx hb dX12_addsSplit_25 rfl (lv_at hl 1 rfl) ?_
    obtain ⟨g6, h⟩ := gd_some h
    refine h_iald O hH ly_308 g6 dX12_addsSplit_26 ?_
    refine lv_aload_n hx hb dX12_addsSplit_27 rfl (lv_at hl 0 rfl) ?_
    refine h_getr O hH ly_281 rfl fl_X12_99 dX12_addsSplit_28 ?_
    refine lv_iload_n hx hb dX12_addsSplit_31 rfl (lv_at hl 1 rfl) ?_
    obtain ⟨g7, h⟩ := gd_some h
    refine h_iald O hH ly_309 g7 dX12_addsSplit_32 ?_
    obtain ⟨D8, hc9, h⟩ := bV_some h
    refine h_callVv (As := [.int (D 308 (Int32.toNatClampNeg x1)), .int (D 309 (Int32.toNatClampNeg x1))]) (rest := []) O hH (c_X12_takesLetter hc9) ml_X12_325 ly_281 rfl rfl hl.1 rfl ⟨Nat.le_of_ble_eq_true rfl, Nat.le_of_ble_eq_true rfl⟩ (Nat.le_of_ble_eq_true rfl) dX12_addsSplit_33 (fun H locs hH => ?_)
    obtain ⟨y10, e11, h⟩ := lt_some h
    refine lv_iinc (v := y10) (lv' := [(1, .int y10), (0, .ref (z + 281))]) hx hb dX12_addsSplit_36 hl (k := 1) rfl (by rw [e11]; rfl) (by decide) rfl (fun ls hl => ?_)
    refine lv_goto (tgt := 12) hx hb dX12_addsSplit_39 (by decide) ?_
    exact hk12 _ _ h _ _ _ hH (lv_sub hl [1, 0] rfl)
set_option maxHeartbeats 4000000 in
theorem w_X12_addsSplit_12 {G : va_G} {tA : Nat → ClassId} {z : Nat} {E : Ex} {p : Program} {l : Launch} {e : Env} {s : State} {m : MethodId} {args : Array Value} {below : List Frame} {meth : Method} {c : Code} {r : Int32} {D' : Dm} (O : Ok G tA z E cX12_addsSplit RX12 2 p s m args c) (hr : meth.sig.returnType = some .boolean) (hlk : meth.locks = false) : ∀ (n : Nat) (x1 : Int32) (D : Dm) (h : f_X12_addsSplit_12 n x1 D = some (r, D')), BI G tA z E p l e (rmC 3 0 0) s m args below meth c LAY D r D' 2 12 [(0, .ref (z + 281)), (1, .int x1)] [] := by
  intro n
  induction n with
  | zero => intro x1 D h; exact no_some h
  | succ n ih => intro x1 D h; exact w_X12_addsSplit_12_b O hr hlk (fun x1 D h => ih x1 D h) x1 D h
set_option maxHeartbeats 4000000 in
theorem w_X12_addsSplit {G : va_G} {tA : Nat → ClassId} {z : Nat} {E : Ex} {p : Program} {l : Launch} {e : Env} {s : State} {m : MethodId} {args : Array Value} {below : List Frame} {meth : Method} {c : Code} {r : Int32} {D' : Dm} (O : Ok G tA z E cX12_addsSplit RX12 2 p s m args c) (hr : meth.sig.returnType = some .boolean) (hlk : meth.locks = false)  (D : Dm) (h : f_X12_addsSplit  D = some (r, D')) : BI G tA z E p l e (rmC 3 0 0) s m args below meth c LAY D r D' 2 0 [(0, .ref (z + 281))] [] := by
  obtain ⟨hx, hb, -, hown, hts, -⟩ := id O
  unfold f_X12_addsSplit at h
  intro H locs ls hH hl
  refine lv_aload_n hx hb dX12_addsSplit_0 rfl (lv_at hl 0 rfl) ?_
  refine lv_iconst (v := 0) hx hb dX12_addsSplit_1 (by decide) ?_
  obtain ⟨D1, e2, h⟩ := lt_some h
  refine h_puti O hH ly_281 rfl fl_X12_319 e2 dX12_addsSplit_2 (fun H locs hH => ?_)
  refine lv_aload_n hx hb dX12_addsSplit_5 rfl (lv_at hl 0 rfl) ?_
  refine h_geti O hH ly_281 rfl fl_X12_437 dX12_addsSplit_6 ?_
  refine lv_iconst (v := 1) hx hb dX12_addsSplit_9 (by decide) ?_
  refine lv_iadd hx hb dX12_addsSplit_10 ?_
  refine lv_topi (fun y3 e4 => ?_)
  have h := lt_at e4 h
  refine lv_istore_n (lv' := [(1, .int y3), (0, .ref (z + 281))]) hx hb dX12_addsSplit_11 rfl hl (by decide) rfl (fun ls hl => ?_)
  exact w_X12_addsSplit_12 O hr hlk FU _ _ h _ _ _ hH (lv_sub hl [1, 0] rfl)
set_option maxHeartbeats 4000000 in
theorem c_X12_addsSplit {l : Launch} {G : va_G} {tA : Nat → ClassId} {z : Nat} {E : Ex}  {D D' : Dm} {r : Int32} (h : f_X12_addsSplit  D = some (r, D')) : CtI l yX12_addsSplit cX12_addsSplit 2 (some .boolean) G tA z E 3 0 0 [.ref (z + 281)] LAY D r LAY D' :=
  ct_BI (by decide +kernel) (Nat.le_of_ble_eq_true rfl) (fun _ _ _ _ _ _ _ _ O hr hlk => w_X12_addsSplit O hr hlk  _ h)
set_option maxHeartbeats 4000000 in
theorem w_X12_steps_59 {G : va_G} {tA : Nat → ClassId} {z : Nat} {E : Ex} {p : Program} {l : Launch} {e : Env} {s : State} {m : MethodId} {args : Array Value} {below : List Frame} {meth : Method} {c : Code} {r : Int32} {D' : Dm} (O : Ok G tA z E cX12_steps RX12 3 p s m args c) (hr : meth.sig.returnType = some .int) (hlk : meth.locks = false) (xs0 : Int32) (D : Dm) (h : f_X12_steps_59 xs0 D = some (r, D')) : BI G tA z E p l e (rmC 31 0 0) s m args below meth c LAY D r D' 3 59 [(0, .ref (z + 281))] [.int xs0] := by
  obtain ⟨hx, hb, -, hown, hts, -⟩ := id O
  unfold f_X12_steps_59 at h
  intro H locs ls hH hl
  refine lv_istore_n (lv' := [(1, .int xs0), (0, .ref (z + 281))]) hx hb dX12_steps_59 rfl hl (by decide) rfl (fun ls hl => ?_)
  refine lv_iload_n hx hb dX12_steps_60 rfl (lv_at hl 0 rfl) ?_
  refine lv_if_ne (tgt := 67) hx hb dX12_steps_61 (by decide) (fun c1 => ?_) (fun c1 => ?_)
  · have h := it_neg h c1
    refine lv_aload_n hx hb dX12_steps_67 rfl (lv_at hl 1 rfl) ?_
    refine h_geti O hH ly_281 rfl fl_X12_440 dX12_steps_68 ?_
    refine lv_topi (fun y2 e3 => ?_)
    have h := lt_at e3 h
    refine lv_istore_n (lv' := [(2, .int y2), (1, .int xs0), (0, .ref (z + 281))]) hx hb dX12_steps_71 rfl hl (by decide) rfl (fun ls hl => ?_)
    refine lv_iload_n hx hb dX12_steps_72 rfl (lv_at hl 0 rfl) ?_
    refine lv_if_eq (tgt := 81) hx hb dX12_steps_73 (by decide) (fun c4 => ?_) (fun c4 => ?_)
    · have h := it_pos h c4
      refine lv_iload_n hx hb dX12_steps_81 rfl (lv_at hl 0 rfl) ?_
      obtain ⟨rfl, rfl⟩ := ret_i h
      exact h_iret O hr hlk hH dX12_steps_82
    · have h := it_neg h c4
      refine lv_aload_n hx hb dX12_steps_76 rfl (lv_at hl 2 rfl) ?_
      refine lv_iconst (v := 0) hx hb dX12_steps_77 (by decide) ?_
      obtain ⟨D5, e6, h⟩ := lt_some h
      refine h_putz O hH ly_281 rfl fl_X12_316 zb_0 e6 dX12_steps_78 (fun H locs hH => ?_)
      refine lv_iload_n hx hb dX12_steps_81 rfl (lv_at hl 0 rfl) ?_
      obtain ⟨rfl, rfl⟩ := ret_i h
      exact h_iret O hr hlk hH dX12_steps_82
  · have h := it_pos h c1
    refine lv_bipush (v := (-4)) hx hb dX12_steps_64 (by decide) ?_
    obtain ⟨rfl, rfl⟩ := ret_i h
    exact h_iret O hr hlk hH dX12_steps_66
set_option maxHeartbeats 4000000 in
theorem w_X12_steps_54 {G : va_G} {tA : Nat → ClassId} {z : Nat} {E : Ex} {p : Program} {l : Launch} {e : Env} {s : State} {m : MethodId} {args : Array Value} {below : List Frame} {meth : Method} {c : Code} {r : Int32} {D' : Dm} (O : Ok G tA z E cX12_steps RX12 3 p s m args c) (hr : meth.sig.returnType = some .int) (hlk : meth.locks = false)  (D : Dm) (h : f_X12_steps_54  D = some (r, D')) : BI G tA z E p l e (rmC 31 0 0) s m args below meth c LAY D r D' 3 54 [(0, .ref (z + 281))] [] := by
  obtain ⟨hx, hb, -, hown, hts, -⟩ := id O
  unfold f_X12_steps_54 at h
  intro H locs ls hH hl
  refine lv_iconst (v := 1) hx hb dX12_steps_54 (by decide) ?_
  refine lv_goto (tgt := 59) hx hb dX12_steps_55 (by decide) ?_
  exact w_X12_steps_59 O hr hlk _ _ h _ _ _ hH (lv_sub hl [0] rfl)
set_option maxHeartbeats 4000000 in
theorem w_X12_steps_58 {G : va_G} {tA : Nat → ClassId} {z : Nat} {E : Ex} {p : Program} {l : Launch} {e : Env} {s : State} {m : MethodId} {args : Array Value} {below : List Frame} {meth : Method} {c : Code} {r : Int32} {D' : Dm} (O : Ok G tA z E cX12_steps RX12 3 p s m args c) (hr : meth.sig.returnType = some .int) (hlk : meth.locks = false)  (D : Dm) (h : f_X12_steps_58  D = some (r, D')) : BI G tA z E p l e (rmC 31 0 0) s m args below meth c LAY D r D' 3 58 [(0, .ref (z + 281))] [] := by
  obtain ⟨hx, hb, -, hown, hts, -⟩ := id O
  unfold f_X12_steps_58 at h
  intro H locs ls hH hl
  refine lv_iconst (v := 0) hx hb dX12_steps_58 (by decide) ?_
  exact w_X12_steps_59 O hr hlk _ _ h _ _ _ hH (lv_sub hl [0] rfl)
set_option maxHeartbeats 4000000 in
theorem w_X12_steps {G : va_G} {tA : Nat → ClassId} {z : Nat} {E : Ex} {p : Program} {l : Launch} {e : Env} {s : State} {m : MethodId} {args : Array Value} {below : List Frame} {meth : Method} {c : Code} {r : Int32} {D' : Dm} (O : Ok G tA z E cX12_steps RX12 3 p s m args c) (hr : meth.sig.returnType = some .int) (hlk : meth.locks = false)  (D : Dm) (h : f_X12_steps  D = some (r, D')) : BI G tA z E p l e (rmC 31 0 0) s m args below meth c LAY D r D' 3 0 [(0, .ref (z + 281))] [] := by
  obtain ⟨hx, hb, -, hown, hts, -⟩ := id O
  unfold f_X12_steps at h
  intro H locs ls hH hl
  refine lv_aload_n hx hb dX12_steps_0 rfl (lv_at hl 0 rfl) ?_
  obtain ⟨D1, hc2, h⟩ := bV_some h
  refine h_callVv (As := []) (rest := []) O hH (c_X12_lays hc2) ml_X12_554 ly_281 rfl rfl hl.1 rfl ⟨Nat.le_of_ble_eq_true rfl, Nat.le_of_ble_eq_true rfl⟩ (Nat.le_of_ble_eq_true rfl) dX12_steps_1 (fun H locs hH => ?_)
  refine lv_aload_n hx hb dX12_steps_4 rfl (lv_at hl 0 rfl) ?_
  refine h_geti O hH ly_281 rfl fl_X12_440 dX12_steps_5 ?_
  refine lv_if_eq (tgt := 54) hx hb dX12_steps_8 (by decide) (fun c3 => ?_) (fun c3 => ?_)
  · have h := it_pos h c3
    exact w_X12_steps_54 O hr hlk _ h _ _ _ hH (lv_sub hl [0] rfl)
  · have h := it_neg h c3
    refine lv_aload_n hx hb dX12_steps_11 rfl (lv_at hl 0 rfl) ?_
    refine h_geti O hH ly_281 rfl fl_X12_440 dX12_steps_12 ?_
    refine lv_iconst (v := 1) hx hb dX12_steps_15 (by decide) ?_
    refine lv_icmp_ne (tgt := 29) hx hb dX12_steps_16 (by decide) (fun c4 => ?_) (fun c4 => ?_)
    · have h := it_neg h c4
      refine lv_aload_n hx hb dX12_steps_29 rfl (lv_at hl 0 rfl) ?_
      refine h_geti O hH ly_281 rfl fl_X12_440 dX12_steps_30 ?_
      refine lv_iconst (v := 2) hx hb dX12_steps_33 (by decide) ?_
      refine lv_icmp_ne (tgt := 47) hx hb dX12_steps_34 (by decide) (fun c5 => ?_) (fun c5 => ?_)
      · have h := it_neg h c5
        refine lv_aload_n hx hb dX12_steps_47 rfl (lv_at hl 0 rfl) ?_
        obtain ⟨y8, D6, hc7, h⟩ := bI_some h
        refine h_callVi (As := []) (rest := []) O hH (c_X12_addsSplit hc7) ml_X12_563 ly_281 rfl rfl hl.1 rfl ⟨Nat.le_of_ble_eq_true rfl, Nat.le_of_ble_eq_true rfl⟩ (Nat.le_of_ble_eq_true rfl) dX12_steps_48 (fun H locs hH => ?_)
        refine lv_if_eq (tgt := 58) hx hb dX12_steps_51 (by decide) (fun c9 => ?_) (fun c9 => ?_)
        · have h := it_pos h c9
          exact w_X12_steps_58 O hr hlk _ h _ _ _ hH (lv_sub hl [0] rfl)
        · have h := it_neg h c9
          exact w_X12_steps_54 O hr hlk _ h _ _ _ hH (lv_sub hl [0] rfl)
      · have h := it_pos h c5
        refine lv_aload_n hx hb dX12_steps_37 rfl (lv_at hl 0 rfl) ?_
        obtain ⟨y12, D10, hc11, h⟩ := bI_some h
        refine h_callVi (As := []) (rest := []) O hH (c_X12_addsShort hc11) ml_X12_560 ly_281 rfl rfl hl.1 rfl ⟨Nat.le_of_ble_eq_true rfl, Nat.le_of_ble_eq_true rfl⟩ (Nat.le_of_ble_eq_true rfl) dX12_steps_38 (fun H locs hH => ?_)
        refine lv_if_eq (tgt := 58) hx hb dX12_steps_41 (by decide) (fun c13 => ?_) (fun c13 => ?_)
        · have h := it_pos h c13
          exact w_X12_steps_58 O hr hlk _ h _ _ _ hH (lv_sub hl [0] rfl)
        · have h := it_neg h c13
          refine lv_goto (tgt := 54) hx hb dX12_steps_44 (by decide) ?_
          exact w_X12_steps_54 O hr hlk _ h _ _ _ hH (lv_sub hl [0] rfl)
    · have h := it_pos h c4
      refine lv_aload_n hx hb dX12_steps_19 rfl (lv_at hl 0 rfl) ?_
      obtain ⟨y16, D14, hc15, h⟩ := bI_some h
      refine h_callVi (As := []) (rest := []) O hH (c_X12_addsShown hc15) ml_X12_557 ly_281 rfl rfl hl.1 rfl ⟨Nat.le_of_ble_eq_true rfl, Nat.le_of_ble_eq_true rfl⟩ (Nat.le_of_ble_eq_true rfl) dX12_steps_20 (fun H locs hH => ?_)
      refine lv_if_eq (tgt := 58) hx hb dX12_steps_23 (by decide) (fun c17 => ?_) (fun c17 => ?_)
      · have h := it_pos h c17
        exact w_X12_steps_58 O hr hlk _ h _ _ _ hH (lv_sub hl [0] rfl)
      · have h := it_neg h c17
        refine lv_goto (tgt := 54) hx hb dX12_steps_26 (by decide) ?_
        exact w_X12_steps_54 O hr hlk _ h _ _ _ hH (lv_sub hl [0] rfl)
set_option maxHeartbeats 4000000 in
theorem c_X12_steps {l : Launch} {G : va_G} {tA : Nat → ClassId} {z : Nat} {E : Ex}  {D D' : Dm} {r : Int32} (h : f_X12_steps  D = some (r, D')) : CtI l yX12_steps cX12_steps 3 (some .int) G tA z E 31 0 0 [.ref (z + 281)] LAY D r LAY D' :=
  ct_BI (by decide +kernel) (Nat.le_of_ble_eq_true rfl) (fun _ _ _ _ _ _ _ _ O hr hlk => w_X12_steps O hr hlk  _ h)
set_option maxHeartbeats 4000000 in
theorem w_X12_isLong_26 {G : va_G} {tA : Nat → ClassId} {z : Nat} {E : Ex} {p : Program} {l : Launch} {e : Env} {s : State} {m : MethodId} {args : Array Value} {below : List Frame} {meth : Method} {c : Code} {r : Int32} {D' : Dm} (O : Ok G tA z E cX12_isLong RX12 1 p s m args c) (hr : meth.sig.returnType = some .boolean) (hlk : meth.locks = false)  (D : Dm) (h : f_X12_isLong_26  D = some (r, D')) : BI G tA z E p l e (rmC 2 0 0) s m args below meth c LAY D r D' 1 26 [] [] := by
  obtain ⟨hx, hb, -, hown, hts, -⟩ := id O
  unfold f_X12_isLong_26 at h
  intro H locs ls hH hl
  refine lv_iconst (v := 1) hx hb dX12_isLong_26 (by decide) ?_
  refine lv_goto (tgt := 31) hx hb dX12_isLong_27 (by decide) ?_
  obtain ⟨rfl, rfl⟩ := ret_i h
  exact h_zret O hr hlk zb_1 hH dX12_isLong_31
set_option maxHeartbeats 4000000 in
theorem w_X12_isLong {G : va_G} {tA : Nat → ClassId} {z : Nat} {E : Ex} {p : Program} {l : Launch} {e : Env} {s : State} {m : MethodId} {args : Array Value} {below : List Frame} {meth : Method} {c : Code} {r : Int32} {D' : Dm} (O : Ok G tA z E cX12_isLong RX12 1 p s m args c) (hr : meth.sig.returnType = some .boolean) (hlk : meth.locks = false)  (D : Dm) (h : f_X12_isLong  D = some (r, D')) : BI G tA z E p l e (rmC 2 0 0) s m args below meth c LAY D r D' 1 0 [(0, .ref (z + 281))] [] := by
  obtain ⟨hx, hb, -, hown, hts, -⟩ := id O
  unfold f_X12_isLong at h
  intro H locs ls hH hl
  refine lv_aload_n hx hb dX12_isLong_0 rfl (lv_at hl 0 rfl) ?_
  refine h_geti O hH ly_281 rfl fl_X12_319 dX12_isLong_1 ?_
  refine lv_bipush (v := 6) hx hb dX12_isLong_4 (by decide) ?_
  refine lv_icmp_gt (tgt := 26) hx hb dX12_isLong_6 (by decide) (fun c1 => ?_) (fun c1 => ?_)
  · have h := it_pos h c1
    exact w_X12_isLong_26 O hr hlk _ h _ _ _ hH (lv_sub hl [] rfl)
  · have h := it_neg h c1
    refine lv_aload_n hx hb dX12_isLong_9 rfl (lv_at hl 0 rfl) ?_
    refine lv_aload_n hx hb dX12_isLong_10 rfl (lv_at hl 0 rfl) ?_
    refine h_getr O hH ly_281 rfl fl_X12_72 dX12_isLong_11 ?_
    refine lv_iconst (v := 0) hx hb dX12_isLong_14 (by decide) ?_
    refine lv_aload_n hx hb dX12_isLong_15 rfl (lv_at hl 0 rfl) ?_
    refine h_geti O hH ly_281 rfl fl_X12_319 dX12_isLong_16 ?_
    obtain ⟨y4, D2, hc3, h⟩ := bI_some h
    refine h_callVi (As := [.ref (z + 300), .int 0, .int (D 281 36)]) (rest := []) O hH (c_X12_namesOf ly_300 hc3) ml_X12_328 ly_281 rfl rfl hl.1 rfl ⟨Nat.le_of_ble_eq_true rfl, Nat.le_of_ble_eq_true rfl⟩ (Nat.le_of_ble_eq_true rfl) dX12_isLong_19 (fun H locs hH => ?_)
    refine lv_iconst (v := 4) hx hb dX12_isLong_22 (by decide) ?_
    refine lv_icmp_le (tgt := 30) hx hb dX12_isLong_23 (by decide) (fun c5 => ?_) (fun c5 => ?_)
    · have h := it_pos h c5
      refine lv_iconst (v := 0) hx hb dX12_isLong_30 (by decide) ?_
      obtain ⟨rfl, rfl⟩ := ret_i h
      exact h_zret O hr hlk zb_0 hH dX12_isLong_31
    · have h := it_neg h c5
      exact w_X12_isLong_26 O hr hlk _ h _ _ _ hH (lv_sub hl [] rfl)
set_option maxHeartbeats 4000000 in
theorem c_X12_isLong {l : Launch} {G : va_G} {tA : Nat → ClassId} {z : Nat} {E : Ex}  {D D' : Dm} {r : Int32} (h : f_X12_isLong  D = some (r, D')) : CtI l yX12_isLong cX12_isLong 1 (some .boolean) G tA z E 2 0 0 [.ref (z + 281)] LAY D r LAY D' :=
  ct_BI (by decide +kernel) (Nat.le_of_ble_eq_true rfl) (fun _ _ _ _ _ _ _ _ O hr hlk => w_X12_isLong O hr hlk  _ h)
set_option maxHeartbeats 4000000 in
theorem w_X12_remembered {G : va_G} {tA : Nat → ClassId} {z : Nat} {E : Ex} {p : Program} {l : Launch} {e : Env} {s : State} {m : MethodId} {args : Array Value} {below : List Frame} {meth : Method} {c : Code} {r : Int32} {D' : Dm} (O : Ok G tA z E cX12_remembered RX12 1 p s m args c) (hr : meth.sig.returnType = some .int) (hlk : meth.locks = false)  (D : Dm) (h : f_X12_remembered  D = some (r, D')) : BI G tA z E p l e (rmC 25 0 0) s m args below meth c LAY D r D' 1 0 [(0, .ref (z + 281))] [] := by
  obtain ⟨hx, hb, -, hown, hts, -⟩ := id O
  unfold f_X12_remembered at h
  intro H locs ls hH hl
  refine lv_aload_n hx hb dX12_remembered_0 rfl (lv_at hl 0 rfl) ?_
  refine lv_iconst (v := 0) hx hb dX12_remembered_1 (by decide) ?_
  obtain ⟨D1, e2, h⟩ := lt_some h
  refine h_puti O hH ly_281 rfl fl_X12_1 e2 dX12_remembered_2 (fun H locs hH => ?_)
  refine lv_aload_n hx hb dX12_remembered_5 rfl (lv_at hl 0 rfl) ?_
  obtain ⟨D3, hc4, h⟩ := bV_some h
  refine h_callVv (As := []) (rest := []) O hH (c_X12_takesTold hc4) ml_X12_566 ly_281 rfl rfl hl.1 rfl ⟨Nat.le_of_ble_eq_true rfl, Nat.le_of_ble_eq_true rfl⟩ (Nat.le_of_ble_eq_true rfl) dX12_remembered_6 (fun H locs hH => ?_)
  refine lv_aload_n hx hb dX12_remembered_9 rfl (lv_at hl 0 rfl) ?_
  obtain ⟨y7, D5, hc6, h⟩ := bI_some h
  refine h_callVi (As := []) (rest := []) O hH (c_X12_isLong hc6) ml_X12_569 ly_281 rfl rfl hl.1 rfl ⟨Nat.le_of_ble_eq_true rfl, Nat.le_of_ble_eq_true rfl⟩ (Nat.le_of_ble_eq_true rfl) dX12_remembered_10 (fun H locs hH => ?_)
  refine lv_if_eq (tgt := 21) hx hb dX12_remembered_13 (by decide) (fun c8 => ?_) (fun c8 => ?_)
  · have h := it_pos h c8
    refine lv_aload_n hx hb dX12_remembered_21 rfl (lv_at hl 0 rfl) ?_
    refine lv_iconst (v := 0) hx hb dX12_remembered_22 (by decide) ?_
    refine lv_iconst (v := 0) hx hb dX12_remembered_23 (by decide) ?_
    obtain ⟨y11, D9, hc10, h⟩ := bI_some h
    refine h_callVi (As := [.int 0, .int 0]) (rest := []) O hH (c_X12_remembers hc10) ml_X12_375 ly_281 rfl rfl hl.1 rfl ⟨Nat.le_of_ble_eq_true rfl, Nat.le_of_ble_eq_true rfl⟩ (Nat.le_of_ble_eq_true rfl) dX12_remembered_24 (fun H locs hH => ?_)
    obtain ⟨rfl, rfl⟩ := ret_i h
    exact h_iret O hr hlk hH dX12_remembered_27
  · have h := it_neg h c8
    refine lv_bipush (v := (-4)) hx hb dX12_remembered_16 (by decide) ?_
    refine lv_goto (tgt := 27) hx hb dX12_remembered_18 (by decide) ?_
    obtain ⟨rfl, rfl⟩ := ret_i h
    exact h_iret O hr hlk hH dX12_remembered_27
set_option maxHeartbeats 4000000 in
theorem c_X12_remembered {l : Launch} {G : va_G} {tA : Nat → ClassId} {z : Nat} {E : Ex}  {D D' : Dm} {r : Int32} (h : f_X12_remembered  D = some (r, D')) : CtI l yX12_remembered cX12_remembered 1 (some .int) G tA z E 25 0 0 [.ref (z + 281)] LAY D r LAY D' :=
  ct_BI (by decide +kernel) (Nat.le_of_ble_eq_true rfl) (fun _ _ _ _ _ _ _ _ O hr hlk => w_X12_remembered O hr hlk  _ h)
set_option maxHeartbeats 4000000 in
theorem w_X12_alike_94 {G : va_G} {tA : Nat → ClassId} {z : Nat} {E : Ex} {p : Program} {l : Launch} {e : Env} {s : State} {m : MethodId} {args : Array Value} {below : List Frame} {meth : Method} {c : Code} {r : Int32} {D' : Dm} (O : Ok G tA z E cX12_alike RX12 6 p s m args c) (hr : meth.sig.returnType = some .int) (hlk : meth.locks = false) {k65 : Int32 → Int32 → Int32 → Int32 → Dm → Option (Int32 × Dm)} (hk65 : ∀ (x2 : Int32) (x3 : Int32) (x4 : Int32) (x5 : Int32) (D : Dm), k65 x2 x3 x4 x5 D = some (r, D') → BI G tA z E p l e (rmC 28 0 0) s m args below meth c LAY D r D' 6 65 [(2, .int x2), (3, .int x3), (4, .int x4), (5, .int x5)] []) (x2 : Int32) (x3 : Int32) (x5 : Int32) (xs0 : Int32) (xs1 : Int32) (D : Dm) (h : f_X12_alike_94 k65 x2 x3 x5 xs0 xs1 D = some (r, D')) : BI G tA z E p l e (rmC 28 0 0) s m args below meth c LAY D r D' 6 94 [(2, .int x2), (3, .int x3), (5, .int x5)] [.int xs0, .int xs1] := by
  obtain ⟨hx, hb, -, hown, hts, -⟩ := id O
  unfold f_X12_alike_94 at h
  intro H locs ls hH hl
  refine lv_iadd hx hb dX12_alike_94 ?_
  refine lv_topi (fun y1 e2 => ?_)
  have h := lt_at e2 h
  refine lv_istore (lv' := [(4, .int y1), (2, .int x2), (3, .int x3), (5, .int x5)]) hx hb dX12_alike_95 hl (by decide) rfl (fun ls hl => ?_)
  obtain ⟨y3, e4, h⟩ := lt_some h
  refine lv_iinc (v := y3) (lv' := [(5, .int y3), (4, .int y1), (2, .int x2), (3, .int x3)]) hx hb dX12_alike_97 hl (k := 3) rfl (by rw [e4]; rfl) (by decide) rfl (fun ls hl => ?_)
  refine lv_goto (tgt := 65) hx hb dX12_alike_100 (by decide) ?_
  exact hk65 _ _ _ _ _ h _ _ _ hH (lv_sub hl [2, 3, 1, 0] rfl)
set_option maxHeartbeats 4000000 in
theorem w_X12_alike_65_b {G : va_G} {tA : Nat → ClassId} {z : Nat} {E : Ex} {p : Program} {l : Launch} {e : Env} {s : State} {m : MethodId} {args : Array Value} {below : List Frame} {meth : Method} {c : Code} {r : Int32} {D' : Dm} (O : Ok G tA z E cX12_alike RX12 6 p s m args c) (hr : meth.sig.returnType = some .int) (hlk : meth.locks = false) {k65 : Int32 → Int32 → Int32 → Int32 → Dm → Option (Int32 × Dm)} (hk65 : ∀ (x2 : Int32) (x3 : Int32) (x4 : Int32) (x5 : Int32) (D : Dm), k65 x2 x3 x4 x5 D = some (r, D') → BI G tA z E p l e (rmC 28 0 0) s m args below meth c LAY D r D' 6 65 [(2, .int x2), (3, .int x3), (4, .int x4), (5, .int x5)] []) (x2 : Int32) (x3 : Int32) (x4 : Int32) (x5 : Int32) (D : Dm) (h : f_X12_alike_65_b k65 x2 x3 x4 x5 D = some (r, D')) : BI G tA z E p l e (rmC 28 0 0) s m args below meth c LAY D r D' 6 65 [(2, .int x2), (3, .int x3), (4, .int x4), (5, .int x5)] [] := by
  obtain ⟨hx, hb, -, hown, hts, -⟩ := id O
  unfold f_X12_alike_65_b at h
  intro H locs ls hH hl
  refine lv_iload hx hb dX12_alike_65 (lv_at hl 3 rfl) ?_
  refine lv_iload_n hx hb dX12_alike_67 rfl (lv_at hl 0 rfl) ?_
  obtain ⟨y3, D1, hc2, h⟩ := bI_some h
  refine h_callSi (As := [.int x2]) (rest := [.int x5]) O hH (c_X12_bits hc2) ml_X12_410 rfl hl.1 rfl ⟨Nat.le_of_ble_eq_true rfl, Nat.le_of_ble_eq_true rfl⟩ (Nat.le_of_ble_eq_true rfl) dX12_alike_68 (fun H locs hH => ?_)
  refine lv_icmp_ge (tgt := 103) hx hb dX12_alike_71 (by decide) (fun c4 => ?_) (fun c4 => ?_)
  · have h := it_pos h c4
    refine lv_iload hx hb dX12_alike_103 (lv_at hl 2 rfl) ?_
    obtain ⟨rfl, rfl⟩ := ret_i h
    exact h_iret O hr hlk hH dX12_alike_105
  · have h := it_neg h c4
    refine lv_bipush (v := 10) hx hb dX12_alike_74 (by decide) ?_
    refine lv_iload hx hb dX12_alike_76 (lv_at hl 2 rfl) ?_
    refine lv_imul hx hb dX12_alike_78 ?_
    refine lv_iconst (v := 1) hx hb dX12_alike_79 (by decide) ?_
    refine lv_iadd hx hb dX12_alike_80 ?_
    refine lv_iload_n hx hb dX12_alike_81 rfl (lv_at hl 1 rfl) ?_
    refine lv_if_ne (tgt := 90) hx hb dX12_alike_82 (by decide) (fun c5 => ?_) (fun c5 => ?_)
    · have h := it_neg h c5
      refine lv_iconst (v := 1) hx hb dX12_alike_90 (by decide) ?_
      refine lv_iload hx hb dX12_alike_91 (lv_at hl 3 rfl) ?_
      refine lv_isub hx hb dX12_alike_93 ?_
      exact w_X12_alike_94 O hr hlk hk65 _ _ _ _ _ _ h _ _ _ hH (lv_sub hl [0, 1, 3] rfl)
    · have h := it_pos h c5
      refine lv_iload hx hb dX12_alike_85 (lv_at hl 3 rfl) ?_
      refine lv_goto (tgt := 94) hx hb dX12_alike_87 (by decide) ?_
      exact w_X12_alike_94 O hr hlk hk65 _ _ _ _ _ _ h _ _ _ hH (lv_sub hl [0, 1, 3] rfl)
set_option maxHeartbeats 4000000 in
theorem w_X12_alike_65 {G : va_G} {tA : Nat → ClassId} {z : Nat} {E : Ex} {p : Program} {l : Launch} {e : Env} {s : State} {m : MethodId} {args : Array Value} {below : List Frame} {meth : Method} {c : Code} {r : Int32} {D' : Dm} (O : Ok G tA z E cX12_alike RX12 6 p s m args c) (hr : meth.sig.returnType = some .int) (hlk : meth.locks = false) : ∀ (n : Nat) (x2 : Int32) (x3 : Int32) (x4 : Int32) (x5 : Int32) (D : Dm) (h : f_X12_alike_65 n x2 x3 x4 x5 D = some (r, D')), BI G tA z E p l e (rmC 28 0 0) s m args below meth c LAY D r D' 6 65 [(2, .int x2), (3, .int x3), (4, .int x4), (5, .int x5)] [] := by
  intro n
  induction n with
  | zero => intro x2 x3 x4 x5 D h; exact no_some h
  | succ n ih => intro x2 x3 x4 x5 D h; exact w_X12_alike_65_b O hr hlk (fun x2 x3 x4 x5 D h => ih x2 x3 x4 x5 D h) x2 x3 x4 x5 D h
set_option maxHeartbeats 4000000 in
theorem w_X12_alike {G : va_G} {tA : Nat → ClassId} {z : Nat} {E : Ex} {p : Program} {l : Launch} {e : Env} {s : State} {m : MethodId} {args : Array Value} {below : List Frame} {meth : Method} {c : Code} {r : Int32} {D' : Dm} (O : Ok G tA z E cX12_alike RX12 6 p s m args c) (hr : meth.sig.returnType = some .int) (hlk : meth.locks = false) (x1 : Int32) (D : Dm) (h : f_X12_alike x1 D = some (r, D')) : BI G tA z E p l e (rmC 28 0 0) s m args below meth c LAY D r D' 6 0 [(0, .ref (z + 281)), (1, .int x1)] [] := by
  obtain ⟨hx, hb, -, hown, hts, -⟩ := id O
  unfold f_X12_alike at h
  intro H locs ls hH hl
  refine lv_aload_n hx hb dX12_alike_0 rfl (lv_at hl 0 rfl) ?_
  refine lv_iconst (v := 0) hx hb dX12_alike_1 (by decide) ?_
  obtain ⟨D1, e2, h⟩ := lt_some h
  refine h_puti O hH ly_281 rfl fl_X12_1 e2 dX12_alike_2 (fun H locs hH => ?_)
  refine lv_iload_n hx hb dX12_alike_5 rfl (lv_at hl 1 rfl) ?_
  refine lv_i2l hx hb dX12_alike_6 rfl ?_
  refine lv_lconst (v := 0) hx hb dX12_alike_7 (by decide) ?_
  refine lv_aload_n hx hb dX12_alike_8 rfl (lv_at hl 0 rfl) ?_
  refine h_geti O hH ly_281 rfl fl_X12_310 dX12_alike_9 ?_
  refine lv_iconst (v := 1) hx hb dX12_alike_12 (by decide) ?_
  refine lv_isub hx hb dX12_alike_13 ?_
  refine lv_i2l hx hb dX12_alike_14 rfl ?_
  obtain ⟨y5, D3, hc4, h⟩ := bI_some h
  refine h_callSi (As := [.long (Int32.toInt64 x1), .long 0, .long (Int32.toInt64 ((D1 281 27) - 1))]) (rest := []) O hH (c_X12_isIn hc4) ml_X12_182 rfl hl.1 rfl ⟨Nat.le_of_ble_eq_true rfl, Nat.le_of_ble_eq_true rfl⟩ (Nat.le_of_ble_eq_true rfl) dX12_alike_15 (fun H locs hH => ?_)
  refine lv_if_ne (tgt := 24) hx hb dX12_alike_18 (by decide) (fun c6 => ?_) (fun c6 => ?_)
  · have h := it_neg h c6
    refine lv_aload_n hx hb dX12_alike_24 rfl (lv_at hl 0 rfl) ?_
    obtain ⟨D7, hc8, h⟩ := bV_some h
    refine h_callVv (As := []) (rest := []) O hH (c_X12_takesTold hc8) ml_X12_566 ly_281 rfl rfl hl.1 rfl ⟨Nat.le_of_ble_eq_true rfl, Nat.le_of_ble_eq_true rfl⟩ (Nat.le_of_ble_eq_true rfl) dX12_alike_25 (fun H locs hH => ?_)
    refine lv_aload_n hx hb dX12_alike_28 rfl (lv_at hl 0 rfl) ?_
    obtain ⟨y11, D9, hc10, h⟩ := bI_some h
    refine h_callVi (As := []) (rest := []) O hH (c_X12_isLong hc10) ml_X12_569 ly_281 rfl rfl hl.1 rfl ⟨Nat.le_of_ble_eq_true rfl, Nat.le_of_ble_eq_true rfl⟩ (Nat.le_of_ble_eq_true rfl) dX12_alike_29 (fun H locs hH => ?_)
    refine lv_if_eq (tgt := 38) hx hb dX12_alike_32 (by decide) (fun c12 => ?_) (fun c12 => ?_)
    · have h := it_pos h c12
      refine lv_aload_n hx hb dX12_alike_38 rfl (lv_at hl 0 rfl) ?_
      refine lv_iconst (v := 0) hx hb dX12_alike_39 (by decide) ?_
      refine lv_iconst (v := 0) hx hb dX12_alike_40 (by decide) ?_
      obtain ⟨y15, D13, hc14, h⟩ := bI_some h
      refine h_callVi (As := [.int 0, .int 0]) (rest := []) O hH (c_X12_remembers hc14) ml_X12_375 ly_281 rfl rfl hl.1 rfl ⟨Nat.le_of_ble_eq_true rfl, Nat.le_of_ble_eq_true rfl⟩ (Nat.le_of_ble_eq_true rfl) dX12_alike_41 (fun H locs hH => ?_)
      refine lv_istore_n (lv' := [(2, .int y15), (0, .ref (z + 281)), (1, .int x1)]) hx hb dX12_alike_44 rfl hl (by decide) rfl (fun ls hl => ?_)
      refine lv_aload_n hx hb dX12_alike_45 rfl (lv_at hl 1 rfl) ?_
      refine lv_iload_n hx hb dX12_alike_46 rfl (lv_at hl 0 rfl) ?_
      refine lv_iload_n hx hb dX12_alike_47 rfl (lv_at hl 2 rfl) ?_
      obtain ⟨y18, D16, hc17, h⟩ := bI_some h
      refine h_callVi (As := [.int y15, .int x1]) (rest := []) O hH (c_X12_wayTo hc17) ml_X12_425 ly_281 rfl rfl hl.1 rfl ⟨Nat.le_of_ble_eq_true rfl, Nat.le_of_ble_eq_true rfl⟩ (Nat.le_of_ble_eq_true rfl) dX12_alike_48 (fun H locs hH => ?_)
      refine lv_istore_n (lv' := [(3, .int y18), (2, .int y15), (0, .ref (z + 281)), (1, .int x1)]) hx hb dX12_alike_51 rfl hl (by decide) rfl (fun ls hl => ?_)
      refine lv_iload_n hx hb dX12_alike_52 rfl (lv_at hl 0 rfl) ?_
      refine lv_iconst (v := (-1)) hx hb dX12_alike_53 (by decide) ?_
      refine lv_icmp_ne (tgt := 59) hx hb dX12_alike_54 (by decide) (fun c19 => ?_) (fun c19 => ?_)
      · have h := it_neg h c19
        refine lv_iconst (v := 0) hx hb dX12_alike_59 (by decide) ?_
        refine lv_istore (lv' := [(4, .int 0), (3, .int y18), (2, .int y15), (0, .ref (z + 281)), (1, .int x1)]) hx hb dX12_alike_60 hl (by decide) rfl (fun ls hl => ?_)
        refine lv_iconst (v := 0) hx hb dX12_alike_62 (by decide) ?_
        refine lv_istore (lv' := [(5, .int 0), (4, .int 0), (3, .int y18), (2, .int y15), (0, .ref (z + 281)), (1, .int x1)]) hx hb dX12_alike_63 hl (by decide) rfl (fun ls hl => ?_)
        exact w_X12_alike_65 O hr hlk FU _ _ _ _ _ h _ _ _ hH (lv_sub hl [3, 2, 1, 0] rfl)
      · have h := it_pos h c19
        refine lv_iconst (v := (-1)) hx hb dX12_alike_57 (by decide) ?_
        obtain ⟨rfl, rfl⟩ := ret_i h
        exact h_iret O hr hlk hH dX12_alike_58
    · have h := it_neg h c12
      refine lv_bipush (v := (-4)) hx hb dX12_alike_35 (by decide) ?_
      obtain ⟨rfl, rfl⟩ := ret_i h
      exact h_iret O hr hlk hH dX12_alike_37
  · have h := it_pos h c6
    refine lv_bipush (v := (-2)) hx hb dX12_alike_21 (by decide) ?_
    obtain ⟨rfl, rfl⟩ := ret_i h
    exact h_iret O hr hlk hH dX12_alike_23
set_option maxHeartbeats 4000000 in
theorem c_X12_alike {l : Launch} {G : va_G} {tA : Nat → ClassId} {z : Nat} {E : Ex} {x1 : Int32} {D D' : Dm} {r : Int32} (h : f_X12_alike x1 D = some (r, D')) : CtI l yX12_alike cX12_alike 6 (some .int) G tA z E 28 0 0 [.ref (z + 281), .int x1] LAY D r LAY D' :=
  ct_BI (by decide +kernel) (Nat.le_of_ble_eq_true rfl) (fun _ _ _ _ _ _ _ _ O hr hlk => w_X12_alike O hr hlk _ _ h)
set_option maxHeartbeats 4000000 in
theorem w_X12_begin {G : va_G} {tA : Nat → ClassId} {z : Nat} {E : Ex} {p : Program} {l : Launch} {e : Env} {s : State} {m : MethodId} {args : Array Value} {below : List Frame} {meth : Method} {c : Code} {r : Int32} {D' : Dm} (O : Ok G tA z E cX12_begin RX12 2 p s m args c) (hr : meth.sig.returnType = some .int) (hlk : meth.locks = false)  (D : Dm) (h : f_X12_begin  D = some (r, D')) : BI G tA z E p l e (rmC 2 0 0) s m args below meth c LAY D r D' 2 0 [(0, .ref (z + 281))] [] := by
  obtain ⟨hx, hb, -, hown, hts, -⟩ := id O
  unfold f_X12_begin at h
  intro H locs ls hH hl
  refine lv_aload_n hx hb dX12_begin_0 rfl (lv_at hl 0 rfl) ?_
  refine lv_iconst (v := 0) hx hb dX12_begin_1 (by decide) ?_
  obtain ⟨D1, e2, h⟩ := lt_some h
  refine h_puti O hH ly_281 rfl fl_X12_1 e2 dX12_begin_2 (fun H locs hH => ?_)
  refine lv_aload_n hx hb dX12_begin_5 rfl (lv_at hl 0 rfl) ?_
  refine h_geti O hH ly_281 rfl fl_X12_310 dX12_begin_6 ?_
  refine lv_aload_n hx hb dX12_begin_9 rfl (lv_at hl 0 rfl) ?_
  refine h_geti O hH ly_281 rfl fl_X12_313 dX12_begin_10 ?_
  refine lv_iadd hx hb dX12_begin_13 ?_
  refine lv_topi (fun y3 e4 => ?_)
  have h := lt_at e4 h
  refine lv_istore_n (lv' := [(1, .int y3), (0, .ref (z + 281))]) hx hb dX12_begin_14 rfl hl (by decide) rfl (fun ls hl => ?_)
  refine lv_aload_n hx hb dX12_begin_15 rfl (lv_at hl 1 rfl) ?_
  obtain ⟨D5, hc6, h⟩ := bV_some h
  refine h_callVv (As := []) (rest := []) O hH (c_X12_resets hc6) ml_X12_132 ly_281 rfl rfl hl.1 rfl ⟨Nat.le_of_ble_eq_true rfl, Nat.le_of_ble_eq_true rfl⟩ (Nat.le_of_ble_eq_true rfl) dX12_begin_16 (fun H locs hH => ?_)
  refine lv_iload_n hx hb dX12_begin_19 rfl (lv_at hl 0 rfl) ?_
  obtain ⟨rfl, rfl⟩ := ret_i h
  exact h_iret O hr hlk hH dX12_begin_20
set_option maxHeartbeats 4000000 in
theorem c_X12_begin {l : Launch} {G : va_G} {tA : Nat → ClassId} {z : Nat} {E : Ex}  {D D' : Dm} {r : Int32} (h : f_X12_begin  D = some (r, D')) : CtI l yX12_begin cX12_begin 2 (some .int) G tA z E 2 0 0 [.ref (z + 281)] LAY D r LAY D' :=
  ct_BI (by decide +kernel) (Nat.le_of_ble_eq_true rfl) (fun _ _ _ _ _ _ _ _ O hr hlk => w_X12_begin O hr hlk  _ h)
set_option maxHeartbeats 4000000 in
theorem w_X12_step {G : va_G} {tA : Nat → ClassId} {z : Nat} {E : Ex} {p : Program} {l : Launch} {e : Env} {s : State} {m : MethodId} {args : Array Value} {below : List Frame} {meth : Method} {c : Code} {r : Int32} {D' : Dm} (O : Ok G tA z E cX12_step RX12 1 p s m args c) (hr : meth.sig.returnType = some .int) (hlk : meth.locks = false)  (D : Dm) (h : f_X12_step  D = some (r, D')) : BI G tA z E p l e (rmC 32 0 0) s m args below meth c LAY D r D' 1 0 [(0, .ref (z + 281))] [] := by
  obtain ⟨hx, hb, -, hown, hts, -⟩ := id O
  unfold f_X12_step at h
  intro H locs ls hH hl
  refine lv_aload_n hx hb dX12_step_0 rfl (lv_at hl 0 rfl) ?_
  refine lv_iconst (v := 0) hx hb dX12_step_1 (by decide) ?_
  obtain ⟨D1, e2, h⟩ := lt_some h
  refine h_puti O hH ly_281 rfl fl_X12_1 e2 dX12_step_2 (fun H locs hH => ?_)
  refine lv_aload_n hx hb dX12_step_5 rfl (lv_at hl 0 rfl) ?_
  obtain ⟨y5, D3, hc4, h⟩ := bI_some h
  refine h_callVi (As := []) (rest := []) O hH (c_X12_steps hc4) ml_X12_572 ly_281 rfl rfl hl.1 rfl ⟨Nat.le_of_ble_eq_true rfl, Nat.le_of_ble_eq_true rfl⟩ (Nat.le_of_ble_eq_true rfl) dX12_step_6 (fun H locs hH => ?_)
  obtain ⟨rfl, rfl⟩ := ret_i h
  exact h_iret O hr hlk hH dX12_step_9
set_option maxHeartbeats 4000000 in
theorem c_X12_step {l : Launch} {G : va_G} {tA : Nat → ClassId} {z : Nat} {E : Ex}  {D D' : Dm} {r : Int32} (h : f_X12_step  D = some (r, D')) : CtI l yX12_step cX12_step 1 (some .int) G tA z E 32 0 0 [.ref (z + 281)] LAY D r LAY D' :=
  ct_BI (by decide +kernel) (Nat.le_of_ble_eq_true rfl) (fun _ _ _ _ _ _ _ _ O hr hlk => w_X12_step O hr hlk  _ h)
set_option maxHeartbeats 4000000 in
theorem w_X12_learn_7_b {G : va_G} {tA : Nat → ClassId} {z : Nat} {E : Ex} {p : Program} {l : Launch} {e : Env} {s : State} {m : MethodId} {args : Array Value} {below : List Frame} {meth : Method} {c : Code} {r : Int32} {D' : Dm} (O : Ok G tA z E cX12_learn RX12 3 p s m args c) (hr : meth.sig.returnType = some .int) (hlk : meth.locks = false) {k7 : Int32 → Dm → Option (Int32 × Dm)} (hk7 : ∀ (x1 : Int32) (D : Dm), k7 x1 D = some (r, D') → BI G tA z E p l e (rmC 32 0 0) s m args below meth c LAY D r D' 3 7 [(0, .ref (z + 281)), (1, .int x1)] []) (x1 : Int32) (D : Dm) (h : f_X12_learn_7_b k7 x1 D = some (r, D')) : BI G tA z E p l e (rmC 32 0 0) s m args below meth c LAY D r D' 3 7 [(0, .ref (z + 281)), (1, .int x1)] [] := by
  obtain ⟨hx, hb, -, hown, hts, -⟩ := id O
  unfold f_X12_learn_7_b at h
  intro H locs ls hH hl
  refine lv_iload_n hx hb dX12_learn_7 rfl (lv_at hl 1 rfl) ?_
  refine lv_bipush (v := 40) hx hb dX12_learn_8 (by decide) ?_
  refine lv_icmp_ge (tgt := 38) hx hb dX12_learn_10 (by decide) (fun c1 => ?_) (fun c1 => ?_)
  · have h := it_pos h c1
    refine lv_bipush (v := 40) hx hb dX12_learn_38 (by decide) ?_
    obtain ⟨rfl, rfl⟩ := ret_i h
    exact h_iret O hr hlk hH dX12_learn_40
  · have h := it_neg h c1
    refine lv_aload_n hx hb dX12_learn_13 rfl (lv_at hl 0 rfl) ?_
    obtain ⟨y4, D2, hc3, h⟩ := bI_some h
    refine h_callVi (As := []) (rest := []) O hH (c_X12_steps hc3) ml_X12_572 ly_281 rfl rfl hl.1 rfl ⟨Nat.le_of_ble_eq_true rfl, Nat.le_of_ble_eq_true rfl⟩ (Nat.le_of_ble_eq_true rfl) dX12_learn_14 (fun H locs hH => ?_)
    refine lv_istore_n (lv' := [(2, .int y4), (0, .ref (z + 281)), (1, .int x1)]) hx hb dX12_learn_17 rfl hl (by decide) rfl (fun ls hl => ?_)
    refine lv_iload_n hx hb dX12_learn_18 rfl (lv_at hl 0 rfl) ?_
    refine lv_if_gt (tgt := 32) hx hb dX12_learn_19 (by decide) (fun c5 => ?_) (fun c5 => ?_)
    · have h := it_pos h c5
      obtain ⟨y6, e7, h⟩ := lt_some h
      refine lv_iinc (v := y6) (lv' := [(1, .int y6), (2, .int y4), (0, .ref (z + 281))]) hx hb dX12_learn_32 hl (k := 2) rfl (by rw [e7]; rfl) (by decide) rfl (fun ls hl => ?_)
      refine lv_goto (tgt := 7) hx hb dX12_learn_35 (by decide) ?_
      exact hk7 _ _ h _ _ _ hH (lv_sub hl [2, 0] rfl)
    · have h := it_neg h c5
      refine lv_iload_n hx hb dX12_learn_22 rfl (lv_at hl 0 rfl) ?_
      refine lv_if_ge (tgt := 30) hx hb dX12_learn_23 (by decide) (fun c8 => ?_) (fun c8 => ?_)
      · have h := it_pos h c8
        refine lv_iload_n hx hb dX12_learn_30 rfl (lv_at hl 2 rfl) ?_
        obtain ⟨rfl, rfl⟩ := ret_i h
        exact h_iret O hr hlk hH dX12_learn_31
      · have h := it_neg h c8
        refine lv_iload_n hx hb dX12_learn_26 rfl (lv_at hl 0 rfl) ?_
        refine lv_goto (tgt := 31) hx hb dX12_learn_27 (by decide) ?_
        obtain ⟨rfl, rfl⟩ := ret_i h
        exact h_iret O hr hlk hH dX12_learn_31
set_option maxHeartbeats 4000000 in
theorem w_X12_learn_7 {G : va_G} {tA : Nat → ClassId} {z : Nat} {E : Ex} {p : Program} {l : Launch} {e : Env} {s : State} {m : MethodId} {args : Array Value} {below : List Frame} {meth : Method} {c : Code} {r : Int32} {D' : Dm} (O : Ok G tA z E cX12_learn RX12 3 p s m args c) (hr : meth.sig.returnType = some .int) (hlk : meth.locks = false) : ∀ (n : Nat) (x1 : Int32) (D : Dm) (h : f_X12_learn_7 n x1 D = some (r, D')), BI G tA z E p l e (rmC 32 0 0) s m args below meth c LAY D r D' 3 7 [(0, .ref (z + 281)), (1, .int x1)] [] := by
  intro n
  induction n with
  | zero => intro x1 D h; exact no_some h
  | succ n ih => intro x1 D h; exact w_X12_learn_7_b O hr hlk (fun x1 D h => ih x1 D h) x1 D h
set_option maxHeartbeats 4000000 in
theorem w_X12_learn {G : va_G} {tA : Nat → ClassId} {z : Nat} {E : Ex} {p : Program} {l : Launch} {e : Env} {s : State} {m : MethodId} {args : Array Value} {below : List Frame} {meth : Method} {c : Code} {r : Int32} {D' : Dm} (O : Ok G tA z E cX12_learn RX12 3 p s m args c) (hr : meth.sig.returnType = some .int) (hlk : meth.locks = false)  (D : Dm) (h : f_X12_learn  D = some (r, D')) : BI G tA z E p l e (rmC 32 0 0) s m args below meth c LAY D r D' 3 0 [(0, .ref (z + 281))] [] := by
  obtain ⟨hx, hb, -, hown, hts, -⟩ := id O
  unfold f_X12_learn at h
  intro H locs ls hH hl
  refine lv_aload_n hx hb dX12_learn_0 rfl (lv_at hl 0 rfl) ?_
  refine lv_iconst (v := 0) hx hb dX12_learn_1 (by decide) ?_
  obtain ⟨D1, e2, h⟩ := lt_some h
  refine h_puti O hH ly_281 rfl fl_X12_1 e2 dX12_learn_2 (fun H locs hH => ?_)
  refine lv_iconst (v := 0) hx hb dX12_learn_5 (by decide) ?_
  refine lv_istore_n (lv' := [(1, .int 0), (0, .ref (z + 281))]) hx hb dX12_learn_6 rfl hl (by decide) rfl (fun ls hl => ?_)
  exact w_X12_learn_7 O hr hlk FU _ _ h _ _ _ hH (lv_sub hl [1, 0] rfl)
set_option maxHeartbeats 4000000 in
theorem c_X12_learn {l : Launch} {G : va_G} {tA : Nat → ClassId} {z : Nat} {E : Ex}  {D D' : Dm} {r : Int32} (h : f_X12_learn  D = some (r, D')) : CtI l yX12_learn cX12_learn 3 (some .int) G tA z E 32 0 0 [.ref (z + 281)] LAY D r LAY D' :=
  ct_BI (by decide +kernel) (Nat.le_of_ble_eq_true rfl) (fun _ _ _ _ _ _ _ _ O hr hlk => w_X12_learn O hr hlk  _ h)
set_option maxHeartbeats 4000000 in
theorem w_X12_told {G : va_G} {tA : Nat → ClassId} {z : Nat} {E : Ex} {p : Program} {l : Launch} {e : Env} {s : State} {m : MethodId} {args : Array Value} {below : List Frame} {meth : Method} {c : Code} {r : Int32} {D' : Dm} (O : Ok G tA z E cX12_told RX12 6 p s m args c) (hr : meth.sig.returnType = some .int) (hlk : meth.locks = false) (r0 : Nat) (n0 : Nat) (r1 : Nat) (n1 : Nat) (r2 : Nat) (n2 : Nat) (x3 : Int32) (x4 : Int32) (x5 : Int32) (h0 : LAY[r0]? = some (.inl (0, n0))) (h1 : LAY[r1]? = some (.inl (0, n1))) (h2 : LAY[r2]? = some (.inl (0, n2))) (D : Dm) (h : f_X12_told r0 n0 r1 n1 r2 n2 x3 x4 x5 D = some (r, D')) : BI G tA z E p l e (rmC 2 0 0) s m args below meth c LAY D r D' 6 0 [(0, .ref (z + r0)), (1, .ref (z + r1)), (2, .ref (z + r2)), (3, .int x3), (4, .int x4), (5, .int x5)] [] := by
  obtain ⟨hx, hb, -, hown, hts, -⟩ := id O
  unfold f_X12_told at h
  intro H locs ls hH hl
  refine lv_iload hx hb dX12_told_0 (lv_at hl 4 rfl) ?_
  refine lv_iconst (v := (-1)) hx hb dX12_told_2 (by decide) ?_
  refine lv_icmp_ne (tgt := 20) hx hb dX12_told_3 (by decide) (fun c1 => ?_) (fun c1 => ?_)
  · have h := it_neg h c1
    refine lv_iload hx hb dX12_told_20 (lv_at hl 4 rfl) ?_
    refine lv_i2l hx hb dX12_told_22 rfl ?_
    refine lv_lconst (v := 0) hx hb dX12_told_23 (by decide) ?_
    refine lv_aload_n hx hb dX12_told_24 rfl (lv_at hl 0 rfl) ?_
    refine lv_iload_n hx hb dX12_told_25 rfl (lv_at hl 3 rfl) ?_
    obtain ⟨g2, h⟩ := gd_some h
    refine h_iald O hH h0 g2 dX12_told_26 ?_
    refine lv_iconst (v := 1) hx hb dX12_told_27 (by decide) ?_
    refine lv_isub hx hb dX12_told_28 ?_
    refine lv_i2l hx hb dX12_told_29 rfl ?_
    obtain ⟨y5, D3, hc4, h⟩ := bI_some h
    refine h_callSi (As := [.long (Int32.toInt64 x4), .long 0, .long (Int32.toInt64 ((D r0 (Int32.toNatClampNeg x3)) - 1))]) (rest := []) O hH (c_X12_isIn hc4) ml_X12_182 rfl hl.1 rfl ⟨Nat.le_of_ble_eq_true rfl, Nat.le_of_ble_eq_true rfl⟩ (Nat.le_of_ble_eq_true rfl) dX12_told_30 (fun H locs hH => ?_)
    refine lv_if_eq (tgt := 47) hx hb dX12_told_33 (by decide) (fun c6 => ?_) (fun c6 => ?_)
    · have h := it_pos h c6
      refine lv_bipush (v := (-2)) hx hb dX12_told_47 (by decide) ?_
      obtain ⟨rfl, rfl⟩ := ret_i h
      exact h_iret O hr hlk hH dX12_told_49
    · have h := it_neg h c6
      refine lv_iload hx hb dX12_told_36 (lv_at hl 5 rfl) ?_
      refine lv_i2l hx hb dX12_told_38 rfl ?_
      refine lv_lconst (v := 0) hx hb dX12_told_39 (by decide) ?_
      refine lv_lconst (v := 1) hx hb dX12_told_40 (by decide) ?_
      obtain ⟨y9, D7, hc8, h⟩ := bI_some h
      refine h_callSi (As := [.long (Int32.toInt64 x5), .long 0, .long 1]) (rest := []) O hH (c_X12_isIn hc8) ml_X12_182 rfl hl.1 rfl ⟨Nat.le_of_ble_eq_true rfl, Nat.le_of_ble_eq_true rfl⟩ (Nat.le_of_ble_eq_true rfl) dX12_told_41 (fun H locs hH => ?_)
      refine lv_if_ne (tgt := 50) hx hb dX12_told_44 (by decide) (fun c10 => ?_) (fun c10 => ?_)
      · have h := it_neg h c10
        refine lv_iload hx hb dX12_told_50 (lv_at hl 5 rfl) ?_
        refine lv_if_ne (tgt := 67) hx hb dX12_told_52 (by decide) (fun c11 => ?_) (fun c11 => ?_)
        · have h := it_neg h c11
          refine lv_aload_n hx hb dX12_told_67 rfl (lv_at hl 2 rfl) ?_
          refine lv_bipush (v := 6) hx hb dX12_told_68 (by decide) ?_
          refine lv_iload_n hx hb dX12_told_70 rfl (lv_at hl 3 rfl) ?_
          refine lv_imul hx hb dX12_told_71 ?_
          refine lv_iload hx hb dX12_told_72 (lv_at hl 4 rfl) ?_
          refine lv_iadd hx hb dX12_told_74 ?_
          obtain ⟨g12, h⟩ := gd_some h
          refine h_iald O hH h2 g12 dX12_told_75 ?_
          obtain ⟨rfl, rfl⟩ := ret_i h
          exact h_iret O hr hlk hH dX12_told_76
        · have h := it_pos h c11
          refine lv_aload_n hx hb dX12_told_55 rfl (lv_at hl 1 rfl) ?_
          refine lv_bipush (v := 6) hx hb dX12_told_56 (by decide) ?_
          refine lv_iload_n hx hb dX12_told_58 rfl (lv_at hl 3 rfl) ?_
          refine lv_imul hx hb dX12_told_59 ?_
          refine lv_iload hx hb dX12_told_60 (lv_at hl 4 rfl) ?_
          refine lv_iadd hx hb dX12_told_62 ?_
          obtain ⟨g13, h⟩ := gd_some h
          refine h_iald O hH h1 g13 dX12_told_63 ?_
          refine lv_goto (tgt := 76) hx hb dX12_told_64 (by decide) ?_
          obtain ⟨rfl, rfl⟩ := ret_i h
          exact h_iret O hr hlk hH dX12_told_76
      · have h := it_pos h c10
        refine lv_bipush (v := (-2)) hx hb dX12_told_47 (by decide) ?_
        obtain ⟨rfl, rfl⟩ := ret_i h
        exact h_iret O hr hlk hH dX12_told_49
  · have h := it_pos h c1
    refine lv_iload hx hb dX12_told_6 (lv_at hl 5 rfl) ?_
    refine lv_if_ne (tgt := 17) hx hb dX12_told_8 (by decide) (fun c14 => ?_) (fun c14 => ?_)
    · have h := it_neg h c14
      refine lv_bipush (v := (-2)) hx hb dX12_told_17 (by decide) ?_
      obtain ⟨rfl, rfl⟩ := ret_i h
      exact h_iret O hr hlk hH dX12_told_19
    · have h := it_pos h c14
      refine lv_aload_n hx hb dX12_told_11 rfl (lv_at hl 0 rfl) ?_
      refine lv_iload_n hx hb dX12_told_12 rfl (lv_at hl 3 rfl) ?_
      obtain ⟨g15, h⟩ := gd_some h
      refine h_iald O hH h0 g15 dX12_told_13 ?_
      refine lv_goto (tgt := 19) hx hb dX12_told_14 (by decide) ?_
      obtain ⟨rfl, rfl⟩ := ret_i h
      exact h_iret O hr hlk hH dX12_told_19
set_option maxHeartbeats 4000000 in
theorem c_X12_told {l : Launch} {G : va_G} {tA : Nat → ClassId} {z : Nat} {E : Ex} {r0 : Nat} {n0 : Nat} {r1 : Nat} {n1 : Nat} {r2 : Nat} {n2 : Nat} {x3 : Int32} {x4 : Int32} {x5 : Int32} (h0 : LAY[r0]? = some (.inl (0, n0))) (h1 : LAY[r1]? = some (.inl (0, n1))) (h2 : LAY[r2]? = some (.inl (0, n2))) {D D' : Dm} {r : Int32} (h : f_X12_told r0 n0 r1 n1 r2 n2 x3 x4 x5 D = some (r, D')) : CtI l yX12_told cX12_told 6 (some .int) G tA z E 2 0 0 [.ref (z + r0), .ref (z + r1), .ref (z + r2), .int x3, .int x4, .int x5] LAY D r LAY D' :=
  ct_BI (by decide +kernel) (Nat.le_of_ble_eq_true rfl) (fun _ _ _ _ _ _ _ _ O hr hlk => w_X12_told O hr hlk _ _ _ _ _ _ _ _ _ h0 h1 h2 _ h)
set_option maxHeartbeats 4000000 in
theorem w_X12_brief {G : va_G} {tA : Nat → ClassId} {z : Nat} {E : Ex} {p : Program} {l : Launch} {e : Env} {s : State} {m : MethodId} {args : Array Value} {below : List Frame} {meth : Method} {c : Code} {r : Int32} {D' : Dm} (O : Ok G tA z E cX12_brief RX12 4 p s m args c) (hr : meth.sig.returnType = some .int) (hlk : meth.locks = false) (x1 : Int32) (x2 : Int32) (x3 : Int32) (D : Dm) (h : f_X12_brief x1 x2 x3 D = some (r, D')) : BI G tA z E p l e (rmC 3 0 0) s m args below meth c LAY D r D' 4 0 [(0, .ref (z + 281)), (1, .int x1), (2, .int x2), (3, .int x3)] [] := by
  obtain ⟨hx, hb, -, hown, hts, -⟩ := id O
  unfold f_X12_brief at h
  intro H locs ls hH hl
  refine lv_aload_n hx hb dX12_brief_0 rfl (lv_at hl 0 rfl) ?_
  refine lv_iconst (v := 0) hx hb dX12_brief_1 (by decide) ?_
  obtain ⟨D1, e2, h⟩ := lt_some h
  refine h_puti O hH ly_281 rfl fl_X12_1 e2 dX12_brief_2 (fun H locs hH => ?_)
  refine lv_iload_n hx hb dX12_brief_5 rfl (lv_at hl 1 rfl) ?_
  refine lv_i2l hx hb dX12_brief_6 rfl ?_
  refine lv_lconst (v := 0) hx hb dX12_brief_7 (by decide) ?_
  refine lv_aload_n hx hb dX12_brief_8 rfl (lv_at hl 0 rfl) ?_
  refine h_geti O hH ly_281 rfl fl_X12_310 dX12_brief_9 ?_
  refine lv_iconst (v := 1) hx hb dX12_brief_12 (by decide) ?_
  refine lv_isub hx hb dX12_brief_13 ?_
  refine lv_i2l hx hb dX12_brief_14 rfl ?_
  obtain ⟨y5, D3, hc4, h⟩ := bI_some h
  refine h_callSi (As := [.long (Int32.toInt64 x1), .long 0, .long (Int32.toInt64 ((D1 281 27) - 1))]) (rest := []) O hH (c_X12_isIn hc4) ml_X12_182 rfl hl.1 rfl ⟨Nat.le_of_ble_eq_true rfl, Nat.le_of_ble_eq_true rfl⟩ (Nat.le_of_ble_eq_true rfl) dX12_brief_15 (fun H locs hH => ?_)
  refine lv_if_eq (tgt := 42) hx hb dX12_brief_18 (by decide) (fun c6 => ?_) (fun c6 => ?_)
  · have h := it_pos h c6
    refine lv_bipush (v := (-2)) hx hb dX12_brief_42 (by decide) ?_
    obtain ⟨rfl, rfl⟩ := ret_i h
    exact h_iret O hr hlk hH dX12_brief_44
  · have h := it_neg h c6
    refine lv_aload_n hx hb dX12_brief_21 rfl (lv_at hl 0 rfl) ?_
    refine h_getr O hH ly_281 rfl fl_X12_39 dX12_brief_22 ?_
    refine lv_aload_n hx hb dX12_brief_25 rfl (lv_at hl 0 rfl) ?_
    refine h_getr O hH ly_281 rfl fl_X12_42 dX12_brief_26 ?_
    refine lv_aload_n hx hb dX12_brief_29 rfl (lv_at hl 0 rfl) ?_
    refine h_getr O hH ly_281 rfl fl_X12_45 dX12_brief_30 ?_
    refine lv_iload_n hx hb dX12_brief_33 rfl (lv_at hl 1 rfl) ?_
    refine lv_iload_n hx hb dX12_brief_34 rfl (lv_at hl 2 rfl) ?_
    refine lv_iload_n hx hb dX12_brief_35 rfl (lv_at hl 3 rfl) ?_
    obtain ⟨y9, D7, hc8, h⟩ := bI_some h
    refine h_callSi (As := [.ref (z + 289), .ref (z + 290), .ref (z + 291), .int x1, .int x2, .int x3]) (rest := []) O hH (c_X12_told ly_289 ly_290 ly_291 hc8) ml_X12_575 rfl hl.1 rfl ⟨Nat.le_of_ble_eq_true rfl, Nat.le_of_ble_eq_true rfl⟩ (Nat.le_of_ble_eq_true rfl) dX12_brief_36 (fun H locs hH => ?_)
    refine lv_goto (tgt := 44) hx hb dX12_brief_39 (by decide) ?_
    obtain ⟨rfl, rfl⟩ := ret_i h
    exact h_iret O hr hlk hH dX12_brief_44
set_option maxHeartbeats 4000000 in
theorem c_X12_brief {l : Launch} {G : va_G} {tA : Nat → ClassId} {z : Nat} {E : Ex} {x1 : Int32} {x2 : Int32} {x3 : Int32} {D D' : Dm} {r : Int32} (h : f_X12_brief x1 x2 x3 D = some (r, D')) : CtI l yX12_brief cX12_brief 4 (some .int) G tA z E 3 0 0 [.ref (z + 281), .int x1, .int x2, .int x3] LAY D r LAY D' :=
  ct_BI (by decide +kernel) (Nat.le_of_ble_eq_true rfl) (fun _ _ _ _ _ _ _ _ O hr hlk => w_X12_brief O hr hlk _ _ _ _ h)
set_option maxHeartbeats 4000000 in
theorem w_X12_test {G : va_G} {tA : Nat → ClassId} {z : Nat} {E : Ex} {p : Program} {l : Launch} {e : Env} {s : State} {m : MethodId} {args : Array Value} {below : List Frame} {meth : Method} {c : Code} {r : Int32} {D' : Dm} (O : Ok G tA z E cX12_test RX12 4 p s m args c) (hr : meth.sig.returnType = some .int) (hlk : meth.locks = false) (x1 : Int32) (x2 : Int32) (x3 : Int32) (D : Dm) (h : f_X12_test x1 x2 x3 D = some (r, D')) : BI G tA z E p l e (rmC 3 0 0) s m args below meth c LAY D r D' 4 0 [(0, .ref (z + 281)), (1, .int x1), (2, .int x2), (3, .int x3)] [] := by
  obtain ⟨hx, hb, -, hown, hts, -⟩ := id O
  unfold f_X12_test at h
  intro H locs ls hH hl
  refine lv_aload_n hx hb dX12_test_0 rfl (lv_at hl 0 rfl) ?_
  refine lv_iconst (v := 0) hx hb dX12_test_1 (by decide) ?_
  obtain ⟨D1, e2, h⟩ := lt_some h
  refine h_puti O hH ly_281 rfl fl_X12_1 e2 dX12_test_2 (fun H locs hH => ?_)
  refine lv_iload_n hx hb dX12_test_5 rfl (lv_at hl 1 rfl) ?_
  refine lv_i2l hx hb dX12_test_6 rfl ?_
  refine lv_lconst (v := 0) hx hb dX12_test_7 (by decide) ?_
  refine lv_aload_n hx hb dX12_test_8 rfl (lv_at hl 0 rfl) ?_
  refine h_geti O hH ly_281 rfl fl_X12_313 dX12_test_9 ?_
  refine lv_iconst (v := 1) hx hb dX12_test_12 (by decide) ?_
  refine lv_isub hx hb dX12_test_13 ?_
  refine lv_i2l hx hb dX12_test_14 rfl ?_
  obtain ⟨y5, D3, hc4, h⟩ := bI_some h
  refine h_callSi (As := [.long (Int32.toInt64 x1), .long 0, .long (Int32.toInt64 ((D1 281 28) - 1))]) (rest := []) O hH (c_X12_isIn hc4) ml_X12_182 rfl hl.1 rfl ⟨Nat.le_of_ble_eq_true rfl, Nat.le_of_ble_eq_true rfl⟩ (Nat.le_of_ble_eq_true rfl) dX12_test_15 (fun H locs hH => ?_)
  refine lv_if_eq (tgt := 42) hx hb dX12_test_18 (by decide) (fun c6 => ?_) (fun c6 => ?_)
  · have h := it_pos h c6
    refine lv_bipush (v := (-2)) hx hb dX12_test_42 (by decide) ?_
    obtain ⟨rfl, rfl⟩ := ret_i h
    exact h_iret O hr hlk hH dX12_test_44
  · have h := it_neg h c6
    refine lv_aload_n hx hb dX12_test_21 rfl (lv_at hl 0 rfl) ?_
    refine h_getr O hH ly_281 rfl fl_X12_48 dX12_test_22 ?_
    refine lv_aload_n hx hb dX12_test_25 rfl (lv_at hl 0 rfl) ?_
    refine h_getr O hH ly_281 rfl fl_X12_51 dX12_test_26 ?_
    refine lv_aload_n hx hb dX12_test_29 rfl (lv_at hl 0 rfl) ?_
    refine h_getr O hH ly_281 rfl fl_X12_54 dX12_test_30 ?_
    refine lv_iload_n hx hb dX12_test_33 rfl (lv_at hl 1 rfl) ?_
    refine lv_iload_n hx hb dX12_test_34 rfl (lv_at hl 2 rfl) ?_
    refine lv_iload_n hx hb dX12_test_35 rfl (lv_at hl 3 rfl) ?_
    obtain ⟨y9, D7, hc8, h⟩ := bI_some h
    refine h_callSi (As := [.ref (z + 292), .ref (z + 293), .ref (z + 294), .int x1, .int x2, .int x3]) (rest := []) O hH (c_X12_told ly_292 ly_293 ly_294 hc8) ml_X12_575 rfl hl.1 rfl ⟨Nat.le_of_ble_eq_true rfl, Nat.le_of_ble_eq_true rfl⟩ (Nat.le_of_ble_eq_true rfl) dX12_test_36 (fun H locs hH => ?_)
    refine lv_goto (tgt := 44) hx hb dX12_test_39 (by decide) ?_
    obtain ⟨rfl, rfl⟩ := ret_i h
    exact h_iret O hr hlk hH dX12_test_44
set_option maxHeartbeats 4000000 in
theorem c_X12_test {l : Launch} {G : va_G} {tA : Nat → ClassId} {z : Nat} {E : Ex} {x1 : Int32} {x2 : Int32} {x3 : Int32} {D D' : Dm} {r : Int32} (h : f_X12_test x1 x2 x3 D = some (r, D')) : CtI l yX12_test cX12_test 4 (some .int) G tA z E 3 0 0 [.ref (z + 281), .int x1, .int x2, .int x3] LAY D r LAY D' :=
  ct_BI (by decide +kernel) (Nat.le_of_ble_eq_true rfl) (fun _ _ _ _ _ _ _ _ O hr hlk => w_X12_test O hr hlk _ _ _ _ h)
set_option maxHeartbeats 4000000 in
theorem w_X12_registers {G : va_G} {tA : Nat → ClassId} {z : Nat} {E : Ex} {p : Program} {l : Launch} {e : Env} {s : State} {m : MethodId} {args : Array Value} {below : List Frame} {meth : Method} {c : Code} {r : Int32} {D' : Dm} (O : Ok G tA z E cX12_registers RX12 2 p s m args c) (hr : meth.sig.returnType = some .int) (hlk : meth.locks = false) (x1 : Int32) (D : Dm) (h : f_X12_registers x1 D = some (r, D')) : BI G tA z E p l e (rmC 26 0 0) s m args below meth c LAY D r D' 2 0 [(0, .ref (z + 281)), (1, .int x1)] [] := by
  obtain ⟨hx, hb, -, hown, hts, -⟩ := id O
  unfold f_X12_registers at h
  intro H locs ls hH hl
  refine lv_aload_n hx hb dX12_registers_0 rfl (lv_at hl 0 rfl) ?_
  refine lv_iconst (v := 0) hx hb dX12_registers_1 (by decide) ?_
  obtain ⟨D1, e2, h⟩ := lt_some h
  refine h_puti O hH ly_281 rfl fl_X12_1 e2 dX12_registers_2 (fun H locs hH => ?_)
  refine lv_iload_n hx hb dX12_registers_5 rfl (lv_at hl 1 rfl) ?_
  refine lv_i2l hx hb dX12_registers_6 rfl ?_
  refine lv_lconst (v := 0) hx hb dX12_registers_7 (by decide) ?_
  refine lv_aload_n hx hb dX12_registers_8 rfl (lv_at hl 0 rfl) ?_
  refine h_geti O hH ly_281 rfl fl_X12_310 dX12_registers_9 ?_
  refine lv_iconst (v := 1) hx hb dX12_registers_12 (by decide) ?_
  refine lv_isub hx hb dX12_registers_13 ?_
  refine lv_i2l hx hb dX12_registers_14 rfl ?_
  obtain ⟨y5, D3, hc4, h⟩ := bI_some h
  refine h_callSi (As := [.long (Int32.toInt64 x1), .long 0, .long (Int32.toInt64 ((D1 281 27) - 1))]) (rest := []) O hH (c_X12_isIn hc4) ml_X12_182 rfl hl.1 rfl ⟨Nat.le_of_ble_eq_true rfl, Nat.le_of_ble_eq_true rfl⟩ (Nat.le_of_ble_eq_true rfl) dX12_registers_15 (fun H locs hH => ?_)
  refine lv_if_eq (tgt := 29) hx hb dX12_registers_18 (by decide) (fun c6 => ?_) (fun c6 => ?_)
  · have h := it_pos h c6
    refine lv_bipush (v := (-2)) hx hb dX12_registers_29 (by decide) ?_
    obtain ⟨rfl, rfl⟩ := ret_i h
    exact h_iret O hr hlk hH dX12_registers_31
  · have h := it_neg h c6
    refine lv_aload_n hx hb dX12_registers_21 rfl (lv_at hl 0 rfl) ?_
    refine lv_iload_n hx hb dX12_registers_22 rfl (lv_at hl 1 rfl) ?_
    obtain ⟨y9, D7, hc8, h⟩ := bI_some h
    refine h_callVi (As := [.int x1]) (rest := []) O hH (c_X12_hasShort hc8) ml_X12_422 ly_281 rfl rfl hl.1 rfl ⟨Nat.le_of_ble_eq_true rfl, Nat.le_of_ble_eq_true rfl⟩ (Nat.le_of_ble_eq_true rfl) dX12_registers_23 (fun H locs hH => ?_)
    refine lv_goto (tgt := 31) hx hb dX12_registers_26 (by decide) ?_
    obtain ⟨rfl, rfl⟩ := ret_i h
    exact h_iret O hr hlk hH dX12_registers_31
set_option maxHeartbeats 4000000 in
theorem c_X12_registers {l : Launch} {G : va_G} {tA : Nat → ClassId} {z : Nat} {E : Ex} {x1 : Int32} {D D' : Dm} {r : Int32} (h : f_X12_registers x1 D = some (r, D')) : CtI l yX12_registers cX12_registers 2 (some .int) G tA z E 26 0 0 [.ref (z + 281), .int x1] LAY D r LAY D' :=
  ct_BI (by decide +kernel) (Nat.le_of_ble_eq_true rfl) (fun _ _ _ _ _ _ _ _ O hr hlk => w_X12_registers O hr hlk _ _ h)
set_option maxHeartbeats 4000000 in
theorem w_X12_goes {G : va_G} {tA : Nat → ClassId} {z : Nat} {E : Ex} {p : Program} {l : Launch} {e : Env} {s : State} {m : MethodId} {args : Array Value} {below : List Frame} {meth : Method} {c : Code} {r : Int32} {D' : Dm} (O : Ok G tA z E cX12_goes RX12 5 p s m args c) (hr : meth.sig.returnType = some .int) (hlk : meth.locks = false) (x1 : Int32) (x2 : Int32) (x3 : Int32) (D : Dm) (h : f_X12_goes x1 x2 x3 D = some (r, D')) : BI G tA z E p l e (rmC 29 0 0) s m args below meth c LAY D r D' 5 0 [(0, .ref (z + 281)), (1, .int x1), (2, .int x2), (3, .int x3)] [] := by
  obtain ⟨hx, hb, -, hown, hts, -⟩ := id O
  unfold f_X12_goes at h
  intro H locs ls hH hl
  refine lv_aload_n hx hb dX12_goes_0 rfl (lv_at hl 0 rfl) ?_
  refine lv_iconst (v := 0) hx hb dX12_goes_1 (by decide) ?_
  obtain ⟨D1, e2, h⟩ := lt_some h
  refine h_puti O hH ly_281 rfl fl_X12_1 e2 dX12_goes_2 (fun H locs hH => ?_)
  refine lv_iload_n hx hb dX12_goes_5 rfl (lv_at hl 1 rfl) ?_
  refine lv_i2l hx hb dX12_goes_6 rfl ?_
  refine lv_lconst (v := 0) hx hb dX12_goes_7 (by decide) ?_
  refine lv_aload_n hx hb dX12_goes_8 rfl (lv_at hl 0 rfl) ?_
  refine h_geti O hH ly_281 rfl fl_X12_310 dX12_goes_9 ?_
  refine lv_iconst (v := 1) hx hb dX12_goes_12 (by decide) ?_
  refine lv_isub hx hb dX12_goes_13 ?_
  refine lv_i2l hx hb dX12_goes_14 rfl ?_
  obtain ⟨y5, D3, hc4, h⟩ := bI_some h
  refine h_callSi (As := [.long (Int32.toInt64 x1), .long 0, .long (Int32.toInt64 ((D1 281 27) - 1))]) (rest := []) O hH (c_X12_isIn hc4) ml_X12_182 rfl hl.1 rfl ⟨Nat.le_of_ble_eq_true rfl, Nat.le_of_ble_eq_true rfl⟩ (Nat.le_of_ble_eq_true rfl) dX12_goes_15 (fun H locs hH => ?_)
  refine lv_if_eq (tgt := 39) hx hb dX12_goes_18 (by decide) (fun c6 => ?_) (fun c6 => ?_)
  · have h := it_pos h c6
    refine lv_bipush (v := (-2)) hx hb dX12_goes_39 (by decide) ?_
    obtain ⟨rfl, rfl⟩ := ret_i h
    exact h_iret O hr hlk hH dX12_goes_41
  · have h := it_neg h c6
    refine lv_iload_n hx hb dX12_goes_21 rfl (lv_at hl 2 rfl) ?_
    refine lv_i2l hx hb dX12_goes_22 rfl ?_
    refine lv_lconst (v := 0) hx hb dX12_goes_23 (by decide) ?_
    refine lv_aload_n hx hb dX12_goes_24 rfl (lv_at hl 0 rfl) ?_
    refine lv_iconst (v := 0) hx hb dX12_goes_25 (by decide) ?_
    refine lv_iconst (v := 2) hx hb dX12_goes_26 (by decide) ?_
    obtain ⟨y9, D7, hc8, h⟩ := bI_some h
    refine h_callVi (As := [.int 0, .int 2]) (rest := [.long 0, .long (Int32.toInt64 x2)]) O hH (c_X12_its hc8) ml_X12_155 ly_281 rfl rfl hl.1 rfl ⟨Nat.le_of_ble_eq_true rfl, Nat.le_of_ble_eq_true rfl⟩ (Nat.le_of_ble_eq_true rfl) dX12_goes_27 (fun H locs hH => ?_)
    refine lv_iconst (v := 1) hx hb dX12_goes_30 (by decide) ?_
    refine lv_isub hx hb dX12_goes_31 ?_
    refine lv_i2l hx hb dX12_goes_32 rfl ?_
    obtain ⟨y12, D10, hc11, h⟩ := bI_some h
    refine h_callSi (As := [.long (Int32.toInt64 x2), .long 0, .long (Int32.toInt64 (y9 - 1))]) (rest := []) O hH (c_X12_isIn hc11) ml_X12_182 rfl hl.1 rfl ⟨Nat.le_of_ble_eq_true rfl, Nat.le_of_ble_eq_true rfl⟩ (Nat.le_of_ble_eq_true rfl) dX12_goes_33 (fun H locs hH => ?_)
    refine lv_if_ne (tgt := 42) hx hb dX12_goes_36 (by decide) (fun c13 => ?_) (fun c13 => ?_)
    · have h := it_neg h c13
      refine lv_iload_n hx hb dX12_goes_42 rfl (lv_at hl 3 rfl) ?_
      refine lv_i2l hx hb dX12_goes_43 rfl ?_
      refine lv_lconst (v := 0) hx hb dX12_goes_44 (by decide) ?_
      refine lv_aload_n hx hb dX12_goes_45 rfl (lv_at hl 0 rfl) ?_
      refine lv_iload_n hx hb dX12_goes_46 rfl (lv_at hl 1 rfl) ?_
      obtain ⟨y16, D14, hc15, h⟩ := bI_some h
      refine h_callVi (As := [.int x1]) (rest := [.long 0, .long (Int32.toInt64 x3)]) O hH (c_X12_namesOfShort hc15) ml_X12_431 ly_281 rfl rfl hl.1 rfl ⟨Nat.le_of_ble_eq_true rfl, Nat.le_of_ble_eq_true rfl⟩ (Nat.le_of_ble_eq_true rfl) dX12_goes_47 (fun H locs hH => ?_)
      refine lv_i2l hx hb dX12_goes_50 rfl ?_
      obtain ⟨y19, D17, hc18, h⟩ := bI_some h
      refine h_callSi (As := [.long (Int32.toInt64 x3), .long 0, .long (Int32.toInt64 y16)]) (rest := []) O hH (c_X12_isIn hc18) ml_X12_182 rfl hl.1 rfl ⟨Nat.le_of_ble_eq_true rfl, Nat.le_of_ble_eq_true rfl⟩ (Nat.le_of_ble_eq_true rfl) dX12_goes_51 (fun H locs hH => ?_)
      refine lv_if_ne (tgt := 60) hx hb dX12_goes_54 (by decide) (fun c20 => ?_) (fun c20 => ?_)
      · have h := it_neg h c20
        refine lv_aload_n hx hb dX12_goes_60 rfl (lv_at hl 0 rfl) ?_
        refine lv_iload_n hx hb dX12_goes_61 rfl (lv_at hl 1 rfl) ?_
        refine lv_iload_n hx hb dX12_goes_62 rfl (lv_at hl 2 rfl) ?_
        refine lv_iload_n hx hb dX12_goes_63 rfl (lv_at hl 3 rfl) ?_
        obtain ⟨y23, D21, hc22, h⟩ := bI_some h
        refine h_callVi (As := [.int x1, .int x2, .int x3]) (rest := []) O hH (c_X12_hasLong hc22) ml_X12_459 ly_281 rfl rfl hl.1 rfl ⟨Nat.le_of_ble_eq_true rfl, Nat.le_of_ble_eq_true rfl⟩ (Nat.le_of_ble_eq_true rfl) dX12_goes_64 (fun H locs hH => ?_)
        refine lv_istore (lv' := [(4, .int y23), (0, .ref (z + 281)), (1, .int x1), (2, .int x2), (3, .int x3)]) hx hb dX12_goes_67 hl (by decide) rfl (fun ls hl => ?_)
        refine lv_aload_n hx hb dX12_goes_69 rfl (lv_at hl 1 rfl) ?_
        refine lv_iload_n hx hb dX12_goes_70 rfl (lv_at hl 2 rfl) ?_
        refine lv_iload_n hx hb dX12_goes_71 rfl (lv_at hl 3 rfl) ?_
        refine lv_iload_n hx hb dX12_goes_72 rfl (lv_at hl 4 rfl) ?_
        obtain ⟨D24, hc25, h⟩ := bV_some h
        refine h_callVv (As := [.int x1, .int x2, .int x3]) (rest := []) O hH (c_X12_takesLong hc25) ml_X12_381 ly_281 rfl rfl hl.1 rfl ⟨Nat.le_of_ble_eq_true rfl, Nat.le_of_ble_eq_true rfl⟩ (Nat.le_of_ble_eq_true rfl) dX12_goes_73 (fun H locs hH => ?_)
        refine lv_aload_n hx hb dX12_goes_76 rfl (lv_at hl 1 rfl) ?_
        refine lv_iload hx hb dX12_goes_77 (lv_at hl 0 rfl) ?_
        obtain ⟨y28, D26, hc27, h⟩ := bI_some h
        refine h_callVi (As := [.int y23]) (rest := []) O hH (c_X12_likeOf hc27) ml_X12_474 ly_281 rfl rfl hl.1 rfl ⟨Nat.le_of_ble_eq_true rfl, Nat.le_of_ble_eq_true rfl⟩ (Nat.le_of_ble_eq_true rfl) dX12_goes_79 (fun H locs hH => ?_)
        obtain ⟨rfl, rfl⟩ := ret_i h
        exact h_iret O hr hlk hH dX12_goes_82
      · have h := it_pos h c20
        refine lv_bipush (v := (-3)) hx hb dX12_goes_57 (by decide) ?_
        obtain ⟨rfl, rfl⟩ := ret_i h
        exact h_iret O hr hlk hH dX12_goes_59
    · have h := it_pos h c13
      refine lv_bipush (v := (-2)) hx hb dX12_goes_39 (by decide) ?_
      obtain ⟨rfl, rfl⟩ := ret_i h
      exact h_iret O hr hlk hH dX12_goes_41
set_option maxHeartbeats 4000000 in
theorem c_X12_goes {l : Launch} {G : va_G} {tA : Nat → ClassId} {z : Nat} {E : Ex} {x1 : Int32} {x2 : Int32} {x3 : Int32} {D D' : Dm} {r : Int32} (h : f_X12_goes x1 x2 x3 D = some (r, D')) : CtI l yX12_goes cX12_goes 5 (some .int) G tA z E 29 0 0 [.ref (z + 281), .int x1, .int x2, .int x3] LAY D r LAY D' :=
  ct_BI (by decide +kernel) (Nat.le_of_ble_eq_true rfl) (fun _ _ _ _ _ _ _ _ O hr hlk => w_X12_goes O hr hlk _ _ _ _ h)
set_option maxHeartbeats 4000000 in
theorem w_X12_isStanding_19 {G : va_G} {tA : Nat → ClassId} {z : Nat} {E : Ex} {p : Program} {l : Launch} {e : Env} {s : State} {m : MethodId} {args : Array Value} {below : List Frame} {meth : Method} {c : Code} {r : Int32} {D' : Dm} (O : Ok G tA z E cX12_isStanding RX12 1 p s m args c) (hr : meth.sig.returnType = some .boolean) (hlk : meth.locks = false)  (D : Dm) (h : f_X12_isStanding_19  D = some (r, D')) : BI G tA z E p l e (rmC 31 0 0) s m args below meth c LAY D r D' 1 19 [] [] := by
  obtain ⟨hx, hb, -, hown, hts, -⟩ := id O
  unfold f_X12_isStanding_19 at h
  intro H locs ls hH hl
  refine lv_iconst (v := 1) hx hb dX12_isStanding_19 (by decide) ?_
  refine lv_goto (tgt := 24) hx hb dX12_isStanding_20 (by decide) ?_
  obtain ⟨rfl, rfl⟩ := ret_i h
  exact h_zret O hr hlk zb_1 hH dX12_isStanding_24
set_option maxHeartbeats 4000000 in
theorem w_X12_isStanding {G : va_G} {tA : Nat → ClassId} {z : Nat} {E : Ex} {p : Program} {l : Launch} {e : Env} {s : State} {m : MethodId} {args : Array Value} {below : List Frame} {meth : Method} {c : Code} {r : Int32} {D' : Dm} (O : Ok G tA z E cX12_isStanding RX12 1 p s m args c) (hr : meth.sig.returnType = some .boolean) (hlk : meth.locks = false)  (D : Dm) (h : f_X12_isStanding  D = some (r, D')) : BI G tA z E p l e (rmC 31 0 0) s m args below meth c LAY D r D' 1 0 [(0, .ref (z + 281))] [] := by
  obtain ⟨hx, hb, -, hown, hts, -⟩ := id O
  unfold f_X12_isStanding at h
  intro H locs ls hH hl
  refine lv_aload_n hx hb dX12_isStanding_0 rfl (lv_at hl 0 rfl) ?_
  obtain ⟨D1, hc2, h⟩ := bV_some h
  refine h_callVv (As := []) (rest := []) O hH (c_X12_lays hc2) ml_X12_554 ly_281 rfl rfl hl.1 rfl ⟨Nat.le_of_ble_eq_true rfl, Nat.le_of_ble_eq_true rfl⟩ (Nat.le_of_ble_eq_true rfl) dX12_isStanding_1 (fun H locs hH => ?_)
  refine lv_aload_n hx hb dX12_isStanding_4 rfl (lv_at hl 0 rfl) ?_
  refine h_geti O hH ly_281 rfl fl_X12_440 dX12_isStanding_5 ?_
  refine lv_if_eq (tgt := 19) hx hb dX12_isStanding_8 (by decide) (fun c3 => ?_) (fun c3 => ?_)
  · have h := it_pos h c3
    exact w_X12_isStanding_19 O hr hlk _ h _ _ _ hH (lv_sub hl [] rfl)
  · have h := it_neg h c3
    refine lv_aload_n hx hb dX12_isStanding_11 rfl (lv_at hl 0 rfl) ?_
    refine h_geti O hH ly_281 rfl fl_X12_440 dX12_isStanding_12 ?_
    refine lv_iconst (v := 3) hx hb dX12_isStanding_15 (by decide) ?_
    refine lv_icmp_ne (tgt := 23) hx hb dX12_isStanding_16 (by decide) (fun c4 => ?_) (fun c4 => ?_)
    · have h := it_neg h c4
      refine lv_iconst (v := 0) hx hb dX12_isStanding_23 (by decide) ?_
      obtain ⟨rfl, rfl⟩ := ret_i h
      exact h_zret O hr hlk zb_0 hH dX12_isStanding_24
    · have h := it_pos h c4
      exact w_X12_isStanding_19 O hr hlk _ h _ _ _ hH (lv_sub hl [] rfl)
set_option maxHeartbeats 4000000 in
theorem c_X12_isStanding {l : Launch} {G : va_G} {tA : Nat → ClassId} {z : Nat} {E : Ex}  {D D' : Dm} {r : Int32} (h : f_X12_isStanding  D = some (r, D')) : CtI l yX12_isStanding cX12_isStanding 1 (some .boolean) G tA z E 31 0 0 [.ref (z + 281)] LAY D r LAY D' :=
  ct_BI (by decide +kernel) (Nat.le_of_ble_eq_true rfl) (fun _ _ _ _ _ _ _ _ O hr hlk => w_X12_isStanding O hr hlk  _ h)
set_option maxHeartbeats 4000000 in
theorem w_X12_stands {G : va_G} {tA : Nat → ClassId} {z : Nat} {E : Ex} {p : Program} {l : Launch} {e : Env} {s : State} {m : MethodId} {args : Array Value} {below : List Frame} {meth : Method} {c : Code} {r : Int32} {D' : Dm} (O : Ok G tA z E cX12_stands RX12 1 p s m args c) (hr : meth.sig.returnType = some .int) (hlk : meth.locks = false)  (D : Dm) (h : f_X12_stands  D = some (r, D')) : BI G tA z E p l e (rmC 32 0 0) s m args below meth c LAY D r D' 1 0 [(0, .ref (z + 281))] [] := by
  obtain ⟨hx, hb, -, hown, hts, -⟩ := id O
  unfold f_X12_stands at h
  intro H locs ls hH hl
  refine lv_aload_n hx hb dX12_stands_0 rfl (lv_at hl 0 rfl) ?_
  refine lv_iconst (v := 0) hx hb dX12_stands_1 (by decide) ?_
  obtain ⟨D1, e2, h⟩ := lt_some h
  refine h_puti O hH ly_281 rfl fl_X12_1 e2 dX12_stands_2 (fun H locs hH => ?_)
  refine lv_aload_n hx hb dX12_stands_5 rfl (lv_at hl 0 rfl) ?_
  obtain ⟨y5, D3, hc4, h⟩ := bI_some h
  refine h_callVi (As := []) (rest := []) O hH (c_X12_isStanding hc4) ml_X12_579 ly_281 rfl rfl hl.1 rfl ⟨Nat.le_of_ble_eq_true rfl, Nat.le_of_ble_eq_true rfl⟩ (Nat.le_of_ble_eq_true rfl) dX12_stands_6 (fun H locs hH => ?_)
  refine lv_if_ne (tgt := 16) hx hb dX12_stands_9 (by decide) (fun c6 => ?_) (fun c6 => ?_)
  · have h := it_neg h c6
    refine lv_aload_n hx hb dX12_stands_16 rfl (lv_at hl 0 rfl) ?_
    refine h_geti O hH ly_281 rfl fl_X12_440 dX12_stands_17 ?_
    refine lv_iconst (v := 3) hx hb dX12_stands_20 (by decide) ?_
    refine lv_icmp_ne (tgt := 28) hx hb dX12_stands_21 (by decide) (fun c7 => ?_) (fun c7 => ?_)
    · have h := it_neg h c7
      refine lv_iconst (v := 2) hx hb dX12_stands_28 (by decide) ?_
      obtain ⟨rfl, rfl⟩ := ret_i h
      exact h_iret O hr hlk hH dX12_stands_29
    · have h := it_pos h c7
      refine lv_iconst (v := 1) hx hb dX12_stands_24 (by decide) ?_
      refine lv_goto (tgt := 29) hx hb dX12_stands_25 (by decide) ?_
      obtain ⟨rfl, rfl⟩ := ret_i h
      exact h_iret O hr hlk hH dX12_stands_29
  · have h := it_pos h c6
    refine lv_iconst (v := 0) hx hb dX12_stands_12 (by decide) ?_
    refine lv_goto (tgt := 29) hx hb dX12_stands_13 (by decide) ?_
    obtain ⟨rfl, rfl⟩ := ret_i h
    exact h_iret O hr hlk hH dX12_stands_29
set_option maxHeartbeats 4000000 in
theorem c_X12_stands {l : Launch} {G : va_G} {tA : Nat → ClassId} {z : Nat} {E : Ex}  {D D' : Dm} {r : Int32} (h : f_X12_stands  D = some (r, D')) : CtI l yX12_stands cX12_stands 1 (some .int) G tA z E 32 0 0 [.ref (z + 281)] LAY D r LAY D' :=
  ct_BI (by decide +kernel) (Nat.le_of_ble_eq_true rfl) (fun _ _ _ _ _ _ _ _ O hr hlk => w_X12_stands O hr hlk  _ h)
set_option maxHeartbeats 4000000 in
theorem w_X12_guessAlong_9_b {G : va_G} {tA : Nat → ClassId} {z : Nat} {E : Ex} {p : Program} {l : Launch} {e : Env} {s : State} {m : MethodId} {args : Array Value} {below : List Frame} {meth : Method} {c : Code} {D' : Dm} (O : Ok G tA z E cX12_guessAlong RX12 3 p s m args c) (hr : meth.sig.returnType = none) (hlk : meth.locks = false) {k9 : Int32 → Int32 → Dm → Option Dm} (hk9 : ∀ (x1 : Int32) (x2 : Int32) (D : Dm), k9 x1 x2 D = some D' → BV G tA z E p l e (rmC 27 0 0) s m args below meth c LAY D D' 3 9 [(0, .ref (z + 281)), (1, .int x1), (2, .int x2)] []) (x1 : Int32) (x2 : Int32) (D : Dm) (h : f_X12_guessAlong_9_b k9 x1 x2 D = some D') : BV G tA z E p l e (rmC 27 0 0) s m args below meth c LAY D D' 3 9 [(0, .ref (z + 281)), (1, .int x1), (2, .int x2)] [] := by
  obtain ⟨hx, hb, -, hown, hts, -⟩ := id O
  unfold f_X12_guessAlong_9_b at h
  intro H locs ls hH hl
  refine lv_iload_n hx hb dX12_guessAlong_9 rfl (lv_at hl 2 rfl) ?_
  refine lv_iload_n hx hb dX12_guessAlong_10 rfl (lv_at hl 1 rfl) ?_
  refine lv_icmp_ge (tgt := 36) hx hb dX12_guessAlong_11 (by decide) (fun c1 => ?_) (fun c1 => ?_)
  · have h := it_pos h c1
    obtain rfl := ret_v h
    exact h_vret O hr hlk hH dX12_guessAlong_36
  · have h := it_neg h c1
    refine lv_aload_n hx hb dX12_guessAlong_14 rfl (lv_at hl 0 rfl) ?_
    refine lv_aload_n hx hb dX12_guessAlong_15 rfl (lv_at hl 0 rfl) ?_
    refine h_getr O hH ly_281 rfl fl_X12_27 dX12_guessAlong_16 ?_
    refine lv_iload_n hx hb dX12_guessAlong_19 rfl (lv_at hl 2 rfl) ?_
    obtain ⟨g2, h⟩ := gd_some h
    refine h_iald O hH ly_285 g2 dX12_guessAlong_20 ?_
    refine lv_aload_n hx hb dX12_guessAlong_21 rfl (lv_at hl 0 rfl) ?_
    refine h_getr O hH ly_281 rfl fl_X12_30 dX12_guessAlong_22 ?_
    refine lv_iload_n hx hb dX12_guessAlong_25 rfl (lv_at hl 2 rfl) ?_
    obtain ⟨g3, h⟩ := gd_some h
    refine h_iald O hH ly_286 g3 dX12_guessAlong_26 ?_
    obtain ⟨D4, hc5, h⟩ := bV_some h
    refine h_callVv (As := [.int (D 285 (Int32.toNatClampNeg x2)), .int (D 286 (Int32.toNatClampNeg x2))]) (rest := []) O hH (c_X12_guessGoes hc5) ml_X12_533 ly_281 rfl rfl hl.1 rfl ⟨Nat.le_of_ble_eq_true rfl, Nat.le_of_ble_eq_true rfl⟩ (Nat.le_of_ble_eq_true rfl) dX12_guessAlong_27 (fun H locs hH => ?_)
    obtain ⟨y6, e7, h⟩ := lt_some h
    refine lv_iinc (v := y6) (lv' := [(2, .int y6), (0, .ref (z + 281)), (1, .int x1)]) hx hb dX12_guessAlong_30 hl (k := 2) rfl (by rw [e7]; rfl) (by decide) rfl (fun ls hl => ?_)
    refine lv_goto (tgt := 9) hx hb dX12_guessAlong_33 (by decide) ?_
    exact hk9 _ _ _ h _ _ _ hH (lv_sub hl [1, 2, 0] rfl)
set_option maxHeartbeats 4000000 in
theorem w_X12_guessAlong_9 {G : va_G} {tA : Nat → ClassId} {z : Nat} {E : Ex} {p : Program} {l : Launch} {e : Env} {s : State} {m : MethodId} {args : Array Value} {below : List Frame} {meth : Method} {c : Code} {D' : Dm} (O : Ok G tA z E cX12_guessAlong RX12 3 p s m args c) (hr : meth.sig.returnType = none) (hlk : meth.locks = false) : ∀ (n : Nat) (x1 : Int32) (x2 : Int32) (D : Dm) (h : f_X12_guessAlong_9 n x1 x2 D = some D'), BV G tA z E p l e (rmC 27 0 0) s m args below meth c LAY D D' 3 9 [(0, .ref (z + 281)), (1, .int x1), (2, .int x2)] [] := by
  intro n
  induction n with
  | zero => intro x1 x2 D h; exact no_some h
  | succ n ih => intro x1 x2 D h; exact w_X12_guessAlong_9_b O hr hlk (fun x1 x2 D h => ih x1 x2 D h) x1 x2 D h
set_option maxHeartbeats 4000000 in
theorem w_X12_guessAlong {G : va_G} {tA : Nat → ClassId} {z : Nat} {E : Ex} {p : Program} {l : Launch} {e : Env} {s : State} {m : MethodId} {args : Array Value} {below : List Frame} {meth : Method} {c : Code} {D' : Dm} (O : Ok G tA z E cX12_guessAlong RX12 3 p s m args c) (hr : meth.sig.returnType = none) (hlk : meth.locks = false) (x1 : Int32) (D : Dm) (h : f_X12_guessAlong x1 D = some D') : BV G tA z E p l e (rmC 27 0 0) s m args below meth c LAY D D' 3 0 [(0, .ref (z + 281)), (1, .int x1)] [] := by
  obtain ⟨hx, hb, -, hown, hts, -⟩ := id O
  unfold f_X12_guessAlong at h
  intro H locs ls hH hl
  refine lv_aload_n hx hb dX12_guessAlong_0 rfl (lv_at hl 0 rfl) ?_
  refine lv_iconst (v := 0) hx hb dX12_guessAlong_1 (by decide) ?_
  refine lv_iconst (v := (-1)) hx hb dX12_guessAlong_2 (by decide) ?_
  refine lv_iconst (v := (-1)) hx hb dX12_guessAlong_3 (by decide) ?_
  obtain ⟨D1, hc2, h⟩ := bV_some h
  refine h_callVv (As := [.int 0, .int (-1), .int (-1)]) (rest := []) O hH (c_X12_guesses hc2) ml_X12_486 ly_281 rfl rfl hl.1 rfl ⟨Nat.le_of_ble_eq_true rfl, Nat.le_of_ble_eq_true rfl⟩ (Nat.le_of_ble_eq_true rfl) dX12_guessAlong_4 (fun H locs hH => ?_)
  refine lv_iconst (v := 0) hx hb dX12_guessAlong_7 (by decide) ?_
  refine lv_istore_n (lv' := [(2, .int 0), (0, .ref (z + 281)), (1, .int x1)]) hx hb dX12_guessAlong_8 rfl hl (by decide) rfl (fun ls hl => ?_)
  exact w_X12_guessAlong_9 O hr hlk FU _ _ _ h _ _ _ hH (lv_sub hl [1, 2, 0] rfl)
set_option maxHeartbeats 4000000 in
theorem c_X12_guessAlong {l : Launch} {G : va_G} {tA : Nat → ClassId} {z : Nat} {E : Ex} {x1 : Int32} {D D' : Dm} (h : f_X12_guessAlong x1 D = some D') : CtV l yX12_guessAlong cX12_guessAlong 3 G tA z E 27 0 0 [.ref (z + 281), .int x1] LAY D LAY D' :=
  ct_BV (by decide +kernel) (Nat.le_of_ble_eq_true rfl) (fun _ _ _ _ _ _ _ _ O hr hlk => w_X12_guessAlong O hr hlk _ _ h)
set_option maxHeartbeats 4000000 in
theorem w_X12_guess {G : va_G} {tA : Nat → ClassId} {z : Nat} {E : Ex} {p : Program} {l : Launch} {e : Env} {s : State} {m : MethodId} {args : Array Value} {below : List Frame} {meth : Method} {c : Code} {r : Int32} {D' : Dm} (O : Ok G tA z E cX12_guess RX12 1 p s m args c) (hr : meth.sig.returnType = some .int) (hlk : meth.locks = false)  (D : Dm) (h : f_X12_guess  D = some (r, D')) : BI G tA z E p l e (rmC 32 0 0) s m args below meth c LAY D r D' 1 0 [(0, .ref (z + 281))] [] := by
  obtain ⟨hx, hb, -, hown, hts, -⟩ := id O
  unfold f_X12_guess at h
  intro H locs ls hH hl
  refine lv_aload_n hx hb dX12_guess_0 rfl (lv_at hl 0 rfl) ?_
  refine lv_iconst (v := 0) hx hb dX12_guess_1 (by decide) ?_
  obtain ⟨D1, e2, h⟩ := lt_some h
  refine h_puti O hH ly_281 rfl fl_X12_1 e2 dX12_guess_2 (fun H locs hH => ?_)
  refine lv_aload_n hx hb dX12_guess_5 rfl (lv_at hl 0 rfl) ?_
  obtain ⟨y5, D3, hc4, h⟩ := bI_some h
  refine h_callVi (As := []) (rest := []) O hH (c_X12_isStanding hc4) ml_X12_579 ly_281 rfl rfl hl.1 rfl ⟨Nat.le_of_ble_eq_true rfl, Nat.le_of_ble_eq_true rfl⟩ (Nat.le_of_ble_eq_true rfl) dX12_guess_6 (fun H locs hH => ?_)
  refine lv_if_ne (tgt := 15) hx hb dX12_guess_9 (by decide) (fun c6 => ?_) (fun c6 => ?_)
  · have h := it_neg h c6
    refine lv_aload_n hx hb dX12_guess_15 rfl (lv_at hl 0 rfl) ?_
    refine lv_aload_n hx hb dX12_guess_16 rfl (lv_at hl 0 rfl) ?_
    refine h_geti O hH ly_281 rfl fl_X12_259 dX12_guess_17 ?_
    obtain ⟨D7, hc8, h⟩ := bV_some h
    refine h_callVv (As := [.int (D3 281 18)]) (rest := []) O hH (c_X12_guessAlong hc8) ml_X12_582 ly_281 rfl rfl hl.1 rfl ⟨Nat.le_of_ble_eq_true rfl, Nat.le_of_ble_eq_true rfl⟩ (Nat.le_of_ble_eq_true rfl) dX12_guess_20 (fun H locs hH => ?_)
    refine lv_aload_n hx hb dX12_guess_23 rfl (lv_at hl 0 rfl) ?_
    refine lv_aload_n hx hb dX12_guess_24 rfl (lv_at hl 0 rfl) ?_
    refine h_geti O hH ly_281 rfl fl_X12_477 dX12_guess_25 ?_
    obtain ⟨y11, D9, hc10, h⟩ := bI_some h
    refine h_callVi (As := [.int (D7 281 66)]) (rest := []) O hH (c_X12_isGood hc10) ml_X12_508 ly_281 rfl rfl hl.1 rfl ⟨Nat.le_of_ble_eq_true rfl, Nat.le_of_ble_eq_true rfl⟩ (Nat.le_of_ble_eq_true rfl) dX12_guess_28 (fun H locs hH => ?_)
    refine lv_if_eq (tgt := 38) hx hb dX12_guess_31 (by decide) (fun c12 => ?_) (fun c12 => ?_)
    · have h := it_pos h c12
      refine lv_iconst (v := 0) hx hb dX12_guess_38 (by decide) ?_
      obtain ⟨rfl, rfl⟩ := ret_i h
      exact h_iret O hr hlk hH dX12_guess_39
    · have h := it_neg h c12
      refine lv_iconst (v := 1) hx hb dX12_guess_34 (by decide) ?_
      refine lv_goto (tgt := 39) hx hb dX12_guess_35 (by decide) ?_
      obtain ⟨rfl, rfl⟩ := ret_i h
      exact h_iret O hr hlk hH dX12_guess_39
  · have h := it_pos h c6
    refine lv_bipush (v := (-5)) hx hb dX12_guess_12 (by decide) ?_
    obtain ⟨rfl, rfl⟩ := ret_i h
    exact h_iret O hr hlk hH dX12_guess_14
set_option maxHeartbeats 4000000 in
theorem c_X12_guess {l : Launch} {G : va_G} {tA : Nat → ClassId} {z : Nat} {E : Ex}  {D D' : Dm} {r : Int32} (h : f_X12_guess  D = some (r, D')) : CtI l yX12_guess cX12_guess 1 (some .int) G tA z E 32 0 0 [.ref (z + 281)] LAY D r LAY D' :=
  ct_BI (by decide +kernel) (Nat.le_of_ble_eq_true rfl) (fun _ _ _ _ _ _ _ _ O hr hlk => w_X12_guess O hr hlk  _ h)
set_option maxHeartbeats 4000000 in
theorem w_X12_guessed {G : va_G} {tA : Nat → ClassId} {z : Nat} {E : Ex} {p : Program} {l : Launch} {e : Env} {s : State} {m : MethodId} {args : Array Value} {below : List Frame} {meth : Method} {c : Code} {r : Int32} {D' : Dm} (O : Ok G tA z E cX12_guessed RX12 3 p s m args c) (hr : meth.sig.returnType = some .int) (hlk : meth.locks = false) (x1 : Int32) (x2 : Int32) (D : Dm) (h : f_X12_guessed x1 x2 D = some (r, D')) : BI G tA z E p l e (rmC 32 0 0) s m args below meth c LAY D r D' 3 0 [(0, .ref (z + 281)), (1, .int x1), (2, .int x2)] [] := by
  obtain ⟨hx, hb, -, hown, hts, -⟩ := id O
  unfold f_X12_guessed at h
  intro H locs ls hH hl
  refine lv_aload_n hx hb dX12_guessed_0 rfl (lv_at hl 0 rfl) ?_
  refine lv_iconst (v := 0) hx hb dX12_guessed_1 (by decide) ?_
  obtain ⟨D1, e2, h⟩ := lt_some h
  refine h_puti O hH ly_281 rfl fl_X12_1 e2 dX12_guessed_2 (fun H locs hH => ?_)
  refine lv_iload_n hx hb dX12_guessed_5 rfl (lv_at hl 1 rfl) ?_
  refine lv_i2l hx hb dX12_guessed_6 rfl ?_
  refine lv_lconst (v := 0) hx hb dX12_guessed_7 (by decide) ?_
  refine lv_aload_n hx hb dX12_guessed_8 rfl (lv_at hl 0 rfl) ?_
  refine h_geti O hH ly_281 rfl fl_X12_259 dX12_guessed_9 ?_
  refine lv_i2l hx hb dX12_guessed_12 rfl ?_
  obtain ⟨y5, D3, hc4, h⟩ := bI_some h
  refine h_callSi (As := [.long (Int32.toInt64 x1), .long 0, .long (Int32.toInt64 (D1 281 18))]) (rest := []) O hH (c_X12_isIn hc4) ml_X12_182 rfl hl.1 rfl ⟨Nat.le_of_ble_eq_true rfl, Nat.le_of_ble_eq_true rfl⟩ (Nat.le_of_ble_eq_true rfl) dX12_guessed_13 (fun H locs hH => ?_)
  refine lv_if_ne (tgt := 22) hx hb dX12_guessed_16 (by decide) (fun c6 => ?_) (fun c6 => ?_)
  · have h := it_neg h c6
    refine lv_iload_n hx hb dX12_guessed_22 rfl (lv_at hl 2 rfl) ?_
    refine lv_i2l hx hb dX12_guessed_23 rfl ?_
    refine lv_lconst (v := 0) hx hb dX12_guessed_24 (by decide) ?_
    refine lv_ldc2 (v := 2) hx hb hown (hts _ ww_1495) dX12_guessed_25 ?_
    obtain ⟨y9, D7, hc8, h⟩ := bI_some h
    refine h_callSi (As := [.long (Int32.toInt64 x2), .long 0, .long 2]) (rest := []) O hH (c_X12_isIn hc8) ml_X12_182 rfl hl.1 rfl ⟨Nat.le_of_ble_eq_true rfl, Nat.le_of_ble_eq_true rfl⟩ (Nat.le_of_ble_eq_true rfl) dX12_guessed_28 (fun H locs hH => ?_)
    refine lv_if_ne (tgt := 37) hx hb dX12_guessed_31 (by decide) (fun c10 => ?_) (fun c10 => ?_)
    · have h := it_neg h c10
      refine lv_aload_n hx hb dX12_guessed_37 rfl (lv_at hl 0 rfl) ?_
      obtain ⟨y13, D11, hc12, h⟩ := bI_some h
      refine h_callVi (As := []) (rest := []) O hH (c_X12_isStanding hc12) ml_X12_579 ly_281 rfl rfl hl.1 rfl ⟨Nat.le_of_ble_eq_true rfl, Nat.le_of_ble_eq_true rfl⟩ (Nat.le_of_ble_eq_true rfl) dX12_guessed_38 (fun H locs hH => ?_)
      refine lv_if_ne (tgt := 47) hx hb dX12_guessed_41 (by decide) (fun c14 => ?_) (fun c14 => ?_)
      · have h := it_neg h c14
        refine lv_aload_n hx hb dX12_guessed_47 rfl (lv_at hl 0 rfl) ?_
        refine lv_iload_n hx hb dX12_guessed_48 rfl (lv_at hl 1 rfl) ?_
        obtain ⟨D15, hc16, h⟩ := bV_some h
        refine h_callVv (As := [.int x1]) (rest := []) O hH (c_X12_guessAlong hc16) ml_X12_582 ly_281 rfl rfl hl.1 rfl ⟨Nat.le_of_ble_eq_true rfl, Nat.le_of_ble_eq_true rfl⟩ (Nat.le_of_ble_eq_true rfl) dX12_guessed_49 (fun H locs hH => ?_)
        refine lv_iload_n hx hb dX12_guessed_52 rfl (lv_at hl 2 rfl) ?_
        refine lv_if_ne (tgt := 63) hx hb dX12_guessed_53 (by decide) (fun c17 => ?_) (fun c17 => ?_)
        · have h := it_neg h c17
          refine lv_iload_n hx hb dX12_guessed_63 rfl (lv_at hl 2 rfl) ?_
          refine lv_iconst (v := 1) hx hb dX12_guessed_64 (by decide) ?_
          refine lv_icmp_ne (tgt := 75) hx hb dX12_guessed_65 (by decide) (fun c18 => ?_) (fun c18 => ?_)
          · have h := it_neg h c18
            refine lv_aload_n hx hb dX12_guessed_75 rfl (lv_at hl 0 rfl) ?_
            refine h_geti O hH ly_281 rfl fl_X12_483 dX12_guessed_76 ?_
            obtain ⟨rfl, rfl⟩ := ret_i h
            exact h_iret O hr hlk hH dX12_guessed_79
          · have h := it_pos h c18
            refine lv_aload_n hx hb dX12_guessed_68 rfl (lv_at hl 0 rfl) ?_
            refine h_geti O hH ly_281 rfl fl_X12_480 dX12_guessed_69 ?_
            refine lv_goto (tgt := 79) hx hb dX12_guessed_72 (by decide) ?_
            obtain ⟨rfl, rfl⟩ := ret_i h
            exact h_iret O hr hlk hH dX12_guessed_79
        · have h := it_pos h c17
          refine lv_aload_n hx hb dX12_guessed_56 rfl (lv_at hl 0 rfl) ?_
          refine h_geti O hH ly_281 rfl fl_X12_477 dX12_guessed_57 ?_
          refine lv_goto (tgt := 79) hx hb dX12_guessed_60 (by decide) ?_
          obtain ⟨rfl, rfl⟩ := ret_i h
          exact h_iret O hr hlk hH dX12_guessed_79
      · have h := it_pos h c14
        refine lv_bipush (v := (-5)) hx hb dX12_guessed_44 (by decide) ?_
        obtain ⟨rfl, rfl⟩ := ret_i h
        exact h_iret O hr hlk hH dX12_guessed_46
    · have h := it_pos h c10
      refine lv_bipush (v := (-2)) hx hb dX12_guessed_34 (by decide) ?_
      obtain ⟨rfl, rfl⟩ := ret_i h
      exact h_iret O hr hlk hH dX12_guessed_36
  · have h := it_pos h c6
    refine lv_bipush (v := (-3)) hx hb dX12_guessed_19 (by decide) ?_
    obtain ⟨rfl, rfl⟩ := ret_i h
    exact h_iret O hr hlk hH dX12_guessed_21
set_option maxHeartbeats 4000000 in
theorem c_X12_guessed {l : Launch} {G : va_G} {tA : Nat → ClassId} {z : Nat} {E : Ex} {x1 : Int32} {x2 : Int32} {D D' : Dm} {r : Int32} (h : f_X12_guessed x1 x2 D = some (r, D')) : CtI l yX12_guessed cX12_guessed 3 (some .int) G tA z E 32 0 0 [.ref (z + 281), .int x1, .int x2] LAY D r LAY D' :=
  ct_BI (by decide +kernel) (Nat.le_of_ble_eq_true rfl) (fun _ _ _ _ _ _ _ _ O hr hlk => w_X12_guessed O hr hlk _ _ _ h)
set_option maxHeartbeats 4000000 in
theorem w_X12_refutes_29 {G : va_G} {tA : Nat → ClassId} {z : Nat} {E : Ex} {p : Program} {l : Launch} {e : Env} {s : State} {m : MethodId} {args : Array Value} {below : List Frame} {meth : Method} {c : Code} {r : Int32} {D' : Dm} (O : Ok G tA z E cX12_refutes RX12 3 p s m args c) (hr : meth.sig.returnType = some .int) (hlk : meth.locks = false) (x1 : Int32) (x2 : Int32) (D : Dm) (h : f_X12_refutes_29 x1 x2 D = some (r, D')) : BI G tA z E p l e (rmC 32 0 0) s m args below meth c LAY D r D' 3 29 [(0, .ref (z + 281)), (1, .int x1), (2, .int x2)] [] := by
  obtain ⟨hx, hb, -, hown, hts, -⟩ := id O
  unfold f_X12_refutes_29 at h
  intro H locs ls hH hl
  refine lv_iload_n hx hb dX12_refutes_29 rfl (lv_at hl 1 rfl) ?_
  refine lv_i2l hx hb dX12_refutes_30 rfl ?_
  refine lv_lconst (v := 0) hx hb dX12_refutes_31 (by decide) ?_
  refine lv_aload_n hx hb dX12_refutes_32 rfl (lv_at hl 0 rfl) ?_
  refine h_geti O hH ly_281 rfl fl_X12_434 dX12_refutes_33 ?_
  refine lv_iconst (v := 1) hx hb dX12_refutes_36 (by decide) ?_
  refine lv_isub hx hb dX12_refutes_37 ?_
  refine lv_i2l hx hb dX12_refutes_38 rfl ?_
  obtain ⟨y3, D1, hc2, h⟩ := bI_some h
  refine h_callSi (As := [.long (Int32.toInt64 x1), .long 0, .long (Int32.toInt64 ((D 281 64) - 1))]) (rest := []) O hH (c_X12_isIn hc2) ml_X12_182 rfl hl.1 rfl ⟨Nat.le_of_ble_eq_true rfl, Nat.le_of_ble_eq_true rfl⟩ (Nat.le_of_ble_eq_true rfl) dX12_refutes_39 (fun H locs hH => ?_)
  refine lv_if_eq (tgt := 55) hx hb dX12_refutes_42 (by decide) (fun c4 => ?_) (fun c4 => ?_)
  · have h := it_pos h c4
    refine lv_bipush (v := (-2)) hx hb dX12_refutes_55 (by decide) ?_
    obtain ⟨rfl, rfl⟩ := ret_i h
    exact h_iret O hr hlk hH dX12_refutes_57
  · have h := it_neg h c4
    refine lv_iload_n hx hb dX12_refutes_45 rfl (lv_at hl 2 rfl) ?_
    refine lv_i2l hx hb dX12_refutes_46 rfl ?_
    refine lv_lconst (v := 0) hx hb dX12_refutes_47 (by decide) ?_
    refine lv_lconst (v := 1) hx hb dX12_refutes_48 (by decide) ?_
    obtain ⟨y7, D5, hc6, h⟩ := bI_some h
    refine h_callSi (As := [.long (Int32.toInt64 x2), .long 0, .long 1]) (rest := []) O hH (c_X12_isIn hc6) ml_X12_182 rfl hl.1 rfl ⟨Nat.le_of_ble_eq_true rfl, Nat.le_of_ble_eq_true rfl⟩ (Nat.le_of_ble_eq_true rfl) dX12_refutes_49 (fun H locs hH => ?_)
    refine lv_if_ne (tgt := 58) hx hb dX12_refutes_52 (by decide) (fun c8 => ?_) (fun c8 => ?_)
    · have h := it_neg h c8
      refine lv_iload_n hx hb dX12_refutes_58 rfl (lv_at hl 2 rfl) ?_
      refine lv_if_ne (tgt := 71) hx hb dX12_refutes_59 (by decide) (fun c9 => ?_) (fun c9 => ?_)
      · have h := it_neg h c9
        refine lv_aload_n hx hb dX12_refutes_71 rfl (lv_at hl 0 rfl) ?_
        refine h_getr O hH ly_281 rfl fl_X12_99 dX12_refutes_72 ?_
        refine lv_iload_n hx hb dX12_refutes_75 rfl (lv_at hl 1 rfl) ?_
        obtain ⟨g10, h⟩ := gd_some h
        refine h_iald O hH ly_309 g10 dX12_refutes_76 ?_
        obtain ⟨rfl, rfl⟩ := ret_i h
        exact h_iret O hr hlk hH dX12_refutes_77
      · have h := it_pos h c9
        refine lv_aload_n hx hb dX12_refutes_62 rfl (lv_at hl 0 rfl) ?_
        refine h_getr O hH ly_281 rfl fl_X12_96 dX12_refutes_63 ?_
        refine lv_iload_n hx hb dX12_refutes_66 rfl (lv_at hl 1 rfl) ?_
        obtain ⟨g11, h⟩ := gd_some h
        refine h_iald O hH ly_308 g11 dX12_refutes_67 ?_
        refine lv_goto (tgt := 77) hx hb dX12_refutes_68 (by decide) ?_
        obtain ⟨rfl, rfl⟩ := ret_i h
        exact h_iret O hr hlk hH dX12_refutes_77
    · have h := it_pos h c8
      refine lv_bipush (v := (-2)) hx hb dX12_refutes_55 (by decide) ?_
      obtain ⟨rfl, rfl⟩ := ret_i h
      exact h_iret O hr hlk hH dX12_refutes_57
set_option maxHeartbeats 4000000 in
theorem w_X12_refutes {G : va_G} {tA : Nat → ClassId} {z : Nat} {E : Ex} {p : Program} {l : Launch} {e : Env} {s : State} {m : MethodId} {args : Array Value} {below : List Frame} {meth : Method} {c : Code} {r : Int32} {D' : Dm} (O : Ok G tA z E cX12_refutes RX12 3 p s m args c) (hr : meth.sig.returnType = some .int) (hlk : meth.locks = false) (x1 : Int32) (x2 : Int32) (D : Dm) (h : f_X12_refutes x1 x2 D = some (r, D')) : BI G tA z E p l e (rmC 32 0 0) s m args below meth c LAY D r D' 3 0 [(0, .ref (z + 281)), (1, .int x1), (2, .int x2)] [] := by
  obtain ⟨hx, hb, -, hown, hts, -⟩ := id O
  unfold f_X12_refutes at h
  intro H locs ls hH hl
  refine lv_aload_n hx hb dX12_refutes_0 rfl (lv_at hl 0 rfl) ?_
  refine lv_iconst (v := 0) hx hb dX12_refutes_1 (by decide) ?_
  obtain ⟨D1, e2, h⟩ := lt_some h
  refine h_puti O hH ly_281 rfl fl_X12_1 e2 dX12_refutes_2 (fun H locs hH => ?_)
  refine lv_aload_n hx hb dX12_refutes_5 rfl (lv_at hl 0 rfl) ?_
  obtain ⟨y5, D3, hc4, h⟩ := bI_some h
  refine h_callVi (As := []) (rest := []) O hH (c_X12_isStanding hc4) ml_X12_579 ly_281 rfl rfl hl.1 rfl ⟨Nat.le_of_ble_eq_true rfl, Nat.le_of_ble_eq_true rfl⟩ (Nat.le_of_ble_eq_true rfl) dX12_refutes_6 (fun H locs hH => ?_)
  refine lv_if_ne (tgt := 15) hx hb dX12_refutes_9 (by decide) (fun c6 => ?_) (fun c6 => ?_)
  · have h := it_neg h c6
    refine lv_iload_n hx hb dX12_refutes_15 rfl (lv_at hl 1 rfl) ?_
    refine lv_iconst (v := (-1)) hx hb dX12_refutes_16 (by decide) ?_
    refine lv_icmp_ne (tgt := 29) hx hb dX12_refutes_17 (by decide) (fun c7 => ?_) (fun c7 => ?_)
    · have h := it_neg h c7
      exact w_X12_refutes_29 O hr hlk _ _ _ h _ _ _ hH (lv_sub hl [0, 1, 2] rfl)
    · have h := it_pos h c7
      refine lv_iload_n hx hb dX12_refutes_20 rfl (lv_at hl 2 rfl) ?_
      refine lv_if_ne (tgt := 29) hx hb dX12_refutes_21 (by decide) (fun c8 => ?_) (fun c8 => ?_)
      · have h := it_neg h c8
        exact w_X12_refutes_29 O hr hlk _ _ _ h _ _ _ hH (lv_sub hl [0, 1, 2] rfl)
      · have h := it_pos h c8
        refine lv_aload_n hx hb dX12_refutes_24 rfl (lv_at hl 0 rfl) ?_
        refine h_geti O hH ly_281 rfl fl_X12_434 dX12_refutes_25 ?_
        obtain ⟨rfl, rfl⟩ := ret_i h
        exact h_iret O hr hlk hH dX12_refutes_28
  · have h := it_pos h c6
    refine lv_bipush (v := (-5)) hx hb dX12_refutes_12 (by decide) ?_
    obtain ⟨rfl, rfl⟩ := ret_i h
    exact h_iret O hr hlk hH dX12_refutes_14
set_option maxHeartbeats 4000000 in
theorem c_X12_refutes {l : Launch} {G : va_G} {tA : Nat → ClassId} {z : Nat} {E : Ex} {x1 : Int32} {x2 : Int32} {D D' : Dm} {r : Int32} (h : f_X12_refutes x1 x2 D = some (r, D')) : CtI l yX12_refutes cX12_refutes 3 (some .int) G tA z E 32 0 0 [.ref (z + 281), .int x1, .int x2] LAY D r LAY D' :=
  ct_BI (by decide +kernel) (Nat.le_of_ble_eq_true rfl) (fun _ _ _ _ _ _ _ _ O hr hlk => w_X12_refutes O hr hlk _ _ _ h)
set_option maxHeartbeats 4000000 in
theorem w_X12_splits {G : va_G} {tA : Nat → ClassId} {z : Nat} {E : Ex} {p : Program} {l : Launch} {e : Env} {s : State} {m : MethodId} {args : Array Value} {below : List Frame} {meth : Method} {c : Code} {r : Int32} {D' : Dm} (O : Ok G tA z E cX12_splits RX12 1 p s m args c) (hr : meth.sig.returnType = some .int) (hlk : meth.locks = false)  (D : Dm) (h : f_X12_splits  D = some (r, D')) : BI G tA z E p l e (rmC 32 0 0) s m args below meth c LAY D r D' 1 0 [(0, .ref (z + 281))] [] := by
  obtain ⟨hx, hb, -, hown, hts, -⟩ := id O
  unfold f_X12_splits at h
  intro H locs ls hH hl
  refine lv_aload_n hx hb dX12_splits_0 rfl (lv_at hl 0 rfl) ?_
  refine lv_iconst (v := 0) hx hb dX12_splits_1 (by decide) ?_
  obtain ⟨D1, e2, h⟩ := lt_some h
  refine h_puti O hH ly_281 rfl fl_X12_1 e2 dX12_splits_2 (fun H locs hH => ?_)
  refine lv_aload_n hx hb dX12_splits_5 rfl (lv_at hl 0 rfl) ?_
  obtain ⟨y5, D3, hc4, h⟩ := bI_some h
  refine h_callVi (As := []) (rest := []) O hH (c_X12_isStanding hc4) ml_X12_579 ly_281 rfl rfl hl.1 rfl ⟨Nat.le_of_ble_eq_true rfl, Nat.le_of_ble_eq_true rfl⟩ (Nat.le_of_ble_eq_true rfl) dX12_splits_6 (fun H locs hH => ?_)
  refine lv_if_eq (tgt := 19) hx hb dX12_splits_9 (by decide) (fun c6 => ?_) (fun c6 => ?_)
  · have h := it_pos h c6
    refine lv_bipush (v := (-5)) hx hb dX12_splits_19 (by decide) ?_
    obtain ⟨rfl, rfl⟩ := ret_i h
    exact h_iret O hr hlk hH dX12_splits_21
  · have h := it_neg h c6
    refine lv_aload_n hx hb dX12_splits_12 rfl (lv_at hl 0 rfl) ?_
    refine h_geti O hH ly_281 rfl fl_X12_437 dX12_splits_13 ?_
    refine lv_goto (tgt := 21) hx hb dX12_splits_16 (by decide) ?_
    obtain ⟨rfl, rfl⟩ := ret_i h
    exact h_iret O hr hlk hH dX12_splits_21
set_option maxHeartbeats 4000000 in
theorem c_X12_splits {l : Launch} {G : va_G} {tA : Nat → ClassId} {z : Nat} {E : Ex}  {D D' : Dm} {r : Int32} (h : f_X12_splits  D = some (r, D')) : CtI l yX12_splits cX12_splits 1 (some .int) G tA z E 32 0 0 [.ref (z + 281)] LAY D r LAY D' :=
  ct_BI (by decide +kernel) (Nat.le_of_ble_eq_true rfl) (fun _ _ _ _ _ _ _ _ O hr hlk => w_X12_splits O hr hlk  _ h)
set_option maxHeartbeats 4000000 in
theorem w_X12_spare_51 {G : va_G} {tA : Nat → ClassId} {z : Nat} {E : Ex} {p : Program} {l : Launch} {e : Env} {s : State} {m : MethodId} {args : Array Value} {below : List Frame} {meth : Method} {c : Code} {r : Int32} {D' : Dm} (O : Ok G tA z E cX12_spare RX12 3 p s m args c) (hr : meth.sig.returnType = some .int) (hlk : meth.locks = false) {k19 : Int32 → Int32 → Dm → Option (Int32 × Dm)} (hk19 : ∀ (x1 : Int32) (x2 : Int32) (D : Dm), k19 x1 x2 D = some (r, D') → BI G tA z E p l e (rmC 32 0 0) s m args below meth c LAY D r D' 3 19 [(0, .ref (z + 281)), (1, .int x1), (2, .int x2)] []) (x2 : Int32) (xs0 : Int32) (D : Dm) (h : f_X12_spare_51 k19 x2 xs0 D = some (r, D')) : BI G tA z E p l e (rmC 32 0 0) s m args below meth c LAY D r D' 3 51 [(0, .ref (z + 281)), (2, .int x2)] [.int xs0] := by
  obtain ⟨hx, hb, -, hown, hts, -⟩ := id O
  unfold f_X12_spare_51 at h
  intro H locs ls hH hl
  refine lv_istore_n (lv' := [(1, .int xs0), (0, .ref (z + 281)), (2, .int x2)]) hx hb dX12_spare_51 rfl hl (by decide) rfl (fun ls hl => ?_)
  obtain ⟨y1, e2, h⟩ := lt_some h
  refine lv_iinc (v := y1) (lv' := [(2, .int y1), (1, .int xs0), (0, .ref (z + 281))]) hx hb dX12_spare_52 hl (k := 2) rfl (by rw [e2]; rfl) (by decide) rfl (fun ls hl => ?_)
  refine lv_goto (tgt := 19) hx hb dX12_spare_55 (by decide) ?_
  exact hk19 _ _ _ h _ _ _ hH (lv_sub hl [2, 1, 0] rfl)
set_option maxHeartbeats 4000000 in
theorem w_X12_spare_19_b {G : va_G} {tA : Nat → ClassId} {z : Nat} {E : Ex} {p : Program} {l : Launch} {e : Env} {s : State} {m : MethodId} {args : Array Value} {below : List Frame} {meth : Method} {c : Code} {r : Int32} {D' : Dm} (O : Ok G tA z E cX12_spare RX12 3 p s m args c) (hr : meth.sig.returnType = some .int) (hlk : meth.locks = false) {k19 : Int32 → Int32 → Dm → Option (Int32 × Dm)} (hk19 : ∀ (x1 : Int32) (x2 : Int32) (D : Dm), k19 x1 x2 D = some (r, D') → BI G tA z E p l e (rmC 32 0 0) s m args below meth c LAY D r D' 3 19 [(0, .ref (z + 281)), (1, .int x1), (2, .int x2)] []) (x1 : Int32) (x2 : Int32) (D : Dm) (h : f_X12_spare_19_b k19 x1 x2 D = some (r, D')) : BI G tA z E p l e (rmC 32 0 0) s m args below meth c LAY D r D' 3 19 [(0, .ref (z + 281)), (1, .int x1), (2, .int x2)] [] := by
  obtain ⟨hx, hb, -, hown, hts, -⟩ := id O
  unfold f_X12_spare_19_b at h
  intro H locs ls hH hl
  refine lv_iload_n hx hb dX12_spare_19 rfl (lv_at hl 2 rfl) ?_
  refine lv_aload_n hx hb dX12_spare_20 rfl (lv_at hl 0 rfl) ?_
  refine h_geti O hH ly_281 rfl fl_X12_310 dX12_spare_21 ?_
  refine lv_icmp_ge (tgt := 58) hx hb dX12_spare_24 (by decide) (fun c1 => ?_) (fun c1 => ?_)
  · have h := it_pos h c1
    refine lv_aload_n hx hb dX12_spare_58 rfl (lv_at hl 0 rfl) ?_
    refine lv_iconst (v := 0) hx hb dX12_spare_59 (by decide) ?_
    refine lv_iconst (v := 1) hx hb dX12_spare_60 (by decide) ?_
    obtain ⟨y4, D2, hc3, h⟩ := bI_some h
    refine h_callVi (As := [.int 0, .int 1]) (rest := []) O hH (c_X12_its hc3) ml_X12_155 ly_281 rfl rfl hl.1 rfl ⟨Nat.le_of_ble_eq_true rfl, Nat.le_of_ble_eq_true rfl⟩ (Nat.le_of_ble_eq_true rfl) dX12_spare_61 (fun H locs hH => ?_)
    refine lv_iload_n hx hb dX12_spare_64 rfl (lv_at hl 1 rfl) ?_
    refine lv_isub hx hb dX12_spare_65 ?_
    obtain ⟨rfl, rfl⟩ := ret_i h
    exact h_iret O hr hlk hH dX12_spare_66
  · have h := it_neg h c1
    refine lv_aload_n hx hb dX12_spare_27 rfl (lv_at hl 0 rfl) ?_
    refine lv_iload_n hx hb dX12_spare_28 rfl (lv_at hl 2 rfl) ?_
    obtain ⟨y7, D5, hc6, h⟩ := bI_some h
    refine h_callVi (As := [.int x2]) (rest := []) O hH (c_X12_hasShort hc6) ml_X12_422 ly_281 rfl rfl hl.1 rfl ⟨Nat.le_of_ble_eq_true rfl, Nat.le_of_ble_eq_true rfl⟩ (Nat.le_of_ble_eq_true rfl) dX12_spare_29 (fun H locs hH => ?_)
    obtain ⟨y10, D8, hc9, h⟩ := bI_some h
    refine h_callSi (As := [.int y7]) (rest := []) O hH (c_X12_bits hc9) ml_X12_410 rfl hl.1 rfl ⟨Nat.le_of_ble_eq_true rfl, Nat.le_of_ble_eq_true rfl⟩ (Nat.le_of_ble_eq_true rfl) dX12_spare_32 (fun H locs hH => ?_)
    refine lv_iload_n hx hb dX12_spare_35 rfl (lv_at hl 1 rfl) ?_
    refine lv_icmp_le (tgt := 50) hx hb dX12_spare_36 (by decide) (fun c11 => ?_) (fun c11 => ?_)
    · have h := it_pos h c11
      refine lv_iload_n hx hb dX12_spare_50 rfl (lv_at hl 1 rfl) ?_
      exact w_X12_spare_51 O hr hlk hk19 _ _ _ h _ _ _ hH (lv_sub hl [0, 2] rfl)
    · have h := it_neg h c11
      refine lv_aload_n hx hb dX12_spare_39 rfl (lv_at hl 0 rfl) ?_
      refine lv_iload_n hx hb dX12_spare_40 rfl (lv_at hl 2 rfl) ?_
      obtain ⟨y14, D12, hc13, h⟩ := bI_some h
      refine h_callVi (As := [.int x2]) (rest := []) O hH (c_X12_hasShort hc13) ml_X12_422 ly_281 rfl rfl hl.1 rfl ⟨Nat.le_of_ble_eq_true rfl, Nat.le_of_ble_eq_true rfl⟩ (Nat.le_of_ble_eq_true rfl) dX12_spare_41 (fun H locs hH => ?_)
      obtain ⟨y17, D15, hc16, h⟩ := bI_some h
      refine h_callSi (As := [.int y14]) (rest := []) O hH (c_X12_bits hc16) ml_X12_410 rfl hl.1 rfl ⟨Nat.le_of_ble_eq_true rfl, Nat.le_of_ble_eq_true rfl⟩ (Nat.le_of_ble_eq_true rfl) dX12_spare_44 (fun H locs hH => ?_)
      refine lv_goto (tgt := 51) hx hb dX12_spare_47 (by decide) ?_
      exact w_X12_spare_51 O hr hlk hk19 _ _ _ h _ _ _ hH (lv_sub hl [0, 2] rfl)
set_option maxHeartbeats 4000000 in
theorem w_X12_spare_19 {G : va_G} {tA : Nat → ClassId} {z : Nat} {E : Ex} {p : Program} {l : Launch} {e : Env} {s : State} {m : MethodId} {args : Array Value} {below : List Frame} {meth : Method} {c : Code} {r : Int32} {D' : Dm} (O : Ok G tA z E cX12_spare RX12 3 p s m args c) (hr : meth.sig.returnType = some .int) (hlk : meth.locks = false) : ∀ (n : Nat) (x1 : Int32) (x2 : Int32) (D : Dm) (h : f_X12_spare_19 n x1 x2 D = some (r, D')), BI G tA z E p l e (rmC 32 0 0) s m args below meth c LAY D r D' 3 19 [(0, .ref (z + 281)), (1, .int x1), (2, .int x2)] [] := by
  intro n
  induction n with
  | zero => intro x1 x2 D h; exact no_some h
  | succ n ih => intro x1 x2 D h; exact w_X12_spare_19_b O hr hlk (fun x1 x2 D h => ih x1 x2 D h) x1 x2 D h
set_option maxHeartbeats 4000000 in
theorem w_X12_spare {G : va_G} {tA : Nat → ClassId} {z : Nat} {E : Ex} {p : Program} {l : Launch} {e : Env} {s : State} {m : MethodId} {args : Array Value} {below : List Frame} {meth : Method} {c : Code} {r : Int32} {D' : Dm} (O : Ok G tA z E cX12_spare RX12 3 p s m args c) (hr : meth.sig.returnType = some .int) (hlk : meth.locks = false)  (D : Dm) (h : f_X12_spare  D = some (r, D')) : BI G tA z E p l e (rmC 32 0 0) s m args below meth c LAY D r D' 3 0 [(0, .ref (z + 281))] [] := by
  obtain ⟨hx, hb, -, hown, hts, -⟩ := id O
  unfold f_X12_spare at h
  intro H locs ls hH hl
  refine lv_aload_n hx hb dX12_spare_0 rfl (lv_at hl 0 rfl) ?_
  refine lv_iconst (v := 0) hx hb dX12_spare_1 (by decide) ?_
  obtain ⟨D1, e2, h⟩ := lt_some h
  refine h_puti O hH ly_281 rfl fl_X12_1 e2 dX12_spare_2 (fun H locs hH => ?_)
  refine lv_aload_n hx hb dX12_spare_5 rfl (lv_at hl 0 rfl) ?_
  obtain ⟨y5, D3, hc4, h⟩ := bI_some h
  refine h_callVi (As := []) (rest := []) O hH (c_X12_isStanding hc4) ml_X12_579 ly_281 rfl rfl hl.1 rfl ⟨Nat.le_of_ble_eq_true rfl, Nat.le_of_ble_eq_true rfl⟩ (Nat.le_of_ble_eq_true rfl) dX12_spare_6 (fun H locs hH => ?_)
  refine lv_if_ne (tgt := 15) hx hb dX12_spare_9 (by decide) (fun c6 => ?_) (fun c6 => ?_)
  · have h := it_neg h c6
    refine lv_iconst (v := 0) hx hb dX12_spare_15 (by decide) ?_
    refine lv_istore_n (lv' := [(1, .int 0), (0, .ref (z + 281))]) hx hb dX12_spare_16 rfl hl (by decide) rfl (fun ls hl => ?_)
    refine lv_iconst (v := 0) hx hb dX12_spare_17 (by decide) ?_
    refine lv_istore_n (lv' := [(2, .int 0), (1, .int 0), (0, .ref (z + 281))]) hx hb dX12_spare_18 rfl hl (by decide) rfl (fun ls hl => ?_)
    exact w_X12_spare_19 O hr hlk FU _ _ _ h _ _ _ hH (lv_sub hl [2, 1, 0] rfl)
  · have h := it_pos h c6
    refine lv_bipush (v := (-5)) hx hb dX12_spare_12 (by decide) ?_
    obtain ⟨rfl, rfl⟩ := ret_i h
    exact h_iret O hr hlk hH dX12_spare_14
set_option maxHeartbeats 4000000 in
theorem c_X12_spare {l : Launch} {G : va_G} {tA : Nat → ClassId} {z : Nat} {E : Ex}  {D D' : Dm} {r : Int32} (h : f_X12_spare  D = some (r, D')) : CtI l yX12_spare cX12_spare 3 (some .int) G tA z E 32 0 0 [.ref (z + 281)] LAY D r LAY D' :=
  ct_BI (by decide +kernel) (Nat.le_of_ble_eq_true rfl) (fun _ _ _ _ _ _ _ _ O hr hlk => w_X12_spare O hr hlk  _ h)
set_option maxHeartbeats 4000000 in
theorem w_X12_differ {G : va_G} {tA : Nat → ClassId} {z : Nat} {E : Ex} {p : Program} {l : Launch} {e : Env} {s : State} {m : MethodId} {args : Array Value} {below : List Frame} {meth : Method} {c : Code} {r : Int32} {D' : Dm} (O : Ok G tA z E cX12_differ RX12 2 p s m args c) (hr : meth.sig.returnType = some .int) (hlk : meth.locks = false)  (D : Dm) (h : f_X12_differ  D = some (r, D')) : BI G tA z E p l e (rmC 29 0 0) s m args below meth c LAY D r D' 2 0 [(0, .ref (z + 281))] [] := by
  obtain ⟨hx, hb, -, hown, hts, -⟩ := id O
  unfold f_X12_differ at h
  intro H locs ls hH hl
  refine lv_aload_n hx hb dX12_differ_0 rfl (lv_at hl 0 rfl) ?_
  refine lv_iconst (v := 0) hx hb dX12_differ_1 (by decide) ?_
  obtain ⟨D1, e2, h⟩ := lt_some h
  refine h_puti O hH ly_281 rfl fl_X12_1 e2 dX12_differ_2 (fun H locs hH => ?_)
  refine lv_aload_n hx hb dX12_differ_5 rfl (lv_at hl 0 rfl) ?_
  refine lv_iconst (v := 0) hx hb dX12_differ_6 (by decide) ?_
  obtain ⟨y5, D3, hc4, h⟩ := bI_some h
  refine h_callVi (As := [.int 0]) (rest := []) O hH (c_X12_seeks hc4) ml_X12_536 ly_281 rfl rfl hl.1 rfl ⟨Nat.le_of_ble_eq_true rfl, Nat.le_of_ble_eq_true rfl⟩ (Nat.le_of_ble_eq_true rfl) dX12_differ_7 (fun H locs hH => ?_)
  refine lv_istore_n (lv' := [(1, .int y5), (0, .ref (z + 281))]) hx hb dX12_differ_10 rfl hl (by decide) rfl (fun ls hl => ?_)
  refine lv_iload_n hx hb dX12_differ_11 rfl (lv_at hl 0 rfl) ?_
  refine lv_iconst (v := (-1)) hx hb dX12_differ_12 (by decide) ?_
  refine lv_icmp_ne (tgt := 20) hx hb dX12_differ_13 (by decide) (fun c6 => ?_) (fun c6 => ?_)
  · have h := it_neg h c6
    refine lv_aload_n hx hb dX12_differ_20 rfl (lv_at hl 1 rfl) ?_
    refine h_getr O hH ly_281 rfl fl_X12_111 dX12_differ_21 ?_
    refine lv_iload_n hx hb dX12_differ_24 rfl (lv_at hl 0 rfl) ?_
    obtain ⟨g7, h⟩ := gd_some h
    refine h_iald O hH ly_313 g7 dX12_differ_25 ?_
    obtain ⟨rfl, rfl⟩ := ret_i h
    exact h_iret O hr hlk hH dX12_differ_26
  · have h := it_pos h c6
    refine lv_iconst (v := (-1)) hx hb dX12_differ_16 (by decide) ?_
    refine lv_goto (tgt := 26) hx hb dX12_differ_17 (by decide) ?_
    obtain ⟨rfl, rfl⟩ := ret_i h
    exact h_iret O hr hlk hH dX12_differ_26
set_option maxHeartbeats 4000000 in
theorem c_X12_differ {l : Launch} {G : va_G} {tA : Nat → ClassId} {z : Nat} {E : Ex}  {D D' : Dm} {r : Int32} (h : f_X12_differ  D = some (r, D')) : CtI l yX12_differ cX12_differ 2 (some .int) G tA z E 29 0 0 [.ref (z + 281)] LAY D r LAY D' :=
  ct_BI (by decide +kernel) (Nat.le_of_ble_eq_true rfl) (fun _ _ _ _ _ _ _ _ O hr hlk => w_X12_differ O hr hlk  _ h)
set_option maxHeartbeats 4000000 in
theorem w_X12_differs_57_b {G : va_G} {tA : Nat → ClassId} {z : Nat} {E : Ex} {p : Program} {l : Launch} {e : Env} {s : State} {m : MethodId} {args : Array Value} {below : List Frame} {meth : Method} {c : Code} {r : Int32} {D' : Dm} (O : Ok G tA z E cX12_differs RX12 5 p s m args c) (hr : meth.sig.returnType = some .int) (hlk : meth.locks = false) {k57 : Int32 → Int32 → Int32 → Int32 → Dm → Option (Int32 × Dm)} (hk57 : ∀ (x1 : Int32) (x2 : Int32) (x3 : Int32) (x4 : Int32) (D : Dm), k57 x1 x2 x3 x4 D = some (r, D') → BI G tA z E p l e (rmC 29 0 0) s m args below meth c LAY D r D' 5 57 [(0, .ref (z + 281)), (1, .int x1), (2, .int x2), (3, .int x3), (4, .int x4)] []) (x1 : Int32) (x2 : Int32) (x3 : Int32) (x4 : Int32) (D : Dm) (h : f_X12_differs_57_b k57 x1 x2 x3 x4 D = some (r, D')) : BI G tA z E p l e (rmC 29 0 0) s m args below meth c LAY D r D' 5 57 [(0, .ref (z + 281)), (1, .int x1), (2, .int x2), (3, .int x3), (4, .int x4)] [] := by
  obtain ⟨hx, hb, -, hown, hts, -⟩ := id O
  unfold f_X12_differs_57_b at h
  intro H locs ls hH hl
  refine lv_iload hx hb dX12_differs_57 (lv_at hl 4 rfl) ?_
  refine lv_iload_n hx hb dX12_differs_59 rfl (lv_at hl 1 rfl) ?_
  refine lv_icmp_le (tgt := 76) hx hb dX12_differs_60 (by decide) (fun c1 => ?_) (fun c1 => ?_)
  · have h := it_pos h c1
    refine lv_iload_n hx hb dX12_differs_76 rfl (lv_at hl 2 rfl) ?_
    refine lv_if_ne (tgt := 89) hx hb dX12_differs_77 (by decide) (fun c2 => ?_) (fun c2 => ?_)
    · have h := it_neg h c2
      refine lv_aload_n hx hb dX12_differs_89 rfl (lv_at hl 0 rfl) ?_
      refine h_getr O hH ly_281 rfl fl_X12_108 dX12_differs_90 ?_
      refine lv_iload_n hx hb dX12_differs_93 rfl (lv_at hl 3 rfl) ?_
      obtain ⟨g3, h⟩ := gd_some h
      refine h_iald O hH ly_312 g3 dX12_differs_94 ?_
      obtain ⟨rfl, rfl⟩ := ret_i h
      exact h_iret O hr hlk hH dX12_differs_95
    · have h := it_pos h c2
      refine lv_aload_n hx hb dX12_differs_80 rfl (lv_at hl 0 rfl) ?_
      refine h_getr O hH ly_281 rfl fl_X12_105 dX12_differs_81 ?_
      refine lv_iload_n hx hb dX12_differs_84 rfl (lv_at hl 3 rfl) ?_
      obtain ⟨g4, h⟩ := gd_some h
      refine h_iald O hH ly_311 g4 dX12_differs_85 ?_
      refine lv_goto (tgt := 95) hx hb dX12_differs_86 (by decide) ?_
      obtain ⟨rfl, rfl⟩ := ret_i h
      exact h_iret O hr hlk hH dX12_differs_95
  · have h := it_neg h c1
    refine lv_aload_n hx hb dX12_differs_63 rfl (lv_at hl 0 rfl) ?_
    refine h_getr O hH ly_281 rfl fl_X12_102 dX12_differs_64 ?_
    refine lv_iload_n hx hb dX12_differs_67 rfl (lv_at hl 3 rfl) ?_
    obtain ⟨g5, h⟩ := gd_some h
    refine h_iald O hH ly_310 g5 dX12_differs_68 ?_
    refine lv_topi (fun y6 e7 => ?_)
    have h := lt_at e7 h
    refine lv_istore_n (lv' := [(3, .int y6), (0, .ref (z + 281)), (1, .int x1), (2, .int x2), (4, .int x4)]) hx hb dX12_differs_69 rfl hl (by decide) rfl (fun ls hl => ?_)
    obtain ⟨y8, e9, h⟩ := lt_some h
    refine lv_iinc (v := y8) (lv' := [(4, .int y8), (3, .int y6), (0, .ref (z + 281)), (1, .int x1), (2, .int x2)]) hx hb dX12_differs_70 hl (k := 4) rfl (by rw [e9]; rfl) (by decide) rfl (fun ls hl => ?_)
    refine lv_goto (tgt := 57) hx hb dX12_differs_73 (by decide) ?_
    exact hk57 _ _ _ _ _ h _ _ _ hH (lv_sub hl [2, 3, 4, 1, 0] rfl)
set_option maxHeartbeats 4000000 in
theorem w_X12_differs_57 {G : va_G} {tA : Nat → ClassId} {z : Nat} {E : Ex} {p : Program} {l : Launch} {e : Env} {s : State} {m : MethodId} {args : Array Value} {below : List Frame} {meth : Method} {c : Code} {r : Int32} {D' : Dm} (O : Ok G tA z E cX12_differs RX12 5 p s m args c) (hr : meth.sig.returnType = some .int) (hlk : meth.locks = false) : ∀ (n : Nat) (x1 : Int32) (x2 : Int32) (x3 : Int32) (x4 : Int32) (D : Dm) (h : f_X12_differs_57 n x1 x2 x3 x4 D = some (r, D')), BI G tA z E p l e (rmC 29 0 0) s m args below meth c LAY D r D' 5 57 [(0, .ref (z + 281)), (1, .int x1), (2, .int x2), (3, .int x3), (4, .int x4)] [] := by
  intro n
  induction n with
  | zero => intro x1 x2 x3 x4 D h; exact no_some h
  | succ n ih => intro x1 x2 x3 x4 D h; exact w_X12_differs_57_b O hr hlk (fun x1 x2 x3 x4 D h => ih x1 x2 x3 x4 D h) x1 x2 x3 x4 D h
set_option maxHeartbeats 4000000 in
theorem w_X12_differs {G : va_G} {tA : Nat → ClassId} {z : Nat} {E : Ex} {p : Program} {l : Launch} {e : Env} {s : State} {m : MethodId} {args : Array Value} {below : List Frame} {meth : Method} {c : Code} {r : Int32} {D' : Dm} (O : Ok G tA z E cX12_differs RX12 5 p s m args c) (hr : meth.sig.returnType = some .int) (hlk : meth.locks = false) (x1 : Int32) (x2 : Int32) (D : Dm) (h : f_X12_differs x1 x2 D = some (r, D')) : BI G tA z E p l e (rmC 29 0 0) s m args below meth c LAY D r D' 5 0 [(0, .ref (z + 281)), (1, .int x1), (2, .int x2)] [] := by
  obtain ⟨hx, hb, -, hown, hts, -⟩ := id O
  unfold f_X12_differs at h
  intro H locs ls hH hl
  refine lv_aload_n hx hb dX12_differs_0 rfl (lv_at hl 0 rfl) ?_
  refine lv_iconst (v := 0) hx hb dX12_differs_1 (by decide) ?_
  obtain ⟨D1, e2, h⟩ := lt_some h
  refine h_puti O hH ly_281 rfl fl_X12_1 e2 dX12_differs_2 (fun H locs hH => ?_)
  refine lv_aload_n hx hb dX12_differs_5 rfl (lv_at hl 0 rfl) ?_
  refine lv_iconst (v := 0) hx hb dX12_differs_6 (by decide) ?_
  obtain ⟨y5, D3, hc4, h⟩ := bI_some h
  refine h_callVi (As := [.int 0]) (rest := []) O hH (c_X12_seeks hc4) ml_X12_536 ly_281 rfl rfl hl.1 rfl ⟨Nat.le_of_ble_eq_true rfl, Nat.le_of_ble_eq_true rfl⟩ (Nat.le_of_ble_eq_true rfl) dX12_differs_7 (fun H locs hH => ?_)
  refine lv_istore_n (lv' := [(3, .int y5), (0, .ref (z + 281)), (1, .int x1), (2, .int x2)]) hx hb dX12_differs_10 rfl hl (by decide) rfl (fun ls hl => ?_)
  refine lv_iload_n hx hb dX12_differs_11 rfl (lv_at hl 0 rfl) ?_
  refine lv_iconst (v := (-1)) hx hb dX12_differs_12 (by decide) ?_
  refine lv_icmp_eq (tgt := 44) hx hb dX12_differs_13 (by decide) (fun c6 => ?_) (fun c6 => ?_)
  · have h := it_pos h c6
    refine lv_bipush (v := (-2)) hx hb dX12_differs_44 (by decide) ?_
    obtain ⟨rfl, rfl⟩ := ret_i h
    exact h_iret O hr hlk hH dX12_differs_46
  · have h := it_neg h c6
    refine lv_iload_n hx hb dX12_differs_16 rfl (lv_at hl 2 rfl) ?_
    refine lv_i2l hx hb dX12_differs_17 rfl ?_
    refine lv_lconst (v := 0) hx hb dX12_differs_18 (by decide) ?_
    refine lv_aload_n hx hb dX12_differs_19 rfl (lv_at hl 1 rfl) ?_
    refine h_getr O hH ly_281 rfl fl_X12_111 dX12_differs_20 ?_
    refine lv_iload_n hx hb dX12_differs_23 rfl (lv_at hl 0 rfl) ?_
    obtain ⟨g7, h⟩ := gd_some h
    refine h_iald O hH ly_313 g7 dX12_differs_24 ?_
    refine lv_iconst (v := 1) hx hb dX12_differs_25 (by decide) ?_
    refine lv_isub hx hb dX12_differs_26 ?_
    refine lv_i2l hx hb dX12_differs_27 rfl ?_
    obtain ⟨y10, D8, hc9, h⟩ := bI_some h
    refine h_callSi (As := [.long (Int32.toInt64 x1), .long 0, .long (Int32.toInt64 ((D3 313 (Int32.toNatClampNeg y5)) - 1))]) (rest := []) O hH (c_X12_isIn hc9) ml_X12_182 rfl hl.1 rfl ⟨Nat.le_of_ble_eq_true rfl, Nat.le_of_ble_eq_true rfl⟩ (Nat.le_of_ble_eq_true rfl) dX12_differs_28 (fun H locs hH => ?_)
    refine lv_if_eq (tgt := 44) hx hb dX12_differs_31 (by decide) (fun c11 => ?_) (fun c11 => ?_)
    · have h := it_pos h c11
      refine lv_bipush (v := (-2)) hx hb dX12_differs_44 (by decide) ?_
      obtain ⟨rfl, rfl⟩ := ret_i h
      exact h_iret O hr hlk hH dX12_differs_46
    · have h := it_neg h c11
      refine lv_iload_n hx hb dX12_differs_34 rfl (lv_at hl 3 rfl) ?_
      refine lv_i2l hx hb dX12_differs_35 rfl ?_
      refine lv_lconst (v := 0) hx hb dX12_differs_36 (by decide) ?_
      refine lv_lconst (v := 1) hx hb dX12_differs_37 (by decide) ?_
      obtain ⟨y14, D12, hc13, h⟩ := bI_some h
      refine h_callSi (As := [.long (Int32.toInt64 x2), .long 0, .long 1]) (rest := []) O hH (c_X12_isIn hc13) ml_X12_182 rfl hl.1 rfl ⟨Nat.le_of_ble_eq_true rfl, Nat.le_of_ble_eq_true rfl⟩ (Nat.le_of_ble_eq_true rfl) dX12_differs_38 (fun H locs hH => ?_)
      refine lv_if_ne (tgt := 47) hx hb dX12_differs_41 (by decide) (fun c15 => ?_) (fun c15 => ?_)
      · have h := it_neg h c15
        refine lv_aload_n hx hb dX12_differs_47 rfl (lv_at hl 1 rfl) ?_
        refine h_getr O hH ly_281 rfl fl_X12_111 dX12_differs_48 ?_
        refine lv_iload_n hx hb dX12_differs_51 rfl (lv_at hl 0 rfl) ?_
        obtain ⟨g16, h⟩ := gd_some h
        refine h_iald O hH ly_313 g16 dX12_differs_52 ?_
        refine lv_iconst (v := 1) hx hb dX12_differs_53 (by decide) ?_
        refine lv_isub hx hb dX12_differs_54 ?_
        refine lv_topi (fun y17 e18 => ?_)
        have h := lt_at e18 h
        refine lv_istore (lv' := [(4, .int y17), (3, .int y5), (0, .ref (z + 281)), (1, .int x1), (2, .int x2)]) hx hb dX12_differs_55 hl (by decide) rfl (fun ls hl => ?_)
        exact w_X12_differs_57 O hr hlk FU _ _ _ _ _ h _ _ _ hH (lv_sub hl [2, 3, 4, 1, 0] rfl)
      · have h := it_pos h c15
        refine lv_bipush (v := (-2)) hx hb dX12_differs_44 (by decide) ?_
        obtain ⟨rfl, rfl⟩ := ret_i h
        exact h_iret O hr hlk hH dX12_differs_46
set_option maxHeartbeats 4000000 in
theorem c_X12_differs {l : Launch} {G : va_G} {tA : Nat → ClassId} {z : Nat} {E : Ex} {x1 : Int32} {x2 : Int32} {D D' : Dm} {r : Int32} (h : f_X12_differs x1 x2 D = some (r, D')) : CtI l yX12_differs cX12_differs 5 (some .int) G tA z E 29 0 0 [.ref (z + 281), .int x1, .int x2] LAY D r LAY D' :=
  ct_BI (by decide +kernel) (Nat.le_of_ble_eq_true rfl) (fun _ _ _ _ _ _ _ _ O hr hlk => w_X12_differs O hr hlk _ _ _ h)
