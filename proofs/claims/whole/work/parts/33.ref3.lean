theorem dX12_asks_0 : decode cX12_asks 0 = .ok (.aload_n 0, 1) := by decide +kernel
theorem dX12_asks_1 : decode cX12_asks 1 = .ok (.getfield 348, 3) := by decide +kernel
theorem dX12_asks_4 : decode cX12_asks 4 = .ok (.ifCond .eq 4, 3) := by decide +kernel
theorem dX12_asks_7 : decode cX12_asks 7 = .ok (.return_, 1) := by decide +kernel
theorem dX12_asks_8 : decode cX12_asks 8 = .ok (.iload_n 2, 1) := by decide +kernel
theorem dX12_asks_9 : decode cX12_asks 9 = .ok (.iload_n 3, 1) := by decide +kernel
theorem dX12_asks_10 : decode cX12_asks 10 = .ok (.if_icmp .ne 10, 3) := by decide +kernel
theorem dX12_asks_13 : decode cX12_asks 13 = .ok (.aload_n 0, 1) := by decide +kernel
theorem dX12_asks_14 : decode cX12_asks 14 = .ok (.iload_n 1, 1) := by decide +kernel
theorem dX12_asks_15 : decode cX12_asks 15 = .ok (.iload_n 3, 1) := by decide +kernel
theorem dX12_asks_16 : decode cX12_asks 16 = .ok (.invokevirtual 351, 3) := by decide +kernel
theorem dX12_asks_19 : decode cX12_asks 19 = .ok (.return_, 1) := by decide +kernel
theorem dX12_asks_20 : decode cX12_asks 20 = .ok (.aload_n 0, 1) := by decide +kernel
theorem dX12_asks_21 : decode cX12_asks 21 = .ok (.getfield 75, 3) := by decide +kernel
theorem dX12_asks_24 : decode cX12_asks 24 = .ok (.iload_n 2, 1) := by decide +kernel
theorem dX12_asks_25 : decode cX12_asks 25 = .ok (.bipush 100, 2) := by decide +kernel
theorem dX12_asks_27 : decode cX12_asks 27 = .ok (.iload_n 2, 1) := by decide +kernel
theorem dX12_asks_28 : decode cX12_asks 28 = .ok (.iadd, 1) := by decide +kernel
theorem dX12_asks_29 : decode cX12_asks 29 = .ok (.iastore, 1) := by decide +kernel
theorem dX12_asks_30 : decode cX12_asks 30 = .ok (.aload_n 0, 1) := by decide +kernel
theorem dX12_asks_31 : decode cX12_asks 31 = .ok (.iload_n 1, 1) := by decide +kernel
theorem dX12_asks_32 : decode cX12_asks 32 = .ok (.iload_n 2, 1) := by decide +kernel
theorem dX12_asks_33 : decode cX12_asks 33 = .ok (.iconst 1, 1) := by decide +kernel
theorem dX12_asks_34 : decode cX12_asks 34 = .ok (.iadd, 1) := by decide +kernel
theorem dX12_asks_35 : decode cX12_asks 35 = .ok (.iload_n 3, 1) := by decide +kernel
theorem dX12_asks_36 : decode cX12_asks 36 = .ok (.iload 4, 2) := by decide +kernel
theorem dX12_asks_38 : decode cX12_asks 38 = .ok (.invokevirtual 354, 3) := by decide +kernel
theorem dX12_asks_41 : decode cX12_asks 41 = .ok (.iconst 0, 1) := by decide +kernel
theorem dX12_asks_42 : decode cX12_asks 42 = .ok (.istore 5, 2) := by decide +kernel
theorem dX12_asks_44 : decode cX12_asks 44 = .ok (.iload 5, 2) := by decide +kernel
theorem dX12_asks_46 : decode cX12_asks 46 = .ok (.iload 4, 2) := by decide +kernel
theorem dX12_asks_48 : decode cX12_asks 48 = .ok (.if_icmp .ge 78, 3) := by decide +kernel
theorem dX12_asks_51 : decode cX12_asks 51 = .ok (.iconst 0, 1) := by decide +kernel
theorem dX12_asks_52 : decode cX12_asks 52 = .ok (.istore 6, 2) := by decide +kernel
theorem dX12_asks_54 : decode cX12_asks 54 = .ok (.iconst 0, 1) := by decide +kernel
theorem dX12_asks_55 : decode cX12_asks 55 = .ok (.istore 7, 2) := by decide +kernel
theorem dX12_asks_57 : decode cX12_asks 57 = .ok (.iload 7, 2) := by decide +kernel
theorem dX12_asks_59 : decode cX12_asks 59 = .ok (.iload_n 2, 1) := by decide +kernel
theorem dX12_asks_60 : decode cX12_asks 60 = .ok (.if_icmp .ge 33, 3) := by decide +kernel
theorem dX12_asks_63 : decode cX12_asks 63 = .ok (.iload 6, 2) := by decide +kernel
theorem dX12_asks_65 : decode cX12_asks 65 = .ok (.ifCond .ne 15, 3) := by decide +kernel
theorem dX12_asks_68 : decode cX12_asks 68 = .ok (.aload_n 0, 1) := by decide +kernel
theorem dX12_asks_69 : decode cX12_asks 69 = .ok (.getfield 75, 3) := by decide +kernel
theorem dX12_asks_72 : decode cX12_asks 72 = .ok (.iload 7, 2) := by decide +kernel
theorem dX12_asks_74 : decode cX12_asks 74 = .ok (.iaload, 1) := by decide +kernel
theorem dX12_asks_75 : decode cX12_asks 75 = .ok (.iload 5, 2) := by decide +kernel
theorem dX12_asks_77 : decode cX12_asks 77 = .ok (.if_icmp .ne 7, 3) := by decide +kernel
theorem dX12_asks_80 : decode cX12_asks 80 = .ok (.iconst 1, 1) := by decide +kernel
theorem dX12_asks_81 : decode cX12_asks 81 = .ok (.goto 4, 3) := by decide +kernel
theorem dX12_asks_84 : decode cX12_asks 84 = .ok (.iconst 0, 1) := by decide +kernel
theorem dX12_asks_85 : decode cX12_asks 85 = .ok (.istore 6, 2) := by decide +kernel
theorem dX12_asks_87 : decode cX12_asks 87 = .ok (.iinc 7 1, 3) := by decide +kernel
theorem dX12_asks_90 : decode cX12_asks 90 = .ok (.goto (-33), 3) := by decide +kernel
theorem dX12_asks_93 : decode cX12_asks 93 = .ok (.iload 6, 2) := by decide +kernel
theorem dX12_asks_95 : decode cX12_asks 95 = .ok (.ifCond .eq 6, 3) := by decide +kernel
theorem dX12_asks_98 : decode cX12_asks 98 = .ok (.goto 22, 3) := by decide +kernel
theorem dX12_asks_101 : decode cX12_asks 101 = .ok (.aload_n 0, 1) := by decide +kernel
theorem dX12_asks_102 : decode cX12_asks 102 = .ok (.getfield 75, 3) := by decide +kernel
theorem dX12_asks_105 : decode cX12_asks 105 = .ok (.iload_n 2, 1) := by decide +kernel
theorem dX12_asks_106 : decode cX12_asks 106 = .ok (.iload 5, 2) := by decide +kernel
theorem dX12_asks_108 : decode cX12_asks 108 = .ok (.iastore, 1) := by decide +kernel
theorem dX12_asks_109 : decode cX12_asks 109 = .ok (.aload_n 0, 1) := by decide +kernel
theorem dX12_asks_110 : decode cX12_asks 110 = .ok (.iload_n 1, 1) := by decide +kernel
theorem dX12_asks_111 : decode cX12_asks 111 = .ok (.iload_n 2, 1) := by decide +kernel
theorem dX12_asks_112 : decode cX12_asks 112 = .ok (.iconst 1, 1) := by decide +kernel
theorem dX12_asks_113 : decode cX12_asks 113 = .ok (.iadd, 1) := by decide +kernel
theorem dX12_asks_114 : decode cX12_asks 114 = .ok (.iload_n 3, 1) := by decide +kernel
theorem dX12_asks_115 : decode cX12_asks 115 = .ok (.iload 4, 2) := by decide +kernel
theorem dX12_asks_117 : decode cX12_asks 117 = .ok (.invokevirtual 354, 3) := by decide +kernel
theorem dX12_asks_120 : decode cX12_asks 120 = .ok (.iinc 5 1, 3) := by decide +kernel
theorem dX12_asks_123 : decode cX12_asks 123 = .ok (.goto (-79), 3) := by decide +kernel
theorem dX12_asks_126 : decode cX12_asks 126 = .ok (.return_, 1) := by decide +kernel
theorem dX12_remembers_0 : decode cX12_remembers 0 = .ok (.aload_n 0, 1) := by decide +kernel
theorem dX12_remembers_1 : decode cX12_remembers 1 = .ok (.iload_n 1, 1) := by decide +kernel
theorem dX12_remembers_2 : decode cX12_remembers 2 = .ok (.putfield 360, 3) := by decide +kernel
theorem dX12_remembers_5 : decode cX12_remembers 5 = .ok (.aload_n 0, 1) := by decide +kernel
theorem dX12_remembers_6 : decode cX12_remembers 6 = .ok (.iconst (-1), 1) := by decide +kernel
theorem dX12_remembers_7 : decode cX12_remembers 7 = .ok (.putfield 363, 3) := by decide +kernel
theorem dX12_remembers_10 : decode cX12_remembers 10 = .ok (.aload_n 0, 1) := by decide +kernel
theorem dX12_remembers_11 : decode cX12_remembers 11 = .ok (.iconst 0, 1) := by decide +kernel
theorem dX12_remembers_12 : decode cX12_remembers 12 = .ok (.putfield 348, 3) := by decide +kernel
theorem dX12_remembers_15 : decode cX12_remembers 15 = .ok (.iload_n 2, 1) := by decide +kernel
theorem dX12_remembers_16 : decode cX12_remembers 16 = .ok (.aload_n 0, 1) := by decide +kernel
theorem dX12_remembers_17 : decode cX12_remembers 17 = .ok (.getfield 313, 3) := by decide +kernel
theorem dX12_remembers_20 : decode cX12_remembers 20 = .ok (.if_icmp .ne 5, 3) := by decide +kernel
theorem dX12_remembers_23 : decode cX12_remembers 23 = .ok (.iload_n 1, 1) := by decide +kernel
theorem dX12_remembers_24 : decode cX12_remembers 24 = .ok (.ireturn, 1) := by decide +kernel
theorem dX12_remembers_25 : decode cX12_remembers 25 = .ok (.aload_n 0, 1) := by decide +kernel
theorem dX12_remembers_26 : decode cX12_remembers 26 = .ok (.aload_n 0, 1) := by decide +kernel
theorem dX12_remembers_27 : decode cX12_remembers 27 = .ok (.getfield 72, 3) := by decide +kernel
theorem dX12_remembers_30 : decode cX12_remembers 30 = .ok (.iconst 0, 1) := by decide +kernel
theorem dX12_remembers_31 : decode cX12_remembers 31 = .ok (.aload_n 0, 1) := by decide +kernel
theorem dX12_remembers_32 : decode cX12_remembers 32 = .ok (.getfield 319, 3) := by decide +kernel
theorem dX12_remembers_35 : decode cX12_remembers 35 = .ok (.invokevirtual 328, 3) := by decide +kernel
theorem dX12_remembers_38 : decode cX12_remembers 38 = .ok (.istore_n 3, 1) := by decide +kernel
theorem dX12_remembers_39 : decode cX12_remembers 39 = .ok (.aload_n 0, 1) := by decide +kernel
theorem dX12_remembers_40 : decode cX12_remembers 40 = .ok (.invokevirtual 369, 3) := by decide +kernel
theorem dX12_remembers_43 : decode cX12_remembers 43 = .ok (.iload_n 2, 1) := by decide +kernel
theorem dX12_remembers_44 : decode cX12_remembers 44 = .ok (.istore 4, 2) := by decide +kernel
theorem dX12_remembers_46 : decode cX12_remembers 46 = .ok (.iload 4, 2) := by decide +kernel
theorem dX12_remembers_48 : decode cX12_remembers 48 = .ok (.aload_n 0, 1) := by decide +kernel
theorem dX12_remembers_49 : decode cX12_remembers 49 = .ok (.getfield 313, 3) := by decide +kernel
theorem dX12_remembers_52 : decode cX12_remembers 52 = .ok (.if_icmp .ge 23, 3) := by decide +kernel
theorem dX12_remembers_55 : decode cX12_remembers 55 = .ok (.aload_n 0, 1) := by decide +kernel
theorem dX12_remembers_56 : decode cX12_remembers 56 = .ok (.iload 4, 2) := by decide +kernel
theorem dX12_remembers_58 : decode cX12_remembers 58 = .ok (.iconst 0, 1) := by decide +kernel
theorem dX12_remembers_59 : decode cX12_remembers 59 = .ok (.aload_n 0, 1) := by decide +kernel
theorem dX12_remembers_60 : decode cX12_remembers 60 = .ok (.iload 4, 2) := by decide +kernel
theorem dX12_remembers_62 : decode cX12_remembers 62 = .ok (.invokevirtual 372, 3) := by decide +kernel
theorem dX12_remembers_65 : decode cX12_remembers 65 = .ok (.iload_n 3, 1) := by decide +kernel
theorem dX12_remembers_66 : decode cX12_remembers 66 = .ok (.invokevirtual 354, 3) := by decide +kernel
theorem dX12_remembers_69 : decode cX12_remembers 69 = .ok (.iinc 4 1, 3) := by decide +kernel
theorem dX12_remembers_72 : decode cX12_remembers 72 = .ok (.goto (-26), 3) := by decide +kernel
theorem dX12_remembers_75 : decode cX12_remembers 75 = .ok (.aload_n 0, 1) := by decide +kernel
theorem dX12_remembers_76 : decode cX12_remembers 76 = .ok (.getfield 360, 3) := by decide +kernel
theorem dX12_remembers_79 : decode cX12_remembers 79 = .ok (.ireturn, 1) := by decide +kernel
theorem dX12_shows_0 : decode cX12_shows 0 = .ok (.aload_n 0, 1) := by decide +kernel
theorem dX12_shows_1 : decode cX12_shows 1 = .ok (.iconst 0, 1) := by decide +kernel
theorem dX12_shows_2 : decode cX12_shows 2 = .ok (.putfield 360, 3) := by decide +kernel
theorem dX12_shows_5 : decode cX12_shows 5 = .ok (.aload_n 0, 1) := by decide +kernel
theorem dX12_shows_6 : decode cX12_shows 6 = .ok (.iload_n 1, 1) := by decide +kernel
theorem dX12_shows_7 : decode cX12_shows 7 = .ok (.putfield 363, 3) := by decide +kernel
theorem dX12_shows_10 : decode cX12_shows 10 = .ok (.aload_n 0, 1) := by decide +kernel
theorem dX12_shows_11 : decode cX12_shows 11 = .ok (.iconst 0, 1) := by decide +kernel
theorem dX12_shows_12 : decode cX12_shows 12 = .ok (.putfield 348, 3) := by decide +kernel
theorem dX12_shows_15 : decode cX12_shows 15 = .ok (.aload_n 0, 1) := by decide +kernel
theorem dX12_shows_16 : decode cX12_shows 16 = .ok (.aload_n 0, 1) := by decide +kernel
theorem dX12_shows_17 : decode cX12_shows 17 = .ok (.getfield 72, 3) := by decide +kernel
theorem dX12_shows_20 : decode cX12_shows 20 = .ok (.iconst 0, 1) := by decide +kernel
theorem dX12_shows_21 : decode cX12_shows 21 = .ok (.aload_n 0, 1) := by decide +kernel
theorem dX12_shows_22 : decode cX12_shows 22 = .ok (.getfield 319, 3) := by decide +kernel
theorem dX12_shows_25 : decode cX12_shows 25 = .ok (.invokevirtual 328, 3) := by decide +kernel
theorem dX12_shows_28 : decode cX12_shows 28 = .ok (.istore_n 2, 1) := by decide +kernel
theorem dX12_shows_29 : decode cX12_shows 29 = .ok (.aload_n 0, 1) := by decide +kernel
theorem dX12_shows_30 : decode cX12_shows 30 = .ok (.invokevirtual 369, 3) := by decide +kernel
theorem dX12_shows_33 : decode cX12_shows 33 = .ok (.iconst 0, 1) := by decide +kernel
theorem dX12_shows_34 : decode cX12_shows 34 = .ok (.istore_n 3, 1) := by decide +kernel
theorem dX12_shows_35 : decode cX12_shows 35 = .ok (.iload_n 3, 1) := by decide +kernel
theorem dX12_shows_36 : decode cX12_shows 36 = .ok (.aload_n 0, 1) := by decide +kernel
theorem dX12_shows_37 : decode cX12_shows 37 = .ok (.getfield 313, 3) := by decide +kernel
theorem dX12_shows_40 : decode cX12_shows 40 = .ok (.if_icmp .ge 28, 3) := by decide +kernel
theorem dX12_shows_43 : decode cX12_shows 43 = .ok (.aload_n 0, 1) := by decide +kernel
theorem dX12_shows_44 : decode cX12_shows 44 = .ok (.getfield 348, 3) := by decide +kernel
theorem dX12_shows_47 : decode cX12_shows 47 = .ok (.ifCond .ne 21, 3) := by decide +kernel
theorem dX12_shows_50 : decode cX12_shows 50 = .ok (.aload_n 0, 1) := by decide +kernel
theorem dX12_shows_51 : decode cX12_shows 51 = .ok (.iload_n 3, 1) := by decide +kernel
theorem dX12_shows_52 : decode cX12_shows 52 = .ok (.iconst 0, 1) := by decide +kernel
theorem dX12_shows_53 : decode cX12_shows 53 = .ok (.aload_n 0, 1) := by decide +kernel
theorem dX12_shows_54 : decode cX12_shows 54 = .ok (.iload_n 3, 1) := by decide +kernel
theorem dX12_shows_55 : decode cX12_shows 55 = .ok (.invokevirtual 372, 3) := by decide +kernel
theorem dX12_shows_58 : decode cX12_shows 58 = .ok (.iload_n 2, 1) := by decide +kernel
theorem dX12_shows_59 : decode cX12_shows 59 = .ok (.invokevirtual 354, 3) := by decide +kernel
theorem dX12_shows_62 : decode cX12_shows 62 = .ok (.iinc 3 1, 3) := by decide +kernel
theorem dX12_shows_65 : decode cX12_shows 65 = .ok (.goto (-30), 3) := by decide +kernel
theorem dX12_shows_68 : decode cX12_shows 68 = .ok (.return_, 1) := by decide +kernel
theorem dX12_hasShort_0 : decode cX12_hasShort 0 = .ok (.aload_n 0, 1) := by decide +kernel
theorem dX12_hasShort_1 : decode cX12_hasShort 1 = .ok (.getfield 60, 3) := by decide +kernel
theorem dX12_hasShort_4 : decode cX12_hasShort 4 = .ok (.iload_n 1, 1) := by decide +kernel
theorem dX12_hasShort_5 : decode cX12_hasShort 5 = .ok (.iaload, 1) := by decide +kernel
theorem dX12_hasShort_6 : decode cX12_hasShort 6 = .ok (.aload_n 0, 1) := by decide +kernel
theorem dX12_hasShort_7 : decode cX12_hasShort 7 = .ok (.getfield 313, 3) := by decide +kernel
theorem dX12_hasShort_10 : decode cX12_hasShort 10 = .ok (.if_icmp .ge 40, 3) := by decide +kernel
theorem dX12_hasShort_13 : decode cX12_hasShort 13 = .ok (.aload_n 0, 1) := by decide +kernel
theorem dX12_hasShort_14 : decode cX12_hasShort 14 = .ok (.iload_n 1, 1) := by decide +kernel
theorem dX12_hasShort_15 : decode cX12_hasShort 15 = .ok (.invokevirtual 322, 3) := by decide +kernel
theorem dX12_hasShort_18 : decode cX12_hasShort 18 = .ok (.aload_n 0, 1) := by decide +kernel
theorem dX12_hasShort_19 : decode cX12_hasShort 19 = .ok (.getfield 57, 3) := by decide +kernel
theorem dX12_hasShort_22 : decode cX12_hasShort 22 = .ok (.iload_n 1, 1) := by decide +kernel
theorem dX12_hasShort_23 : decode cX12_hasShort 23 = .ok (.aload_n 0, 1) := by decide +kernel
theorem dX12_hasShort_24 : decode cX12_hasShort 24 = .ok (.aload_n 0, 1) := by decide +kernel
theorem dX12_hasShort_25 : decode cX12_hasShort 25 = .ok (.getfield 57, 3) := by decide +kernel
theorem dX12_hasShort_28 : decode cX12_hasShort 28 = .ok (.iload_n 1, 1) := by decide +kernel
theorem dX12_hasShort_29 : decode cX12_hasShort 29 = .ok (.iaload, 1) := by decide +kernel
theorem dX12_hasShort_30 : decode cX12_hasShort 30 = .ok (.aload_n 0, 1) := by decide +kernel
theorem dX12_hasShort_31 : decode cX12_hasShort 31 = .ok (.getfield 60, 3) := by decide +kernel
theorem dX12_hasShort_34 : decode cX12_hasShort 34 = .ok (.iload_n 1, 1) := by decide +kernel
theorem dX12_hasShort_35 : decode cX12_hasShort 35 = .ok (.iaload, 1) := by decide +kernel
theorem dX12_hasShort_36 : decode cX12_hasShort 36 = .ok (.invokevirtual 375, 3) := by decide +kernel
theorem dX12_hasShort_39 : decode cX12_hasShort 39 = .ok (.iastore, 1) := by decide +kernel
theorem dX12_hasShort_40 : decode cX12_hasShort 40 = .ok (.aload_n 0, 1) := by decide +kernel
theorem dX12_hasShort_41 : decode cX12_hasShort 41 = .ok (.getfield 60, 3) := by decide +kernel
theorem dX12_hasShort_44 : decode cX12_hasShort 44 = .ok (.iload_n 1, 1) := by decide +kernel
theorem dX12_hasShort_45 : decode cX12_hasShort 45 = .ok (.aload_n 0, 1) := by decide +kernel
theorem dX12_hasShort_46 : decode cX12_hasShort 46 = .ok (.getfield 313, 3) := by decide +kernel
theorem dX12_hasShort_49 : decode cX12_hasShort 49 = .ok (.iastore, 1) := by decide +kernel
theorem dX12_hasShort_50 : decode cX12_hasShort 50 = .ok (.aload_n 0, 1) := by decide +kernel
theorem dX12_hasShort_51 : decode cX12_hasShort 51 = .ok (.getfield 57, 3) := by decide +kernel
theorem dX12_hasShort_54 : decode cX12_hasShort 54 = .ok (.iload_n 1, 1) := by decide +kernel
theorem dX12_hasShort_55 : decode cX12_hasShort 55 = .ok (.iaload, 1) := by decide +kernel
theorem dX12_hasShort_56 : decode cX12_hasShort 56 = .ok (.ireturn, 1) := by decide +kernel
theorem dX12_longAt_0 : decode cX12_longAt 0 = .ok (.bipush 8, 2) := by decide +kernel
theorem dX12_longAt_2 : decode cX12_longAt 2 = .ok (.iload_n 0, 1) := by decide +kernel
theorem dX12_longAt_3 : decode cX12_longAt 3 = .ok (.imul, 1) := by decide +kernel
theorem dX12_longAt_4 : decode cX12_longAt 4 = .ok (.iconst 4, 1) := by decide +kernel
theorem dX12_longAt_5 : decode cX12_longAt 5 = .ok (.iload_n 1, 1) := by decide +kernel
theorem dX12_longAt_6 : decode cX12_longAt 6 = .ok (.imul, 1) := by decide +kernel
theorem dX12_longAt_7 : decode cX12_longAt 7 = .ok (.iadd, 1) := by decide +kernel
theorem dX12_longAt_8 : decode cX12_longAt 8 = .ok (.iload_n 2, 1) := by decide +kernel
theorem dX12_longAt_9 : decode cX12_longAt 9 = .ok (.iadd, 1) := by decide +kernel
theorem dX12_longAt_10 : decode cX12_longAt 10 = .ok (.ireturn, 1) := by decide +kernel
theorem dX12_hasLong_0 : decode cX12_hasLong 0 = .ok (.iload_n 1, 1) := by decide +kernel
theorem dX12_hasLong_1 : decode cX12_hasLong 1 = .ok (.iload_n 2, 1) := by decide +kernel
theorem dX12_hasLong_2 : decode cX12_hasLong 2 = .ok (.iload_n 3, 1) := by decide +kernel
theorem dX12_hasLong_3 : decode cX12_hasLong 3 = .ok (.invokestatic 378, 3) := by decide +kernel
theorem dX12_hasLong_6 : decode cX12_hasLong 6 = .ok (.istore 4, 2) := by decide +kernel
theorem dX12_hasLong_8 : decode cX12_hasLong 8 = .ok (.aload_n 0, 1) := by decide +kernel
theorem dX12_hasLong_9 : decode cX12_hasLong 9 = .ok (.getfield 66, 3) := by decide +kernel
theorem dX12_hasLong_12 : decode cX12_hasLong 12 = .ok (.iload 4, 2) := by decide +kernel
theorem dX12_hasLong_14 : decode cX12_hasLong 14 = .ok (.iaload, 1) := by decide +kernel
theorem dX12_hasLong_15 : decode cX12_hasLong 15 = .ok (.aload_n 0, 1) := by decide +kernel
theorem dX12_hasLong_16 : decode cX12_hasLong 16 = .ok (.getfield 313, 3) := by decide +kernel
theorem dX12_hasLong_19 : decode cX12_hasLong 19 = .ok (.if_icmp .ge 46, 3) := by decide +kernel
theorem dX12_hasLong_22 : decode cX12_hasLong 22 = .ok (.aload_n 0, 1) := by decide +kernel
theorem dX12_hasLong_23 : decode cX12_hasLong 23 = .ok (.iload_n 1, 1) := by decide +kernel
theorem dX12_hasLong_24 : decode cX12_hasLong 24 = .ok (.iload_n 2, 1) := by decide +kernel
theorem dX12_hasLong_25 : decode cX12_hasLong 25 = .ok (.iload_n 3, 1) := by decide +kernel
theorem dX12_hasLong_26 : decode cX12_hasLong 26 = .ok (.invokevirtual 381, 3) := by decide +kernel
theorem dX12_hasLong_29 : decode cX12_hasLong 29 = .ok (.aload_n 0, 1) := by decide +kernel
theorem dX12_hasLong_30 : decode cX12_hasLong 30 = .ok (.getfield 63, 3) := by decide +kernel
theorem dX12_hasLong_33 : decode cX12_hasLong 33 = .ok (.iload 4, 2) := by decide +kernel
theorem dX12_hasLong_35 : decode cX12_hasLong 35 = .ok (.aload_n 0, 1) := by decide +kernel
theorem dX12_hasLong_36 : decode cX12_hasLong 36 = .ok (.aload_n 0, 1) := by decide +kernel
theorem dX12_hasLong_37 : decode cX12_hasLong 37 = .ok (.getfield 63, 3) := by decide +kernel
theorem dX12_hasLong_40 : decode cX12_hasLong 40 = .ok (.iload 4, 2) := by decide +kernel
theorem dX12_hasLong_42 : decode cX12_hasLong 42 = .ok (.iaload, 1) := by decide +kernel
theorem dX12_hasLong_43 : decode cX12_hasLong 43 = .ok (.aload_n 0, 1) := by decide +kernel
theorem dX12_hasLong_44 : decode cX12_hasLong 44 = .ok (.getfield 66, 3) := by decide +kernel
theorem dX12_hasLong_47 : decode cX12_hasLong 47 = .ok (.iload 4, 2) := by decide +kernel
theorem dX12_hasLong_49 : decode cX12_hasLong 49 = .ok (.iaload, 1) := by decide +kernel
theorem dX12_hasLong_50 : decode cX12_hasLong 50 = .ok (.invokevirtual 375, 3) := by decide +kernel
theorem dX12_hasLong_53 : decode cX12_hasLong 53 = .ok (.iastore, 1) := by decide +kernel
theorem dX12_hasLong_54 : decode cX12_hasLong 54 = .ok (.aload_n 0, 1) := by decide +kernel
theorem dX12_hasLong_55 : decode cX12_hasLong 55 = .ok (.getfield 66, 3) := by decide +kernel
theorem dX12_hasLong_58 : decode cX12_hasLong 58 = .ok (.iload 4, 2) := by decide +kernel
theorem dX12_hasLong_60 : decode cX12_hasLong 60 = .ok (.aload_n 0, 1) := by decide +kernel
theorem dX12_hasLong_61 : decode cX12_hasLong 61 = .ok (.getfield 313, 3) := by decide +kernel
theorem dX12_hasLong_64 : decode cX12_hasLong 64 = .ok (.iastore, 1) := by decide +kernel
theorem dX12_hasLong_65 : decode cX12_hasLong 65 = .ok (.aload_n 0, 1) := by decide +kernel
theorem dX12_hasLong_66 : decode cX12_hasLong 66 = .ok (.getfield 63, 3) := by decide +kernel
theorem dX12_hasLong_69 : decode cX12_hasLong 69 = .ok (.iload 4, 2) := by decide +kernel
theorem dX12_hasLong_71 : decode cX12_hasLong 71 = .ok (.iaload, 1) := by decide +kernel
theorem dX12_hasLong_72 : decode cX12_hasLong 72 = .ok (.ireturn, 1) := by decide +kernel
theorem dX12_bits_0 : decode cX12_bits 0 = .ok (.iload_n 0, 1) := by decide +kernel
theorem dX12_bits_1 : decode cX12_bits 1 = .ok (.invokestatic 384, 3) := by decide +kernel
theorem dX12_bits_4 : decode cX12_bits 4 = .ok (.ireturn, 1) := by decide +kernel
theorem dX12_nameAt_0 : decode cX12_nameAt 0 = .ok (.iconst 0, 1) := by decide +kernel
theorem dX12_nameAt_1 : decode cX12_nameAt 1 = .ok (.istore_n 2, 1) := by decide +kernel
theorem dX12_nameAt_2 : decode cX12_nameAt 2 = .ok (.iconst 0, 1) := by decide +kernel
theorem dX12_nameAt_3 : decode cX12_nameAt 3 = .ok (.istore_n 3, 1) := by decide +kernel
theorem dX12_nameAt_4 : decode cX12_nameAt 4 = .ok (.iload_n 3, 1) := by decide +kernel
theorem dX12_nameAt_5 : decode cX12_nameAt 5 = .ok (.bipush 31, 2) := by decide +kernel
theorem dX12_nameAt_7 : decode cX12_nameAt 7 = .ok (.if_icmp .ge 30, 3) := by decide +kernel
theorem dX12_nameAt_10 : decode cX12_nameAt 10 = .ok (.iload_n 0, 1) := by decide +kernel
theorem dX12_nameAt_11 : decode cX12_nameAt 11 = .ok (.iload_n 3, 1) := by decide +kernel
theorem dX12_nameAt_12 : decode cX12_nameAt 12 = .ok (.ishr, 1) := by decide +kernel
theorem dX12_nameAt_13 : decode cX12_nameAt 13 = .ok (.iconst 1, 1) := by decide +kernel
theorem dX12_nameAt_14 : decode cX12_nameAt 14 = .ok (.iand, 1) := by decide +kernel
theorem dX12_nameAt_15 : decode cX12_nameAt 15 = .ok (.ifCond .ne 6, 3) := by decide +kernel
theorem dX12_nameAt_18 : decode cX12_nameAt 18 = .ok (.goto 13, 3) := by decide +kernel
theorem dX12_nameAt_21 : decode cX12_nameAt 21 = .ok (.iload_n 2, 1) := by decide +kernel
theorem dX12_nameAt_22 : decode cX12_nameAt 22 = .ok (.iload_n 1, 1) := by decide +kernel
theorem dX12_nameAt_23 : decode cX12_nameAt 23 = .ok (.if_icmp .ne 5, 3) := by decide +kernel
theorem dX12_nameAt_26 : decode cX12_nameAt 26 = .ok (.iload_n 3, 1) := by decide +kernel
theorem dX12_nameAt_27 : decode cX12_nameAt 27 = .ok (.ireturn, 1) := by decide +kernel
theorem dX12_nameAt_28 : decode cX12_nameAt 28 = .ok (.iinc 2 1, 3) := by decide +kernel
theorem dX12_nameAt_31 : decode cX12_nameAt 31 = .ok (.iinc 3 1, 3) := by decide +kernel
theorem dX12_nameAt_34 : decode cX12_nameAt 34 = .ok (.goto (-30), 3) := by decide +kernel
theorem dX12_nameAt_37 : decode cX12_nameAt 37 = .ok (.iconst (-1), 1) := by decide +kernel
theorem dX12_nameAt_38 : decode cX12_nameAt 38 = .ok (.ireturn, 1) := by decide +kernel
theorem dX12_setBy_0 : decode cX12_setBy 0 = .ok (.iconst 0, 1) := by decide +kernel
theorem dX12_setBy_1 : decode cX12_setBy 1 = .ok (.istore_n 3, 1) := by decide +kernel
theorem dX12_setBy_2 : decode cX12_setBy 2 = .ok (.aload_n 0, 1) := by decide +kernel
theorem dX12_setBy_3 : decode cX12_setBy 3 = .ok (.getfield 389, 3) := by decide +kernel
theorem dX12_setBy_6 : decode cX12_setBy 6 = .ok (.iload_n 3, 1) := by decide +kernel
theorem dX12_setBy_7 : decode cX12_setBy 7 = .ok (.invokestatic 392, 3) := by decide +kernel
theorem dX12_setBy_10 : decode cX12_setBy 10 = .ok (.iload_n 1, 1) := by decide +kernel
theorem dX12_setBy_11 : decode cX12_setBy 11 = .ok (.if_icmp .eq 9, 3) := by decide +kernel
theorem dX12_setBy_14 : decode cX12_setBy 14 = .ok (.iinc 3 1, 3) := by decide +kernel
theorem dX12_setBy_17 : decode cX12_setBy 17 = .ok (.goto (-15), 3) := by decide +kernel
theorem dX12_setBy_20 : decode cX12_setBy 20 = .ok (.aload_n 0, 1) := by decide +kernel
theorem dX12_setBy_21 : decode cX12_setBy 21 = .ok (.getfield 395, 3) := by decide +kernel
theorem dX12_setBy_24 : decode cX12_setBy 24 = .ok (.iload_n 2, 1) := by decide +kernel
theorem dX12_setBy_25 : decode cX12_setBy 25 = .ok (.ifCond .ne 7, 3) := by decide +kernel
theorem dX12_setBy_28 : decode cX12_setBy 28 = .ok (.iload_n 3, 1) := by decide +kernel
theorem dX12_setBy_29 : decode cX12_setBy 29 = .ok (.goto 6, 3) := by decide +kernel
theorem dX12_setBy_32 : decode cX12_setBy 32 = .ok (.iconst 1, 1) := by decide +kernel
theorem dX12_setBy_33 : decode cX12_setBy 33 = .ok (.iload_n 3, 1) := by decide +kernel
theorem dX12_setBy_34 : decode cX12_setBy 34 = .ok (.isub, 1) := by decide +kernel
theorem dX12_setBy_35 : decode cX12_setBy 35 = .ok (.invokestatic 392, 3) := by decide +kernel
theorem dX12_setBy_38 : decode cX12_setBy 38 = .ok (.ireturn, 1) := by decide +kernel
theorem dX12_areAlike_0 : decode cX12_areAlike 0 = .ok (.iload_n 2, 1) := by decide +kernel
theorem dX12_areAlike_1 : decode cX12_areAlike 1 = .ok (.iload_n 3, 1) := by decide +kernel
theorem dX12_areAlike_2 : decode cX12_areAlike 2 = .ok (.if_icmp .ne 38, 3) := by decide +kernel
theorem dX12_areAlike_5 : decode cX12_areAlike 5 = .ok (.aload_n 0, 1) := by decide +kernel
theorem dX12_areAlike_6 : decode cX12_areAlike 6 = .ok (.iload_n 1, 1) := by decide +kernel
theorem dX12_areAlike_7 : decode cX12_areAlike 7 = .ok (.invokevirtual 357, 3) := by decide +kernel
theorem dX12_areAlike_10 : decode cX12_areAlike 10 = .ok (.aload_n 0, 1) := by decide +kernel
theorem dX12_areAlike_11 : decode cX12_areAlike 11 = .ok (.iload_n 1, 1) := by decide +kernel
theorem dX12_areAlike_12 : decode cX12_areAlike 12 = .ok (.aload_n 0, 1) := by decide +kernel
theorem dX12_areAlike_13 : decode cX12_areAlike 13 = .ok (.getfield 398, 3) := by decide +kernel
theorem dX12_areAlike_16 : decode cX12_areAlike 16 = .ok (.aload_n 0, 1) := by decide +kernel
theorem dX12_areAlike_17 : decode cX12_areAlike 17 = .ok (.getfield 401, 3) := by decide +kernel
theorem dX12_areAlike_20 : decode cX12_areAlike 20 = .ok (.aload_n 0, 1) := by decide +kernel
theorem dX12_areAlike_21 : decode cX12_areAlike 21 = .ok (.getfield 404, 3) := by decide +kernel
theorem dX12_areAlike_24 : decode cX12_areAlike 24 = .ok (.aload_n 0, 1) := by decide +kernel
theorem dX12_areAlike_25 : decode cX12_areAlike 25 = .ok (.getfield 78, 3) := by decide +kernel
theorem dX12_areAlike_28 : decode cX12_areAlike 28 = .ok (.invokevirtual 344, 3) := by decide +kernel
theorem dX12_areAlike_31 : decode cX12_areAlike 31 = .ok (.if_icmp .ne 7, 3) := by decide +kernel
theorem dX12_areAlike_34 : decode cX12_areAlike 34 = .ok (.iconst 1, 1) := by decide +kernel
theorem dX12_areAlike_35 : decode cX12_areAlike 35 = .ok (.goto 4, 3) := by decide +kernel
theorem dX12_areAlike_38 : decode cX12_areAlike 38 = .ok (.iconst 0, 1) := by decide +kernel
theorem dX12_areAlike_39 : decode cX12_areAlike 39 = .ok (.ireturn, 1) := by decide +kernel
theorem dX12_areAlike_40 : decode cX12_areAlike 40 = .ok (.aload_n 0, 1) := by decide +kernel
theorem dX12_areAlike_41 : decode cX12_areAlike 41 = .ok (.getfield 75, 3) := by decide +kernel
theorem dX12_areAlike_44 : decode cX12_areAlike 44 = .ok (.iload_n 2, 1) := by decide +kernel
theorem dX12_areAlike_45 : decode cX12_areAlike 45 = .ok (.bipush 100, 2) := by decide +kernel
theorem dX12_areAlike_47 : decode cX12_areAlike 47 = .ok (.iload_n 2, 1) := by decide +kernel
theorem dX12_areAlike_48 : decode cX12_areAlike 48 = .ok (.iadd, 1) := by decide +kernel
theorem dX12_areAlike_49 : decode cX12_areAlike 49 = .ok (.iastore, 1) := by decide +kernel
theorem dX12_areAlike_50 : decode cX12_areAlike 50 = .ok (.aload_n 0, 1) := by decide +kernel
theorem dX12_areAlike_51 : decode cX12_areAlike 51 = .ok (.getfield 78, 3) := by decide +kernel
theorem dX12_areAlike_54 : decode cX12_areAlike 54 = .ok (.iload_n 2, 1) := by decide +kernel
theorem dX12_areAlike_55 : decode cX12_areAlike 55 = .ok (.bipush 100, 2) := by decide +kernel
theorem dX12_areAlike_57 : decode cX12_areAlike 57 = .ok (.iload_n 2, 1) := by decide +kernel
theorem dX12_areAlike_58 : decode cX12_areAlike 58 = .ok (.iadd, 1) := by decide +kernel
theorem dX12_areAlike_59 : decode cX12_areAlike 59 = .ok (.iastore, 1) := by decide +kernel
theorem dX12_areAlike_60 : decode cX12_areAlike 60 = .ok (.aload_n 0, 1) := by decide +kernel
theorem dX12_areAlike_61 : decode cX12_areAlike 61 = .ok (.iload_n 1, 1) := by decide +kernel
theorem dX12_areAlike_62 : decode cX12_areAlike 62 = .ok (.iload_n 2, 1) := by decide +kernel
theorem dX12_areAlike_63 : decode cX12_areAlike 63 = .ok (.iconst 1, 1) := by decide +kernel
theorem dX12_areAlike_64 : decode cX12_areAlike 64 = .ok (.iadd, 1) := by decide +kernel
theorem dX12_areAlike_65 : decode cX12_areAlike 65 = .ok (.iload_n 3, 1) := by decide +kernel
theorem dX12_areAlike_66 : decode cX12_areAlike 66 = .ok (.iload 4, 2) := by decide +kernel
theorem dX12_areAlike_68 : decode cX12_areAlike 68 = .ok (.invokevirtual 407, 3) := by decide +kernel
theorem dX12_areAlike_71 : decode cX12_areAlike 71 = .ok (.istore 5, 2) := by decide +kernel
theorem dX12_areAlike_73 : decode cX12_areAlike 73 = .ok (.iconst 0, 1) := by decide +kernel
theorem dX12_areAlike_74 : decode cX12_areAlike 74 = .ok (.istore 6, 2) := by decide +kernel
theorem dX12_areAlike_76 : decode cX12_areAlike 76 = .ok (.iload 6, 2) := by decide +kernel
theorem dX12_areAlike_78 : decode cX12_areAlike 78 = .ok (.aload_n 0, 1) := by decide +kernel
theorem dX12_areAlike_79 : decode cX12_areAlike 79 = .ok (.getfield 389, 3) := by decide +kernel
theorem dX12_areAlike_82 : decode cX12_areAlike 82 = .ok (.invokestatic 410, 3) := by decide +kernel
theorem dX12_areAlike_85 : decode cX12_areAlike 85 = .ok (.if_icmp .ge 110, 3) := by decide +kernel
theorem dX12_areAlike_88 : decode cX12_areAlike 88 = .ok (.iload 5, 2) := by decide +kernel
theorem dX12_areAlike_90 : decode cX12_areAlike 90 = .ok (.ifCond .eq 105, 3) := by decide +kernel
theorem dX12_areAlike_93 : decode cX12_areAlike 93 = .ok (.aload_n 0, 1) := by decide +kernel
theorem dX12_areAlike_94 : decode cX12_areAlike 94 = .ok (.getfield 389, 3) := by decide +kernel
theorem dX12_areAlike_97 : decode cX12_areAlike 97 = .ok (.iload 6, 2) := by decide +kernel
theorem dX12_areAlike_99 : decode cX12_areAlike 99 = .ok (.invokestatic 392, 3) := by decide +kernel
theorem dX12_areAlike_102 : decode cX12_areAlike 102 = .ok (.istore 7, 2) := by decide +kernel
theorem dX12_areAlike_104 : decode cX12_areAlike 104 = .ok (.iconst 0, 1) := by decide +kernel
theorem dX12_areAlike_105 : decode cX12_areAlike 105 = .ok (.istore 8, 2) := by decide +kernel
theorem dX12_areAlike_107 : decode cX12_areAlike 107 = .ok (.iconst 0, 1) := by decide +kernel
theorem dX12_areAlike_108 : decode cX12_areAlike 108 = .ok (.istore 9, 2) := by decide +kernel
theorem dX12_areAlike_110 : decode cX12_areAlike 110 = .ok (.iload 9, 2) := by decide +kernel
theorem dX12_areAlike_112 : decode cX12_areAlike 112 = .ok (.iload_n 2, 1) := by decide +kernel
theorem dX12_areAlike_113 : decode cX12_areAlike 113 = .ok (.if_icmp .ge 33, 3) := by decide +kernel
theorem dX12_areAlike_116 : decode cX12_areAlike 116 = .ok (.iload 8, 2) := by decide +kernel
theorem dX12_areAlike_118 : decode cX12_areAlike 118 = .ok (.ifCond .ne 15, 3) := by decide +kernel
theorem dX12_areAlike_121 : decode cX12_areAlike 121 = .ok (.aload_n 0, 1) := by decide +kernel
theorem dX12_areAlike_122 : decode cX12_areAlike 122 = .ok (.getfield 75, 3) := by decide +kernel
theorem dX12_areAlike_125 : decode cX12_areAlike 125 = .ok (.iload 9, 2) := by decide +kernel
theorem dX12_areAlike_127 : decode cX12_areAlike 127 = .ok (.iaload, 1) := by decide +kernel
theorem dX12_areAlike_128 : decode cX12_areAlike 128 = .ok (.iload 7, 2) := by decide +kernel
theorem dX12_areAlike_130 : decode cX12_areAlike 130 = .ok (.if_icmp .ne 7, 3) := by decide +kernel
theorem dX12_areAlike_133 : decode cX12_areAlike 133 = .ok (.iconst 1, 1) := by decide +kernel
theorem dX12_areAlike_134 : decode cX12_areAlike 134 = .ok (.goto 4, 3) := by decide +kernel
theorem dX12_areAlike_137 : decode cX12_areAlike 137 = .ok (.iconst 0, 1) := by decide +kernel
theorem dX12_areAlike_138 : decode cX12_areAlike 138 = .ok (.istore 8, 2) := by decide +kernel
theorem dX12_areAlike_140 : decode cX12_areAlike 140 = .ok (.iinc 9 1, 3) := by decide +kernel
theorem dX12_areAlike_143 : decode cX12_areAlike 143 = .ok (.goto (-33), 3) := by decide +kernel
theorem dX12_areAlike_146 : decode cX12_areAlike 146 = .ok (.iload 8, 2) := by decide +kernel
theorem dX12_areAlike_148 : decode cX12_areAlike 148 = .ok (.ifCond .eq 6, 3) := by decide +kernel
theorem dX12_areAlike_151 : decode cX12_areAlike 151 = .ok (.goto 38, 3) := by decide +kernel
theorem dX12_areAlike_154 : decode cX12_areAlike 154 = .ok (.aload_n 0, 1) := by decide +kernel
theorem dX12_areAlike_155 : decode cX12_areAlike 155 = .ok (.getfield 75, 3) := by decide +kernel
theorem dX12_areAlike_158 : decode cX12_areAlike 158 = .ok (.iload_n 2, 1) := by decide +kernel
theorem dX12_areAlike_159 : decode cX12_areAlike 159 = .ok (.iload 7, 2) := by decide +kernel
theorem dX12_areAlike_161 : decode cX12_areAlike 161 = .ok (.iastore, 1) := by decide +kernel
theorem dX12_areAlike_162 : decode cX12_areAlike 162 = .ok (.aload_n 0, 1) := by decide +kernel
theorem dX12_areAlike_163 : decode cX12_areAlike 163 = .ok (.getfield 78, 3) := by decide +kernel
theorem dX12_areAlike_166 : decode cX12_areAlike 166 = .ok (.iload_n 2, 1) := by decide +kernel
theorem dX12_areAlike_167 : decode cX12_areAlike 167 = .ok (.aload_n 0, 1) := by decide +kernel
theorem dX12_areAlike_168 : decode cX12_areAlike 168 = .ok (.iload 7, 2) := by decide +kernel
theorem dX12_areAlike_170 : decode cX12_areAlike 170 = .ok (.iload 4, 2) := by decide +kernel
theorem dX12_areAlike_172 : decode cX12_areAlike 172 = .ok (.invokevirtual 413, 3) := by decide +kernel
theorem dX12_areAlike_175 : decode cX12_areAlike 175 = .ok (.iastore, 1) := by decide +kernel
theorem dX12_areAlike_176 : decode cX12_areAlike 176 = .ok (.aload_n 0, 1) := by decide +kernel
theorem dX12_areAlike_177 : decode cX12_areAlike 177 = .ok (.iload_n 1, 1) := by decide +kernel
theorem dX12_areAlike_178 : decode cX12_areAlike 178 = .ok (.iload_n 2, 1) := by decide +kernel
theorem dX12_areAlike_179 : decode cX12_areAlike 179 = .ok (.iconst 1, 1) := by decide +kernel
theorem dX12_areAlike_180 : decode cX12_areAlike 180 = .ok (.iadd, 1) := by decide +kernel
theorem dX12_areAlike_181 : decode cX12_areAlike 181 = .ok (.iload_n 3, 1) := by decide +kernel
theorem dX12_areAlike_182 : decode cX12_areAlike 182 = .ok (.iload 4, 2) := by decide +kernel
theorem dX12_areAlike_184 : decode cX12_areAlike 184 = .ok (.invokevirtual 407, 3) := by decide +kernel
theorem dX12_areAlike_187 : decode cX12_areAlike 187 = .ok (.istore 5, 2) := by decide +kernel
theorem dX12_areAlike_189 : decode cX12_areAlike 189 = .ok (.iinc 6 1, 3) := by decide +kernel
theorem dX12_areAlike_192 : decode cX12_areAlike 192 = .ok (.goto (-116), 3) := by decide +kernel
theorem dX12_areAlike_195 : decode cX12_areAlike 195 = .ok (.iload 5, 2) := by decide +kernel
theorem dX12_areAlike_197 : decode cX12_areAlike 197 = .ok (.ireturn, 1) := by decide +kernel
theorem dX12_hasOf_0 : decode cX12_hasOf 0 = .ok (.aload_n 0, 1) := by decide +kernel
theorem dX12_hasOf_1 : decode cX12_hasOf 1 = .ok (.getfield 60, 3) := by decide +kernel
theorem dX12_hasOf_4 : decode cX12_hasOf 4 = .ok (.iload_n 1, 1) := by decide +kernel
theorem dX12_hasOf_5 : decode cX12_hasOf 5 = .ok (.iaload, 1) := by decide +kernel
theorem dX12_hasOf_6 : decode cX12_hasOf 6 = .ok (.aload_n 0, 1) := by decide +kernel
theorem dX12_hasOf_7 : decode cX12_hasOf 7 = .ok (.getfield 313, 3) := by decide +kernel
theorem dX12_hasOf_10 : decode cX12_hasOf 10 = .ok (.if_icmp .ne 10, 3) := by decide +kernel
theorem dX12_hasOf_13 : decode cX12_hasOf 13 = .ok (.aload_n 0, 1) := by decide +kernel
theorem dX12_hasOf_14 : decode cX12_hasOf 14 = .ok (.getfield 57, 3) := by decide +kernel
theorem dX12_hasOf_17 : decode cX12_hasOf 17 = .ok (.iload_n 1, 1) := by decide +kernel
theorem dX12_hasOf_18 : decode cX12_hasOf 18 = .ok (.iaload, 1) := by decide +kernel
theorem dX12_hasOf_19 : decode cX12_hasOf 19 = .ok (.ireturn, 1) := by decide +kernel
theorem dX12_hasOf_20 : decode cX12_hasOf 20 = .ok (.aload_n 0, 1) := by decide +kernel
theorem dX12_hasOf_21 : decode cX12_hasOf 21 = .ok (.getfield 319, 3) := by decide +kernel
theorem dX12_hasOf_24 : decode cX12_hasOf 24 = .ok (.istore_n 2, 1) := by decide +kernel
theorem dX12_hasOf_25 : decode cX12_hasOf 25 = .ok (.iconst 0, 1) := by decide +kernel
theorem dX12_hasOf_26 : decode cX12_hasOf 26 = .ok (.istore_n 3, 1) := by decide +kernel
theorem dX12_hasOf_27 : decode cX12_hasOf 27 = .ok (.iload_n 3, 1) := by decide +kernel
theorem dX12_hasOf_28 : decode cX12_hasOf 28 = .ok (.iload_n 2, 1) := by decide +kernel
theorem dX12_hasOf_29 : decode cX12_hasOf 29 = .ok (.if_icmp .ge 33, 3) := by decide +kernel
theorem dX12_hasOf_32 : decode cX12_hasOf 32 = .ok (.aload_n 0, 1) := by decide +kernel
theorem dX12_hasOf_33 : decode cX12_hasOf 33 = .ok (.getfield 84, 3) := by decide +kernel
theorem dX12_hasOf_36 : decode cX12_hasOf 36 = .ok (.iload_n 3, 1) := by decide +kernel
theorem dX12_hasOf_37 : decode cX12_hasOf 37 = .ok (.aload_n 0, 1) := by decide +kernel
theorem dX12_hasOf_38 : decode cX12_hasOf 38 = .ok (.getfield 69, 3) := by decide +kernel
theorem dX12_hasOf_41 : decode cX12_hasOf 41 = .ok (.iload_n 3, 1) := by decide +kernel
theorem dX12_hasOf_42 : decode cX12_hasOf 42 = .ok (.iaload, 1) := by decide +kernel
theorem dX12_hasOf_43 : decode cX12_hasOf 43 = .ok (.iastore, 1) := by decide +kernel
theorem dX12_hasOf_44 : decode cX12_hasOf 44 = .ok (.aload_n 0, 1) := by decide +kernel
theorem dX12_hasOf_45 : decode cX12_hasOf 45 = .ok (.getfield 87, 3) := by decide +kernel
theorem dX12_hasOf_48 : decode cX12_hasOf 48 = .ok (.iload_n 3, 1) := by decide +kernel
theorem dX12_hasOf_49 : decode cX12_hasOf 49 = .ok (.aload_n 0, 1) := by decide +kernel
theorem dX12_hasOf_50 : decode cX12_hasOf 50 = .ok (.getfield 72, 3) := by decide +kernel
theorem dX12_hasOf_53 : decode cX12_hasOf 53 = .ok (.iload_n 3, 1) := by decide +kernel
theorem dX12_hasOf_54 : decode cX12_hasOf 54 = .ok (.iaload, 1) := by decide +kernel
theorem dX12_hasOf_55 : decode cX12_hasOf 55 = .ok (.iastore, 1) := by decide +kernel
theorem dX12_hasOf_56 : decode cX12_hasOf 56 = .ok (.iinc 3 1, 3) := by decide +kernel
theorem dX12_hasOf_59 : decode cX12_hasOf 59 = .ok (.goto (-32), 3) := by decide +kernel
theorem dX12_hasOf_62 : decode cX12_hasOf 62 = .ok (.aload_n 0, 1) := by decide +kernel
theorem dX12_hasOf_63 : decode cX12_hasOf 63 = .ok (.iload_n 1, 1) := by decide +kernel
theorem dX12_hasOf_64 : decode cX12_hasOf 64 = .ok (.invokevirtual 422, 3) := by decide +kernel
theorem dX12_hasOf_67 : decode cX12_hasOf 67 = .ok (.istore_n 3, 1) := by decide +kernel
theorem dX12_hasOf_68 : decode cX12_hasOf 68 = .ok (.aload_n 0, 1) := by decide +kernel
theorem dX12_hasOf_69 : decode cX12_hasOf 69 = .ok (.iload_n 2, 1) := by decide +kernel
theorem dX12_hasOf_70 : decode cX12_hasOf 70 = .ok (.putfield 319, 3) := by decide +kernel
theorem dX12_hasOf_73 : decode cX12_hasOf 73 = .ok (.iconst 0, 1) := by decide +kernel
theorem dX12_hasOf_74 : decode cX12_hasOf 74 = .ok (.istore 4, 2) := by decide +kernel
theorem dX12_hasOf_76 : decode cX12_hasOf 76 = .ok (.iload 4, 2) := by decide +kernel
theorem dX12_hasOf_78 : decode cX12_hasOf 78 = .ok (.iload_n 2, 1) := by decide +kernel
theorem dX12_hasOf_79 : decode cX12_hasOf 79 = .ok (.if_icmp .ge 37, 3) := by decide +kernel
theorem dX12_hasOf_82 : decode cX12_hasOf 82 = .ok (.aload_n 0, 1) := by decide +kernel
theorem dX12_hasOf_83 : decode cX12_hasOf 83 = .ok (.getfield 69, 3) := by decide +kernel
theorem dX12_hasOf_86 : decode cX12_hasOf 86 = .ok (.iload 4, 2) := by decide +kernel
theorem dX12_hasOf_88 : decode cX12_hasOf 88 = .ok (.aload_n 0, 1) := by decide +kernel
theorem dX12_hasOf_89 : decode cX12_hasOf 89 = .ok (.getfield 84, 3) := by decide +kernel
theorem dX12_hasOf_92 : decode cX12_hasOf 92 = .ok (.iload 4, 2) := by decide +kernel
theorem dX12_hasOf_94 : decode cX12_hasOf 94 = .ok (.iaload, 1) := by decide +kernel
theorem dX12_hasOf_95 : decode cX12_hasOf 95 = .ok (.iastore, 1) := by decide +kernel
theorem dX12_hasOf_96 : decode cX12_hasOf 96 = .ok (.aload_n 0, 1) := by decide +kernel
theorem dX12_hasOf_97 : decode cX12_hasOf 97 = .ok (.getfield 72, 3) := by decide +kernel
theorem dX12_hasOf_100 : decode cX12_hasOf 100 = .ok (.iload 4, 2) := by decide +kernel
theorem dX12_hasOf_102 : decode cX12_hasOf 102 = .ok (.aload_n 0, 1) := by decide +kernel
theorem dX12_hasOf_103 : decode cX12_hasOf 103 = .ok (.getfield 87, 3) := by decide +kernel
theorem dX12_hasOf_106 : decode cX12_hasOf 106 = .ok (.iload 4, 2) := by decide +kernel
theorem dX12_hasOf_108 : decode cX12_hasOf 108 = .ok (.iaload, 1) := by decide +kernel
theorem dX12_hasOf_109 : decode cX12_hasOf 109 = .ok (.iastore, 1) := by decide +kernel
theorem dX12_hasOf_110 : decode cX12_hasOf 110 = .ok (.iinc 4 1, 3) := by decide +kernel
theorem dX12_hasOf_113 : decode cX12_hasOf 113 = .ok (.goto (-37), 3) := by decide +kernel
theorem dX12_hasOf_116 : decode cX12_hasOf 116 = .ok (.iload_n 3, 1) := by decide +kernel
theorem dX12_hasOf_117 : decode cX12_hasOf 117 = .ok (.ireturn, 1) := by decide +kernel
theorem dX12_runsShort_0 : decode cX12_runsShort 0 = .ok (.aload_n 0, 1) := by decide +kernel
theorem dX12_runsShort_1 : decode cX12_runsShort 1 = .ok (.invokevirtual 276, 3) := by decide +kernel
theorem dX12_runsShort_4 : decode cX12_runsShort 4 = .ok (.iconst 0, 1) := by decide +kernel
theorem dX12_runsShort_5 : decode cX12_runsShort 5 = .ok (.istore_n 2, 1) := by decide +kernel
theorem dX12_runsShort_6 : decode cX12_runsShort 6 = .ok (.iload_n 2, 1) := by decide +kernel
theorem dX12_runsShort_7 : decode cX12_runsShort 7 = .ok (.aload_n 0, 1) := by decide +kernel
theorem dX12_runsShort_8 : decode cX12_runsShort 8 = .ok (.getfield 39, 3) := by decide +kernel
theorem dX12_runsShort_11 : decode cX12_runsShort 11 = .ok (.iload_n 1, 1) := by decide +kernel
theorem dX12_runsShort_12 : decode cX12_runsShort 12 = .ok (.iaload, 1) := by decide +kernel
theorem dX12_runsShort_13 : decode cX12_runsShort 13 = .ok (.if_icmp .ge 36, 3) := by decide +kernel
theorem dX12_runsShort_16 : decode cX12_runsShort 16 = .ok (.aload_n 0, 1) := by decide +kernel
theorem dX12_runsShort_17 : decode cX12_runsShort 17 = .ok (.iconst 0, 1) := by decide +kernel
theorem dX12_runsShort_18 : decode cX12_runsShort 18 = .ok (.aload_n 0, 1) := by decide +kernel
theorem dX12_runsShort_19 : decode cX12_runsShort 19 = .ok (.getfield 42, 3) := by decide +kernel
theorem dX12_runsShort_22 : decode cX12_runsShort 22 = .ok (.bipush 6, 2) := by decide +kernel
theorem dX12_runsShort_24 : decode cX12_runsShort 24 = .ok (.iload_n 1, 1) := by decide +kernel
theorem dX12_runsShort_25 : decode cX12_runsShort 25 = .ok (.imul, 1) := by decide +kernel
theorem dX12_runsShort_26 : decode cX12_runsShort 26 = .ok (.iload_n 2, 1) := by decide +kernel
theorem dX12_runsShort_27 : decode cX12_runsShort 27 = .ok (.iadd, 1) := by decide +kernel
theorem dX12_runsShort_28 : decode cX12_runsShort 28 = .ok (.iaload, 1) := by decide +kernel
theorem dX12_runsShort_29 : decode cX12_runsShort 29 = .ok (.aload_n 0, 1) := by decide +kernel
theorem dX12_runsShort_30 : decode cX12_runsShort 30 = .ok (.getfield 45, 3) := by decide +kernel
theorem dX12_runsShort_33 : decode cX12_runsShort 33 = .ok (.bipush 6, 2) := by decide +kernel
theorem dX12_runsShort_35 : decode cX12_runsShort 35 = .ok (.iload_n 1, 1) := by decide +kernel
theorem dX12_runsShort_36 : decode cX12_runsShort 36 = .ok (.imul, 1) := by decide +kernel
theorem dX12_runsShort_37 : decode cX12_runsShort 37 = .ok (.iload_n 2, 1) := by decide +kernel
theorem dX12_runsShort_38 : decode cX12_runsShort 38 = .ok (.iadd, 1) := by decide +kernel
theorem dX12_runsShort_39 : decode cX12_runsShort 39 = .ok (.iaload, 1) := by decide +kernel
theorem dX12_runsShort_40 : decode cX12_runsShort 40 = .ok (.invokevirtual 279, 3) := by decide +kernel
theorem dX12_runsShort_43 : decode cX12_runsShort 43 = .ok (.iinc 2 1, 3) := by decide +kernel
theorem dX12_runsShort_46 : decode cX12_runsShort 46 = .ok (.goto (-40), 3) := by decide +kernel
theorem dX12_runsShort_49 : decode cX12_runsShort 49 = .ok (.aload_n 0, 1) := by decide +kernel
theorem dX12_runsShort_50 : decode cX12_runsShort 50 = .ok (.aload_n 0, 1) := by decide +kernel
theorem dX12_runsShort_51 : decode cX12_runsShort 51 = .ok (.getfield 135, 3) := by decide +kernel
theorem dX12_runsShort_54 : decode cX12_runsShort 54 = .ok (.putfield 398, 3) := by decide +kernel
theorem dX12_runsShort_57 : decode cX12_runsShort 57 = .ok (.aload_n 0, 1) := by decide +kernel
theorem dX12_runsShort_58 : decode cX12_runsShort 58 = .ok (.aload_n 0, 1) := by decide +kernel
theorem dX12_runsShort_59 : decode cX12_runsShort 59 = .ok (.getfield 138, 3) := by decide +kernel
theorem dX12_runsShort_62 : decode cX12_runsShort 62 = .ok (.putfield 401, 3) := by decide +kernel
theorem dX12_runsShort_65 : decode cX12_runsShort 65 = .ok (.aload_n 0, 1) := by decide +kernel
theorem dX12_runsShort_66 : decode cX12_runsShort 66 = .ok (.aload_n 0, 1) := by decide +kernel
theorem dX12_runsShort_67 : decode cX12_runsShort 67 = .ok (.getfield 141, 3) := by decide +kernel
theorem dX12_runsShort_70 : decode cX12_runsShort 70 = .ok (.putfield 404, 3) := by decide +kernel
theorem dX12_runsShort_73 : decode cX12_runsShort 73 = .ok (.return_, 1) := by decide +kernel
theorem dX12_wayTo_0 : decode cX12_wayTo 0 = .ok (.aload_n 0, 1) := by decide +kernel
theorem dX12_wayTo_1 : decode cX12_wayTo 1 = .ok (.iload_n 2, 1) := by decide +kernel
theorem dX12_wayTo_2 : decode cX12_wayTo 2 = .ok (.invokevirtual 416, 3) := by decide +kernel
theorem dX12_wayTo_5 : decode cX12_wayTo 5 = .ok (.istore_n 3, 1) := by decide +kernel
theorem dX12_wayTo_6 : decode cX12_wayTo 6 = .ok (.iload_n 1, 1) := by decide +kernel
theorem dX12_wayTo_7 : decode cX12_wayTo 7 = .ok (.invokestatic 410, 3) := by decide +kernel
theorem dX12_wayTo_10 : decode cX12_wayTo 10 = .ok (.iload_n 3, 1) := by decide +kernel
theorem dX12_wayTo_11 : decode cX12_wayTo 11 = .ok (.invokestatic 410, 3) := by decide +kernel
theorem dX12_wayTo_14 : decode cX12_wayTo 14 = .ok (.if_icmp .eq 5, 3) := by decide +kernel
theorem dX12_wayTo_17 : decode cX12_wayTo 17 = .ok (.iconst (-1), 1) := by decide +kernel
theorem dX12_wayTo_18 : decode cX12_wayTo 18 = .ok (.ireturn, 1) := by decide +kernel
theorem dX12_wayTo_19 : decode cX12_wayTo 19 = .ok (.aload_n 0, 1) := by decide +kernel
theorem dX12_wayTo_20 : decode cX12_wayTo 20 = .ok (.iload_n 1, 1) := by decide +kernel
theorem dX12_wayTo_21 : decode cX12_wayTo 21 = .ok (.putfield 389, 3) := by decide +kernel
theorem dX12_wayTo_24 : decode cX12_wayTo 24 = .ok (.aload_n 0, 1) := by decide +kernel
theorem dX12_wayTo_25 : decode cX12_wayTo 25 = .ok (.iload_n 3, 1) := by decide +kernel
theorem dX12_wayTo_26 : decode cX12_wayTo 26 = .ok (.putfield 395, 3) := by decide +kernel
theorem dX12_wayTo_29 : decode cX12_wayTo 29 = .ok (.aload_n 0, 1) := by decide +kernel
theorem dX12_wayTo_30 : decode cX12_wayTo 30 = .ok (.invokevirtual 369, 3) := by decide +kernel
theorem dX12_wayTo_33 : decode cX12_wayTo 33 = .ok (.aload_n 0, 1) := by decide +kernel
theorem dX12_wayTo_34 : decode cX12_wayTo 34 = .ok (.iload_n 2, 1) := by decide +kernel
theorem dX12_wayTo_35 : decode cX12_wayTo 35 = .ok (.invokevirtual 419, 3) := by decide +kernel
theorem dX12_wayTo_38 : decode cX12_wayTo 38 = .ok (.iconst 0, 1) := by decide +kernel
theorem dX12_wayTo_39 : decode cX12_wayTo 39 = .ok (.istore 4, 2) := by decide +kernel
theorem dX12_wayTo_41 : decode cX12_wayTo 41 = .ok (.iload 4, 2) := by decide +kernel
theorem dX12_wayTo_43 : decode cX12_wayTo 43 = .ok (.iload_n 1, 1) := by decide +kernel
theorem dX12_wayTo_44 : decode cX12_wayTo 44 = .ok (.invokestatic 410, 3) := by decide +kernel
theorem dX12_wayTo_47 : decode cX12_wayTo 47 = .ok (.iconst 1, 1) := by decide +kernel
theorem dX12_wayTo_48 : decode cX12_wayTo 48 = .ok (.if_icmp .le 7, 3) := by decide +kernel
theorem dX12_wayTo_51 : decode cX12_wayTo 51 = .ok (.iconst 2, 1) := by decide +kernel
theorem dX12_wayTo_52 : decode cX12_wayTo 52 = .ok (.goto 4, 3) := by decide +kernel
theorem dX12_wayTo_55 : decode cX12_wayTo 55 = .ok (.iconst 1, 1) := by decide +kernel
theorem dX12_wayTo_56 : decode cX12_wayTo 56 = .ok (.if_icmp .ge 60, 3) := by decide +kernel
theorem dX12_wayTo_59 : decode cX12_wayTo 59 = .ok (.iconst 1, 1) := by decide +kernel
theorem dX12_wayTo_60 : decode cX12_wayTo 60 = .ok (.istore 5, 2) := by decide +kernel
theorem dX12_wayTo_62 : decode cX12_wayTo 62 = .ok (.iconst 0, 1) := by decide +kernel
theorem dX12_wayTo_63 : decode cX12_wayTo 63 = .ok (.istore 6, 2) := by decide +kernel
theorem dX12_wayTo_65 : decode cX12_wayTo 65 = .ok (.iload 6, 2) := by decide +kernel
theorem dX12_wayTo_67 : decode cX12_wayTo 67 = .ok (.aload_n 0, 1) := by decide +kernel
theorem dX12_wayTo_68 : decode cX12_wayTo 68 = .ok (.getfield 313, 3) := by decide +kernel
theorem dX12_wayTo_71 : decode cX12_wayTo 71 = .ok (.if_icmp .ge 31, 3) := by decide +kernel
theorem dX12_wayTo_74 : decode cX12_wayTo 74 = .ok (.iload 5, 2) := by decide +kernel
theorem dX12_wayTo_76 : decode cX12_wayTo 76 = .ok (.ifCond .eq 26, 3) := by decide +kernel
theorem dX12_wayTo_79 : decode cX12_wayTo 79 = .ok (.aload_n 0, 1) := by decide +kernel
theorem dX12_wayTo_80 : decode cX12_wayTo 80 = .ok (.iload 6, 2) := by decide +kernel
theorem dX12_wayTo_82 : decode cX12_wayTo 82 = .ok (.iconst 0, 1) := by decide +kernel
theorem dX12_wayTo_83 : decode cX12_wayTo 83 = .ok (.aload_n 0, 1) := by decide +kernel
theorem dX12_wayTo_84 : decode cX12_wayTo 84 = .ok (.iload 6, 2) := by decide +kernel
theorem dX12_wayTo_86 : decode cX12_wayTo 86 = .ok (.invokevirtual 372, 3) := by decide +kernel
theorem dX12_wayTo_89 : decode cX12_wayTo 89 = .ok (.iload 4, 2) := by decide +kernel
theorem dX12_wayTo_91 : decode cX12_wayTo 91 = .ok (.invokevirtual 407, 3) := by decide +kernel
theorem dX12_wayTo_94 : decode cX12_wayTo 94 = .ok (.istore 5, 2) := by decide +kernel
theorem dX12_wayTo_96 : decode cX12_wayTo 96 = .ok (.iinc 6 1, 3) := by decide +kernel
theorem dX12_wayTo_99 : decode cX12_wayTo 99 = .ok (.goto (-34), 3) := by decide +kernel
theorem dX12_wayTo_102 : decode cX12_wayTo 102 = .ok (.iload 5, 2) := by decide +kernel
theorem dX12_wayTo_104 : decode cX12_wayTo 104 = .ok (.ifCond .eq 6, 3) := by decide +kernel
theorem dX12_wayTo_107 : decode cX12_wayTo 107 = .ok (.iload 4, 2) := by decide +kernel
theorem dX12_wayTo_109 : decode cX12_wayTo 109 = .ok (.ireturn, 1) := by decide +kernel
theorem dX12_wayTo_110 : decode cX12_wayTo 110 = .ok (.iinc 4 1, 3) := by decide +kernel
theorem dX12_wayTo_113 : decode cX12_wayTo 113 = .ok (.goto (-72), 3) := by decide +kernel
theorem dX12_wayTo_116 : decode cX12_wayTo 116 = .ok (.iconst (-1), 1) := by decide +kernel
theorem dX12_wayTo_117 : decode cX12_wayTo 117 = .ok (.ireturn, 1) := by decide +kernel
theorem dX12_likeOf_0 : decode cX12_likeOf 0 = .ok (.iconst 0, 1) := by decide +kernel
theorem dX12_likeOf_1 : decode cX12_likeOf 1 = .ok (.istore_n 2, 1) := by decide +kernel
theorem dX12_likeOf_2 : decode cX12_likeOf 2 = .ok (.iload_n 2, 1) := by decide +kernel
theorem dX12_likeOf_3 : decode cX12_likeOf 3 = .ok (.aload_n 0, 1) := by decide +kernel
theorem dX12_likeOf_4 : decode cX12_likeOf 4 = .ok (.getfield 310, 3) := by decide +kernel
theorem dX12_likeOf_7 : decode cX12_likeOf 7 = .ok (.if_icmp .ge 29, 3) := by decide +kernel
theorem dX12_likeOf_10 : decode cX12_likeOf 10 = .ok (.aload_n 0, 1) := by decide +kernel
theorem dX12_likeOf_11 : decode cX12_likeOf 11 = .ok (.aload_n 0, 1) := by decide +kernel
theorem dX12_likeOf_12 : decode cX12_likeOf 12 = .ok (.iload_n 1, 1) := by decide +kernel
theorem dX12_likeOf_13 : decode cX12_likeOf 13 = .ok (.iload_n 2, 1) := by decide +kernel
theorem dX12_likeOf_14 : decode cX12_likeOf 14 = .ok (.invokevirtual 425, 3) := by decide +kernel
theorem dX12_likeOf_17 : decode cX12_likeOf 17 = .ok (.putfield 428, 3) := by decide +kernel
theorem dX12_likeOf_20 : decode cX12_likeOf 20 = .ok (.aload_n 0, 1) := by decide +kernel
theorem dX12_likeOf_21 : decode cX12_likeOf 21 = .ok (.getfield 428, 3) := by decide +kernel
theorem dX12_likeOf_24 : decode cX12_likeOf 24 = .ok (.iconst (-1), 1) := by decide +kernel
theorem dX12_likeOf_25 : decode cX12_likeOf 25 = .ok (.if_icmp .eq 5, 3) := by decide +kernel
theorem dX12_likeOf_28 : decode cX12_likeOf 28 = .ok (.iload_n 2, 1) := by decide +kernel
theorem dX12_likeOf_29 : decode cX12_likeOf 29 = .ok (.ireturn, 1) := by decide +kernel
theorem dX12_likeOf_30 : decode cX12_likeOf 30 = .ok (.iinc 2 1, 3) := by decide +kernel
theorem dX12_likeOf_33 : decode cX12_likeOf 33 = .ok (.goto (-31), 3) := by decide +kernel
theorem dX12_likeOf_36 : decode cX12_likeOf 36 = .ok (.iconst (-1), 1) := by decide +kernel
theorem dX12_likeOf_37 : decode cX12_likeOf 37 = .ok (.ireturn, 1) := by decide +kernel
theorem dX12_longName_0 : decode cX12_longName 0 = .ok (.aload_n 0, 1) := by decide +kernel
theorem dX12_longName_1 : decode cX12_longName 1 = .ok (.iload_n 1, 1) := by decide +kernel
theorem dX12_longName_2 : decode cX12_longName 2 = .ok (.invokevirtual 422, 3) := by decide +kernel
theorem dX12_longName_5 : decode cX12_longName 5 = .ok (.istore_n 3, 1) := by decide +kernel
theorem dX12_longName_6 : decode cX12_longName 6 = .ok (.iload_n 2, 1) := by decide +kernel
theorem dX12_longName_7 : decode cX12_longName 7 = .ok (.iload_n 3, 1) := by decide +kernel
theorem dX12_longName_8 : decode cX12_longName 8 = .ok (.invokestatic 410, 3) := by decide +kernel
theorem dX12_longName_11 : decode cX12_longName 11 = .ok (.if_icmp .ge 11, 3) := by decide +kernel
theorem dX12_longName_14 : decode cX12_longName 14 = .ok (.iload_n 3, 1) := by decide +kernel
theorem dX12_longName_15 : decode cX12_longName 15 = .ok (.iload_n 2, 1) := by decide +kernel
theorem dX12_longName_16 : decode cX12_longName 16 = .ok (.invokestatic 392, 3) := by decide +kernel
theorem dX12_longName_19 : decode cX12_longName 19 = .ok (.goto 20, 3) := by decide +kernel
theorem dX12_longName_22 : decode cX12_longName 22 = .ok (.iload_n 2, 1) := by decide +kernel
theorem dX12_longName_23 : decode cX12_longName 23 = .ok (.iload_n 3, 1) := by decide +kernel
theorem dX12_longName_24 : decode cX12_longName 24 = .ok (.invokestatic 410, 3) := by decide +kernel
theorem dX12_longName_27 : decode cX12_longName 27 = .ok (.if_icmp .ne 11, 3) := by decide +kernel
theorem dX12_longName_30 : decode cX12_longName 30 = .ok (.aload_n 0, 1) := by decide +kernel
theorem dX12_longName_31 : decode cX12_longName 31 = .ok (.iload_n 1, 1) := by decide +kernel
theorem dX12_longName_32 : decode cX12_longName 32 = .ok (.invokevirtual 431, 3) := by decide +kernel
theorem dX12_longName_35 : decode cX12_longName 35 = .ok (.goto 4, 3) := by decide +kernel
theorem dX12_longName_38 : decode cX12_longName 38 = .ok (.iconst (-1), 1) := by decide +kernel
theorem dX12_longName_39 : decode cX12_longName 39 = .ok (.ireturn, 1) := by decide +kernel
theorem dX12_forgets_0 : decode cX12_forgets 0 = .ok (.iconst 1, 1) := by decide +kernel
theorem dX12_forgets_1 : decode cX12_forgets 1 = .ok (.aload_n 0, 1) := by decide +kernel
theorem dX12_forgets_2 : decode cX12_forgets 2 = .ok (.iload_n 1, 1) := by decide +kernel
theorem dX12_forgets_3 : decode cX12_forgets 3 = .ok (.invokevirtual 431, 3) := by decide +kernel
theorem dX12_forgets_6 : decode cX12_forgets 6 = .ok (.ishl, 1) := by decide +kernel
theorem dX12_forgets_7 : decode cX12_forgets 7 = .ok (.iconst 1, 1) := by decide +kernel
theorem dX12_forgets_8 : decode cX12_forgets 8 = .ok (.isub, 1) := by decide +kernel
theorem dX12_forgets_9 : decode cX12_forgets 9 = .ok (.istore 4, 2) := by decide +kernel
theorem dX12_forgets_11 : decode cX12_forgets 11 = .ok (.aload_n 0, 1) := by decide +kernel
theorem dX12_forgets_12 : decode cX12_forgets 12 = .ok (.iload_n 1, 1) := by decide +kernel
theorem dX12_forgets_13 : decode cX12_forgets 13 = .ok (.iload_n 2, 1) := by decide +kernel
theorem dX12_forgets_14 : decode cX12_forgets 14 = .ok (.iload_n 3, 1) := by decide +kernel
theorem dX12_forgets_15 : decode cX12_forgets 15 = .ok (.invokevirtual 459, 3) := by decide +kernel
theorem dX12_forgets_18 : decode cX12_forgets 18 = .ok (.iload 4, 2) := by decide +kernel
theorem dX12_forgets_20 : decode cX12_forgets 20 = .ok (.iand, 1) := by decide +kernel
theorem dX12_forgets_21 : decode cX12_forgets 21 = .ok (.aload_n 0, 1) := by decide +kernel
theorem dX12_forgets_22 : decode cX12_forgets 22 = .ok (.iload_n 1, 1) := by decide +kernel
theorem dX12_forgets_23 : decode cX12_forgets 23 = .ok (.invokevirtual 422, 3) := by decide +kernel
theorem dX12_forgets_26 : decode cX12_forgets 26 = .ok (.iconst (-1), 1) := by decide +kernel
theorem dX12_forgets_27 : decode cX12_forgets 27 = .ok (.ixor, 1) := by decide +kernel
theorem dX12_forgets_28 : decode cX12_forgets 28 = .ok (.iand, 1) := by decide +kernel
theorem dX12_forgets_29 : decode cX12_forgets 29 = .ok (.istore 5, 2) := by decide +kernel
theorem dX12_forgets_31 : decode cX12_forgets 31 = .ok (.aload_n 0, 1) := by decide +kernel
theorem dX12_forgets_32 : decode cX12_forgets 32 = .ok (.iload_n 1, 1) := by decide +kernel
theorem dX12_forgets_33 : decode cX12_forgets 33 = .ok (.putfield 462, 3) := by decide +kernel
theorem dX12_forgets_36 : decode cX12_forgets 36 = .ok (.aload_n 0, 1) := by decide +kernel
theorem dX12_forgets_37 : decode cX12_forgets 37 = .ok (.iload_n 2, 1) := by decide +kernel
theorem dX12_forgets_38 : decode cX12_forgets 38 = .ok (.putfield 465, 3) := by decide +kernel
theorem dX12_forgets_41 : decode cX12_forgets 41 = .ok (.aload_n 0, 1) := by decide +kernel
theorem dX12_forgets_42 : decode cX12_forgets 42 = .ok (.iload_n 3, 1) := by decide +kernel
theorem dX12_forgets_43 : decode cX12_forgets 43 = .ok (.putfield 468, 3) := by decide +kernel
theorem dX12_forgets_46 : decode cX12_forgets 46 = .ok (.aload_n 0, 1) := by decide +kernel
theorem dX12_forgets_47 : decode cX12_forgets 47 = .ok (.iload 5, 2) := by decide +kernel
theorem dX12_forgets_49 : decode cX12_forgets 49 = .ok (.iconst 0, 1) := by decide +kernel
theorem dX12_forgets_50 : decode cX12_forgets 50 = .ok (.invokestatic 392, 3) := by decide +kernel
theorem dX12_forgets_53 : decode cX12_forgets 53 = .ok (.putfield 471, 3) := by decide +kernel
theorem dX12_forgets_56 : decode cX12_forgets 56 = .ok (.iload 5, 2) := by decide +kernel
theorem dX12_forgets_58 : decode cX12_forgets 58 = .ok (.ifCond .eq 7, 3) := by decide +kernel
theorem dX12_forgets_61 : decode cX12_forgets 61 = .ok (.iconst 1, 1) := by decide +kernel
theorem dX12_forgets_62 : decode cX12_forgets 62 = .ok (.goto 4, 3) := by decide +kernel
theorem dX12_forgets_65 : decode cX12_forgets 65 = .ok (.iconst 0, 1) := by decide +kernel
theorem dX12_forgets_66 : decode cX12_forgets 66 = .ok (.ireturn, 1) := by decide +kernel
theorem dX12_goesOn_0 : decode cX12_goesOn 0 = .ok (.aload_n 0, 1) := by decide +kernel
theorem dX12_goesOn_1 : decode cX12_goesOn 1 = .ok (.iload_n 1, 1) := by decide +kernel
theorem dX12_goesOn_2 : decode cX12_goesOn 2 = .ok (.putfield 462, 3) := by decide +kernel
theorem dX12_goesOn_5 : decode cX12_goesOn 5 = .ok (.aload_n 0, 1) := by decide +kernel
theorem dX12_goesOn_6 : decode cX12_goesOn 6 = .ok (.iload_n 2, 1) := by decide +kernel
theorem dX12_goesOn_7 : decode cX12_goesOn 7 = .ok (.putfield 465, 3) := by decide +kernel
theorem dX12_goesOn_10 : decode cX12_goesOn 10 = .ok (.aload_n 0, 1) := by decide +kernel
theorem dX12_goesOn_11 : decode cX12_goesOn 11 = .ok (.iload_n 3, 1) := by decide +kernel
theorem dX12_goesOn_12 : decode cX12_goesOn 12 = .ok (.putfield 468, 3) := by decide +kernel
theorem dX12_goesOn_15 : decode cX12_goesOn 15 = .ok (.aload_n 0, 1) := by decide +kernel
theorem dX12_goesOn_16 : decode cX12_goesOn 16 = .ok (.iload_n 1, 1) := by decide +kernel
theorem dX12_goesOn_17 : decode cX12_goesOn 17 = .ok (.iload_n 2, 1) := by decide +kernel
theorem dX12_goesOn_18 : decode cX12_goesOn 18 = .ok (.iload_n 3, 1) := by decide +kernel
theorem dX12_goesOn_19 : decode cX12_goesOn 19 = .ok (.invokevirtual 459, 3) := by decide +kernel
theorem dX12_goesOn_22 : decode cX12_goesOn 22 = .ok (.istore 4, 2) := by decide +kernel
theorem dX12_goesOn_24 : decode cX12_goesOn 24 = .ok (.aload_n 0, 1) := by decide +kernel
theorem dX12_goesOn_25 : decode cX12_goesOn 25 = .ok (.iload_n 1, 1) := by decide +kernel
theorem dX12_goesOn_26 : decode cX12_goesOn 26 = .ok (.iload_n 2, 1) := by decide +kernel
theorem dX12_goesOn_27 : decode cX12_goesOn 27 = .ok (.iload_n 3, 1) := by decide +kernel
theorem dX12_goesOn_28 : decode cX12_goesOn 28 = .ok (.invokevirtual 381, 3) := by decide +kernel
theorem dX12_goesOn_31 : decode cX12_goesOn 31 = .ok (.iload_n 1, 1) := by decide +kernel
theorem dX12_goesOn_32 : decode cX12_goesOn 32 = .ok (.iload_n 2, 1) := by decide +kernel
theorem dX12_goesOn_33 : decode cX12_goesOn 33 = .ok (.iload_n 3, 1) := by decide +kernel
theorem dX12_goesOn_34 : decode cX12_goesOn 34 = .ok (.invokestatic 378, 3) := by decide +kernel
theorem dX12_goesOn_37 : decode cX12_goesOn 37 = .ok (.istore 5, 2) := by decide +kernel
theorem dX12_goesOn_39 : decode cX12_goesOn 39 = .ok (.aload_n 0, 1) := by decide +kernel
theorem dX12_goesOn_40 : decode cX12_goesOn 40 = .ok (.getfield 90, 3) := by decide +kernel
theorem dX12_goesOn_43 : decode cX12_goesOn 43 = .ok (.iload 5, 2) := by decide +kernel
theorem dX12_goesOn_45 : decode cX12_goesOn 45 = .ok (.aload_n 0, 1) := by decide +kernel
theorem dX12_goesOn_46 : decode cX12_goesOn 46 = .ok (.iload 4, 2) := by decide +kernel
theorem dX12_goesOn_48 : decode cX12_goesOn 48 = .ok (.invokevirtual 474, 3) := by decide +kernel
theorem dX12_goesOn_51 : decode cX12_goesOn 51 = .ok (.iastore, 1) := by decide +kernel
theorem dX12_goesOn_52 : decode cX12_goesOn 52 = .ok (.aload_n 0, 1) := by decide +kernel
theorem dX12_goesOn_53 : decode cX12_goesOn 53 = .ok (.getfield 93, 3) := by decide +kernel
theorem dX12_goesOn_56 : decode cX12_goesOn 56 = .ok (.iload 5, 2) := by decide +kernel
theorem dX12_goesOn_58 : decode cX12_goesOn 58 = .ok (.aload_n 0, 1) := by decide +kernel
theorem dX12_goesOn_59 : decode cX12_goesOn 59 = .ok (.getfield 428, 3) := by decide +kernel
theorem dX12_goesOn_62 : decode cX12_goesOn 62 = .ok (.iastore, 1) := by decide +kernel
theorem dX12_goesOn_63 : decode cX12_goesOn 63 = .ok (.aload_n 0, 1) := by decide +kernel
theorem dX12_goesOn_64 : decode cX12_goesOn 64 = .ok (.getfield 90, 3) := by decide +kernel
theorem dX12_goesOn_67 : decode cX12_goesOn 67 = .ok (.iload 5, 2) := by decide +kernel
theorem dX12_goesOn_69 : decode cX12_goesOn 69 = .ok (.iaload, 1) := by decide +kernel
theorem dX12_goesOn_70 : decode cX12_goesOn 70 = .ok (.iconst (-1), 1) := by decide +kernel
theorem dX12_goesOn_71 : decode cX12_goesOn 71 = .ok (.if_icmp .eq 7, 3) := by decide +kernel
theorem dX12_goesOn_74 : decode cX12_goesOn 74 = .ok (.iconst 1, 1) := by decide +kernel
theorem dX12_goesOn_75 : decode cX12_goesOn 75 = .ok (.goto 4, 3) := by decide +kernel
theorem dX12_goesOn_78 : decode cX12_goesOn 78 = .ok (.iconst 0, 1) := by decide +kernel
theorem dX12_goesOn_79 : decode cX12_goesOn 79 = .ok (.ireturn, 1) := by decide +kernel
theorem dX12_guesses_0 : decode cX12_guesses 0 = .ok (.aload_n 0, 1) := by decide +kernel
theorem dX12_guesses_1 : decode cX12_guesses 1 = .ok (.iload_n 1, 1) := by decide +kernel
theorem dX12_guesses_2 : decode cX12_guesses 2 = .ok (.putfield 477, 3) := by decide +kernel
theorem dX12_guesses_5 : decode cX12_guesses 5 = .ok (.aload_n 0, 1) := by decide +kernel
theorem dX12_guesses_6 : decode cX12_guesses 6 = .ok (.iload_n 2, 1) := by decide +kernel
theorem dX12_guesses_7 : decode cX12_guesses 7 = .ok (.putfield 480, 3) := by decide +kernel
theorem dX12_guesses_10 : decode cX12_guesses 10 = .ok (.aload_n 0, 1) := by decide +kernel
theorem dX12_guesses_11 : decode cX12_guesses 11 = .ok (.iload_n 3, 1) := by decide +kernel
theorem dX12_guesses_12 : decode cX12_guesses 12 = .ok (.putfield 483, 3) := by decide +kernel
theorem dX12_guesses_15 : decode cX12_guesses 15 = .ok (.return_, 1) := by decide +kernel
theorem dX12_keepsPair_0 : decode cX12_keepsPair 0 = .ok (.aload_n 0, 1) := by decide +kernel
theorem dX12_keepsPair_1 : decode cX12_keepsPair 1 = .ok (.aload_n 0, 1) := by decide +kernel
theorem dX12_keepsPair_2 : decode cX12_keepsPair 2 = .ok (.getfield 135, 3) := by decide +kernel
theorem dX12_keepsPair_5 : decode cX12_keepsPair 5 = .ok (.putfield 496, 3) := by decide +kernel
theorem dX12_keepsPair_8 : decode cX12_keepsPair 8 = .ok (.aload_n 0, 1) := by decide +kernel
theorem dX12_keepsPair_9 : decode cX12_keepsPair 9 = .ok (.aload_n 0, 1) := by decide +kernel
theorem dX12_keepsPair_10 : decode cX12_keepsPair 10 = .ok (.getfield 138, 3) := by decide +kernel
theorem dX12_keepsPair_13 : decode cX12_keepsPair 13 = .ok (.putfield 499, 3) := by decide +kernel
theorem dX12_keepsPair_16 : decode cX12_keepsPair 16 = .ok (.aload_n 0, 1) := by decide +kernel
theorem dX12_keepsPair_17 : decode cX12_keepsPair 17 = .ok (.aload_n 0, 1) := by decide +kernel
theorem dX12_keepsPair_18 : decode cX12_keepsPair 18 = .ok (.getfield 141, 3) := by decide +kernel
theorem dX12_keepsPair_21 : decode cX12_keepsPair 21 = .ok (.putfield 502, 3) := by decide +kernel
theorem dX12_keepsPair_24 : decode cX12_keepsPair 24 = .ok (.return_, 1) := by decide +kernel
theorem dX12_codeOf_0 : decode cX12_codeOf 0 = .ok (.iconst 1, 1) := by decide +kernel
theorem dX12_codeOf_1 : decode cX12_codeOf 1 = .ok (.istore_n 2, 1) := by decide +kernel
theorem dX12_codeOf_2 : decode cX12_codeOf 2 = .ok (.aload_n 0, 1) := by decide +kernel
theorem dX12_codeOf_3 : decode cX12_codeOf 3 = .ok (.getfield 117, 3) := by decide +kernel
theorem dX12_codeOf_6 : decode cX12_codeOf 6 = .ok (.bipush 6, 2) := by decide +kernel
theorem dX12_codeOf_8 : decode cX12_codeOf 8 = .ok (.iload_n 1, 1) := by decide +kernel
theorem dX12_codeOf_9 : decode cX12_codeOf 9 = .ok (.imul, 1) := by decide +kernel
theorem dX12_codeOf_10 : decode cX12_codeOf 10 = .ok (.iaload, 1) := by decide +kernel
theorem dX12_codeOf_11 : decode cX12_codeOf 11 = .ok (.iconst 1, 1) := by decide +kernel
theorem dX12_codeOf_12 : decode cX12_codeOf 12 = .ok (.iadd, 1) := by decide +kernel
theorem dX12_codeOf_13 : decode cX12_codeOf 13 = .ok (.bipush 11, 2) := by decide +kernel
theorem dX12_codeOf_15 : decode cX12_codeOf 15 = .ok (.imul, 1) := by decide +kernel
theorem dX12_codeOf_16 : decode cX12_codeOf 16 = .ok (.aload_n 0, 1) := by decide +kernel
theorem dX12_codeOf_17 : decode cX12_codeOf 17 = .ok (.getfield 117, 3) := by decide +kernel
theorem dX12_codeOf_20 : decode cX12_codeOf 20 = .ok (.bipush 6, 2) := by decide +kernel
theorem dX12_codeOf_22 : decode cX12_codeOf 22 = .ok (.iload_n 1, 1) := by decide +kernel
theorem dX12_codeOf_23 : decode cX12_codeOf 23 = .ok (.imul, 1) := by decide +kernel
theorem dX12_codeOf_24 : decode cX12_codeOf 24 = .ok (.iconst 3, 1) := by decide +kernel
theorem dX12_codeOf_25 : decode cX12_codeOf 25 = .ok (.iadd, 1) := by decide +kernel
theorem dX12_codeOf_26 : decode cX12_codeOf 26 = .ok (.iaload, 1) := by decide +kernel
theorem dX12_codeOf_27 : decode cX12_codeOf 27 = .ok (.iadd, 1) := by decide +kernel
theorem dX12_codeOf_28 : decode cX12_codeOf 28 = .ok (.iconst 1, 1) := by decide +kernel
theorem dX12_codeOf_29 : decode cX12_codeOf 29 = .ok (.iadd, 1) := by decide +kernel
theorem dX12_codeOf_30 : decode cX12_codeOf 30 = .ok (.istore_n 3, 1) := by decide +kernel
theorem dX12_codeOf_31 : decode cX12_codeOf 31 = .ok (.iconst 0, 1) := by decide +kernel
theorem dX12_codeOf_32 : decode cX12_codeOf 32 = .ok (.istore 4, 2) := by decide +kernel
theorem dX12_codeOf_34 : decode cX12_codeOf 34 = .ok (.iload 4, 2) := by decide +kernel
theorem dX12_codeOf_36 : decode cX12_codeOf 36 = .ok (.iconst 4, 1) := by decide +kernel
theorem dX12_codeOf_37 : decode cX12_codeOf 37 = .ok (.if_icmp .ge 163, 3) := by decide +kernel
theorem dX12_codeOf_40 : decode cX12_codeOf 40 = .ok (.aload_n 0, 1) := by decide +kernel
theorem dX12_codeOf_41 : decode cX12_codeOf 41 = .ok (.getfield 117, 3) := by decide +kernel
theorem dX12_codeOf_44 : decode cX12_codeOf 44 = .ok (.bipush 6, 2) := by decide +kernel
theorem dX12_codeOf_46 : decode cX12_codeOf 46 = .ok (.iload_n 1, 1) := by decide +kernel
theorem dX12_codeOf_47 : decode cX12_codeOf 47 = .ok (.imul, 1) := by decide +kernel
theorem dX12_codeOf_48 : decode cX12_codeOf 48 = .ok (.iload 4, 2) := by decide +kernel
theorem dX12_codeOf_50 : decode cX12_codeOf 50 = .ok (.iconst 2, 1) := by decide +kernel
theorem dX12_codeOf_51 : decode cX12_codeOf 51 = .ok (.if_icmp .ge 10, 3) := by decide +kernel
theorem dX12_codeOf_54 : decode cX12_codeOf 54 = .ok (.iconst 1, 1) := by decide +kernel
theorem dX12_codeOf_55 : decode cX12_codeOf 55 = .ok (.iload 4, 2) := by decide +kernel
theorem dX12_codeOf_57 : decode cX12_codeOf 57 = .ok (.iadd, 1) := by decide +kernel
theorem dX12_codeOf_58 : decode cX12_codeOf 58 = .ok (.goto 7, 3) := by decide +kernel
theorem dX12_codeOf_61 : decode cX12_codeOf 61 = .ok (.iconst 2, 1) := by decide +kernel
theorem dX12_codeOf_62 : decode cX12_codeOf 62 = .ok (.iload 4, 2) := by decide +kernel
theorem dX12_codeOf_64 : decode cX12_codeOf 64 = .ok (.iadd, 1) := by decide +kernel
theorem dX12_codeOf_65 : decode cX12_codeOf 65 = .ok (.iadd, 1) := by decide +kernel
theorem dX12_codeOf_66 : decode cX12_codeOf 66 = .ok (.iaload, 1) := by decide +kernel
theorem dX12_codeOf_67 : decode cX12_codeOf 67 = .ok (.istore 5, 2) := by decide +kernel
theorem dX12_codeOf_69 : decode cX12_codeOf 69 = .ok (.aload_n 0, 1) := by decide +kernel
theorem dX12_codeOf_70 : decode cX12_codeOf 70 = .ok (.getfield 120, 3) := by decide +kernel
theorem dX12_codeOf_73 : decode cX12_codeOf 73 = .ok (.iload 4, 2) := by decide +kernel
theorem dX12_codeOf_75 : decode cX12_codeOf 75 = .ok (.iload 5, 2) := by decide +kernel
theorem dX12_codeOf_77 : decode cX12_codeOf 77 = .ok (.iconst (-1), 1) := by decide +kernel
theorem dX12_codeOf_78 : decode cX12_codeOf 78 = .ok (.if_icmp .ne 7, 3) := by decide +kernel
theorem dX12_codeOf_81 : decode cX12_codeOf 81 = .ok (.iconst 0, 1) := by decide +kernel
theorem dX12_codeOf_82 : decode cX12_codeOf 82 = .ok (.goto 4, 3) := by decide +kernel
theorem dX12_codeOf_85 : decode cX12_codeOf 85 = .ok (.iconst (-1), 1) := by decide +kernel
theorem dX12_codeOf_86 : decode cX12_codeOf 86 = .ok (.iastore, 1) := by decide +kernel
theorem dX12_codeOf_87 : decode cX12_codeOf 87 = .ok (.iconst 0, 1) := by decide +kernel
theorem dX12_codeOf_88 : decode cX12_codeOf 88 = .ok (.istore 6, 2) := by decide +kernel
theorem dX12_codeOf_90 : decode cX12_codeOf 90 = .ok (.iload 6, 2) := by decide +kernel
theorem dX12_codeOf_92 : decode cX12_codeOf 92 = .ok (.iload 4, 2) := by decide +kernel
theorem dX12_codeOf_94 : decode cX12_codeOf 94 = .ok (.if_icmp .ge 66, 3) := by decide +kernel
theorem dX12_codeOf_97 : decode cX12_codeOf 97 = .ok (.aload_n 0, 1) := by decide +kernel
theorem dX12_codeOf_98 : decode cX12_codeOf 98 = .ok (.getfield 120, 3) := by decide +kernel
theorem dX12_codeOf_101 : decode cX12_codeOf 101 = .ok (.iload 4, 2) := by decide +kernel
theorem dX12_codeOf_103 : decode cX12_codeOf 103 = .ok (.iaload, 1) := by decide +kernel
theorem dX12_codeOf_104 : decode cX12_codeOf 104 = .ok (.iconst (-1), 1) := by decide +kernel
theorem dX12_codeOf_105 : decode cX12_codeOf 105 = .ok (.if_icmp .ne 55, 3) := by decide +kernel
theorem dX12_codeOf_108 : decode cX12_codeOf 108 = .ok (.aload_n 0, 1) := by decide +kernel
theorem dX12_codeOf_109 : decode cX12_codeOf 109 = .ok (.getfield 117, 3) := by decide +kernel
theorem dX12_codeOf_112 : decode cX12_codeOf 112 = .ok (.bipush 6, 2) := by decide +kernel
theorem dX12_codeOf_114 : decode cX12_codeOf 114 = .ok (.iload_n 1, 1) := by decide +kernel
theorem dX12_codeOf_115 : decode cX12_codeOf 115 = .ok (.imul, 1) := by decide +kernel
theorem dX12_codeOf_116 : decode cX12_codeOf 116 = .ok (.iload 6, 2) := by decide +kernel
theorem dX12_codeOf_118 : decode cX12_codeOf 118 = .ok (.iconst 2, 1) := by decide +kernel
theorem dX12_codeOf_119 : decode cX12_codeOf 119 = .ok (.if_icmp .ge 10, 3) := by decide +kernel
theorem dX12_codeOf_122 : decode cX12_codeOf 122 = .ok (.iconst 1, 1) := by decide +kernel
theorem dX12_codeOf_123 : decode cX12_codeOf 123 = .ok (.iload 6, 2) := by decide +kernel
theorem dX12_codeOf_125 : decode cX12_codeOf 125 = .ok (.iadd, 1) := by decide +kernel
theorem dX12_codeOf_126 : decode cX12_codeOf 126 = .ok (.goto 7, 3) := by decide +kernel
theorem dX12_codeOf_129 : decode cX12_codeOf 129 = .ok (.iconst 2, 1) := by decide +kernel
theorem dX12_codeOf_130 : decode cX12_codeOf 130 = .ok (.iload 6, 2) := by decide +kernel
theorem dX12_codeOf_132 : decode cX12_codeOf 132 = .ok (.iadd, 1) := by decide +kernel
theorem dX12_codeOf_133 : decode cX12_codeOf 133 = .ok (.iadd, 1) := by decide +kernel
theorem dX12_codeOf_134 : decode cX12_codeOf 134 = .ok (.iaload, 1) := by decide +kernel
theorem dX12_codeOf_135 : decode cX12_codeOf 135 = .ok (.iload 5, 2) := by decide +kernel
theorem dX12_codeOf_137 : decode cX12_codeOf 137 = .ok (.if_icmp .ne 17, 3) := by decide +kernel
theorem dX12_codeOf_140 : decode cX12_codeOf 140 = .ok (.aload_n 0, 1) := by decide +kernel
theorem dX12_codeOf_141 : decode cX12_codeOf 141 = .ok (.getfield 120, 3) := by decide +kernel
theorem dX12_codeOf_144 : decode cX12_codeOf 144 = .ok (.iload 4, 2) := by decide +kernel
theorem dX12_codeOf_146 : decode cX12_codeOf 146 = .ok (.aload_n 0, 1) := by decide +kernel
theorem dX12_codeOf_147 : decode cX12_codeOf 147 = .ok (.getfield 120, 3) := by decide +kernel
theorem dX12_codeOf_150 : decode cX12_codeOf 150 = .ok (.iload 6, 2) := by decide +kernel
theorem dX12_codeOf_152 : decode cX12_codeOf 152 = .ok (.iaload, 1) := by decide +kernel
theorem dX12_codeOf_153 : decode cX12_codeOf 153 = .ok (.iastore, 1) := by decide +kernel
theorem dX12_codeOf_154 : decode cX12_codeOf 154 = .ok (.iinc 6 1, 3) := by decide +kernel
theorem dX12_codeOf_157 : decode cX12_codeOf 157 = .ok (.goto (-67), 3) := by decide +kernel
theorem dX12_codeOf_160 : decode cX12_codeOf 160 = .ok (.aload_n 0, 1) := by decide +kernel
theorem dX12_codeOf_161 : decode cX12_codeOf 161 = .ok (.getfield 120, 3) := by decide +kernel
theorem dX12_codeOf_164 : decode cX12_codeOf 164 = .ok (.iload 4, 2) := by decide +kernel
theorem dX12_codeOf_166 : decode cX12_codeOf 166 = .ok (.iaload, 1) := by decide +kernel
theorem dX12_codeOf_167 : decode cX12_codeOf 167 = .ok (.iconst (-1), 1) := by decide +kernel
theorem dX12_codeOf_168 : decode cX12_codeOf 168 = .ok (.if_icmp .ne 14, 3) := by decide +kernel
theorem dX12_codeOf_171 : decode cX12_codeOf 171 = .ok (.aload_n 0, 1) := by decide +kernel
theorem dX12_codeOf_172 : decode cX12_codeOf 172 = .ok (.getfield 120, 3) := by decide +kernel
theorem dX12_codeOf_175 : decode cX12_codeOf 175 = .ok (.iload 4, 2) := by decide +kernel
theorem dX12_codeOf_177 : decode cX12_codeOf 177 = .ok (.iload_n 2, 1) := by decide +kernel
theorem dX12_codeOf_178 : decode cX12_codeOf 178 = .ok (.iastore, 1) := by decide +kernel
theorem dX12_codeOf_179 : decode cX12_codeOf 179 = .ok (.iinc 2 1, 3) := by decide +kernel
theorem dX12_codeOf_182 : decode cX12_codeOf 182 = .ok (.iconst 5, 1) := by decide +kernel
theorem dX12_codeOf_183 : decode cX12_codeOf 183 = .ok (.iload_n 3, 1) := by decide +kernel
theorem dX12_codeOf_184 : decode cX12_codeOf 184 = .ok (.imul, 1) := by decide +kernel
theorem dX12_codeOf_185 : decode cX12_codeOf 185 = .ok (.aload_n 0, 1) := by decide +kernel
theorem dX12_codeOf_186 : decode cX12_codeOf 186 = .ok (.getfield 120, 3) := by decide +kernel
theorem dX12_codeOf_189 : decode cX12_codeOf 189 = .ok (.iload 4, 2) := by decide +kernel
theorem dX12_codeOf_191 : decode cX12_codeOf 191 = .ok (.iaload, 1) := by decide +kernel
theorem dX12_codeOf_192 : decode cX12_codeOf 192 = .ok (.iadd, 1) := by decide +kernel
theorem dX12_codeOf_193 : decode cX12_codeOf 193 = .ok (.istore_n 3, 1) := by decide +kernel
theorem dX12_codeOf_194 : decode cX12_codeOf 194 = .ok (.iinc 4 1, 3) := by decide +kernel
theorem dX12_codeOf_197 : decode cX12_codeOf 197 = .ok (.goto (-163), 3) := by decide +kernel
theorem dX12_codeOf_200 : decode cX12_codeOf 200 = .ok (.iload_n 3, 1) := by decide +kernel
theorem dX12_codeOf_201 : decode cX12_codeOf 201 = .ok (.ireturn, 1) := by decide +kernel
theorem dX12_comes_0 : decode cX12_comes 0 = .ok (.aload_n 0, 1) := by decide +kernel
theorem dX12_comes_1 : decode cX12_comes 1 = .ok (.getfield 493, 3) := by decide +kernel
theorem dX12_comes_4 : decode cX12_comes 4 = .ok (.istore_n 2, 1) := by decide +kernel
theorem dX12_comes_5 : decode cX12_comes 5 = .ok (.aload_n 0, 1) := by decide +kernel
theorem dX12_comes_6 : decode cX12_comes 6 = .ok (.getfield 117, 3) := by decide +kernel
theorem dX12_comes_9 : decode cX12_comes 9 = .ok (.bipush 6, 2) := by decide +kernel
theorem dX12_comes_11 : decode cX12_comes 11 = .ok (.iload_n 2, 1) := by decide +kernel
theorem dX12_comes_12 : decode cX12_comes 12 = .ok (.imul, 1) := by decide +kernel
theorem dX12_comes_13 : decode cX12_comes 13 = .ok (.aload_n 0, 1) := by decide +kernel
theorem dX12_comes_14 : decode cX12_comes 14 = .ok (.getfield 135, 3) := by decide +kernel
theorem dX12_comes_17 : decode cX12_comes 17 = .ok (.iastore, 1) := by decide +kernel
theorem dX12_comes_18 : decode cX12_comes 18 = .ok (.aload_n 0, 1) := by decide +kernel
theorem dX12_comes_19 : decode cX12_comes 19 = .ok (.getfield 117, 3) := by decide +kernel
theorem dX12_comes_22 : decode cX12_comes 22 = .ok (.bipush 6, 2) := by decide +kernel
theorem dX12_comes_24 : decode cX12_comes 24 = .ok (.iload_n 2, 1) := by decide +kernel
theorem dX12_comes_25 : decode cX12_comes 25 = .ok (.imul, 1) := by decide +kernel
theorem dX12_comes_26 : decode cX12_comes 26 = .ok (.iconst 1, 1) := by decide +kernel
theorem dX12_comes_27 : decode cX12_comes 27 = .ok (.iadd, 1) := by decide +kernel
theorem dX12_comes_28 : decode cX12_comes 28 = .ok (.aload_n 0, 1) := by decide +kernel
theorem dX12_comes_29 : decode cX12_comes 29 = .ok (.getfield 138, 3) := by decide +kernel
theorem dX12_comes_32 : decode cX12_comes 32 = .ok (.iastore, 1) := by decide +kernel
theorem dX12_comes_33 : decode cX12_comes 33 = .ok (.aload_n 0, 1) := by decide +kernel
theorem dX12_comes_34 : decode cX12_comes 34 = .ok (.getfield 117, 3) := by decide +kernel
theorem dX12_comes_37 : decode cX12_comes 37 = .ok (.bipush 6, 2) := by decide +kernel
theorem dX12_comes_39 : decode cX12_comes 39 = .ok (.iload_n 2, 1) := by decide +kernel
theorem dX12_comes_40 : decode cX12_comes 40 = .ok (.imul, 1) := by decide +kernel
theorem dX12_comes_41 : decode cX12_comes 41 = .ok (.iconst 2, 1) := by decide +kernel
theorem dX12_comes_42 : decode cX12_comes 42 = .ok (.iadd, 1) := by decide +kernel
theorem dX12_comes_43 : decode cX12_comes 43 = .ok (.aload_n 0, 1) := by decide +kernel
theorem dX12_comes_44 : decode cX12_comes 44 = .ok (.getfield 141, 3) := by decide +kernel
theorem dX12_comes_47 : decode cX12_comes 47 = .ok (.iastore, 1) := by decide +kernel
theorem dX12_comes_48 : decode cX12_comes 48 = .ok (.aload_n 0, 1) := by decide +kernel
theorem dX12_comes_49 : decode cX12_comes 49 = .ok (.getfield 117, 3) := by decide +kernel
theorem dX12_comes_52 : decode cX12_comes 52 = .ok (.bipush 6, 2) := by decide +kernel
theorem dX12_comes_54 : decode cX12_comes 54 = .ok (.iload_n 2, 1) := by decide +kernel
theorem dX12_comes_55 : decode cX12_comes 55 = .ok (.imul, 1) := by decide +kernel
theorem dX12_comes_56 : decode cX12_comes 56 = .ok (.iconst 3, 1) := by decide +kernel
theorem dX12_comes_57 : decode cX12_comes 57 = .ok (.iadd, 1) := by decide +kernel
theorem dX12_comes_58 : decode cX12_comes 58 = .ok (.iload_n 1, 1) := by decide +kernel
theorem dX12_comes_59 : decode cX12_comes 59 = .ok (.ifCond .eq 10, 3) := by decide +kernel
theorem dX12_comes_62 : decode cX12_comes 62 = .ok (.aload_n 0, 1) := by decide +kernel
theorem dX12_comes_63 : decode cX12_comes 63 = .ok (.getfield 477, 3) := by decide +kernel
theorem dX12_comes_66 : decode cX12_comes 66 = .ok (.goto 7, 3) := by decide +kernel
theorem dX12_comes_69 : decode cX12_comes 69 = .ok (.aload_n 0, 1) := by decide +kernel
theorem dX12_comes_70 : decode cX12_comes 70 = .ok (.getfield 496, 3) := by decide +kernel
theorem dX12_comes_73 : decode cX12_comes 73 = .ok (.iastore, 1) := by decide +kernel
theorem dX12_comes_74 : decode cX12_comes 74 = .ok (.aload_n 0, 1) := by decide +kernel
theorem dX12_comes_75 : decode cX12_comes 75 = .ok (.getfield 117, 3) := by decide +kernel
theorem dX12_comes_78 : decode cX12_comes 78 = .ok (.bipush 6, 2) := by decide +kernel
theorem dX12_comes_80 : decode cX12_comes 80 = .ok (.iload_n 2, 1) := by decide +kernel
theorem dX12_comes_81 : decode cX12_comes 81 = .ok (.imul, 1) := by decide +kernel
theorem dX12_comes_82 : decode cX12_comes 82 = .ok (.iconst 4, 1) := by decide +kernel
theorem dX12_comes_83 : decode cX12_comes 83 = .ok (.iadd, 1) := by decide +kernel
theorem dX12_comes_84 : decode cX12_comes 84 = .ok (.iload_n 1, 1) := by decide +kernel
theorem dX12_comes_85 : decode cX12_comes 85 = .ok (.ifCond .eq 10, 3) := by decide +kernel
theorem dX12_comes_88 : decode cX12_comes 88 = .ok (.aload_n 0, 1) := by decide +kernel
theorem dX12_comes_89 : decode cX12_comes 89 = .ok (.getfield 480, 3) := by decide +kernel
theorem dX12_comes_92 : decode cX12_comes 92 = .ok (.goto 7, 3) := by decide +kernel
theorem dX12_comes_95 : decode cX12_comes 95 = .ok (.aload_n 0, 1) := by decide +kernel
theorem dX12_comes_96 : decode cX12_comes 96 = .ok (.getfield 499, 3) := by decide +kernel
theorem dX12_comes_99 : decode cX12_comes 99 = .ok (.iastore, 1) := by decide +kernel
theorem dX12_comes_100 : decode cX12_comes 100 = .ok (.aload_n 0, 1) := by decide +kernel
theorem dX12_comes_101 : decode cX12_comes 101 = .ok (.getfield 117, 3) := by decide +kernel
theorem dX12_comes_104 : decode cX12_comes 104 = .ok (.bipush 6, 2) := by decide +kernel
theorem dX12_comes_106 : decode cX12_comes 106 = .ok (.iload_n 2, 1) := by decide +kernel
theorem dX12_comes_107 : decode cX12_comes 107 = .ok (.imul, 1) := by decide +kernel
theorem dX12_comes_108 : decode cX12_comes 108 = .ok (.iconst 5, 1) := by decide +kernel
theorem dX12_comes_109 : decode cX12_comes 109 = .ok (.iadd, 1) := by decide +kernel
theorem dX12_comes_110 : decode cX12_comes 110 = .ok (.iload_n 1, 1) := by decide +kernel
theorem dX12_comes_111 : decode cX12_comes 111 = .ok (.ifCond .eq 10, 3) := by decide +kernel
theorem dX12_comes_114 : decode cX12_comes 114 = .ok (.aload_n 0, 1) := by decide +kernel
theorem dX12_comes_115 : decode cX12_comes 115 = .ok (.getfield 483, 3) := by decide +kernel
theorem dX12_comes_118 : decode cX12_comes 118 = .ok (.goto 7, 3) := by decide +kernel
theorem dX12_comes_121 : decode cX12_comes 121 = .ok (.aload_n 0, 1) := by decide +kernel
theorem dX12_comes_122 : decode cX12_comes 122 = .ok (.getfield 502, 3) := by decide +kernel
theorem dX12_comes_125 : decode cX12_comes 125 = .ok (.iastore, 1) := by decide +kernel
theorem dX12_comes_126 : decode cX12_comes 126 = .ok (.aload_n 0, 1) := by decide +kernel
theorem dX12_comes_127 : decode cX12_comes 127 = .ok (.iload_n 2, 1) := by decide +kernel
theorem dX12_comes_128 : decode cX12_comes 128 = .ok (.invokevirtual 505, 3) := by decide +kernel
theorem dX12_comes_131 : decode cX12_comes 131 = .ok (.istore_n 3, 1) := by decide +kernel
theorem dX12_comes_132 : decode cX12_comes 132 = .ok (.aload_n 0, 1) := by decide +kernel
theorem dX12_comes_133 : decode cX12_comes 133 = .ok (.getfield 124, 3) := by decide +kernel
theorem dX12_comes_136 : decode cX12_comes 136 = .ok (.iload_n 3, 1) := by decide +kernel
theorem dX12_comes_137 : decode cX12_comes 137 = .ok (.baload, 1) := by decide +kernel
theorem dX12_comes_138 : decode cX12_comes 138 = .ok (.ifCond .eq 5, 3) := by decide +kernel
theorem dX12_comes_141 : decode cX12_comes 141 = .ok (.iconst 0, 1) := by decide +kernel
theorem dX12_comes_142 : decode cX12_comes 142 = .ok (.ireturn, 1) := by decide +kernel
theorem dX12_comes_143 : decode cX12_comes 143 = .ok (.aload_n 0, 1) := by decide +kernel
theorem dX12_comes_144 : decode cX12_comes 144 = .ok (.getfield 124, 3) := by decide +kernel
theorem dX12_comes_147 : decode cX12_comes 147 = .ok (.iload_n 3, 1) := by decide +kernel
theorem dX12_comes_148 : decode cX12_comes 148 = .ok (.iconst 1, 1) := by decide +kernel
theorem dX12_comes_149 : decode cX12_comes 149 = .ok (.bastore, 1) := by decide +kernel
theorem dX12_comes_150 : decode cX12_comes 150 = .ok (.aload_n 0, 1) := by decide +kernel
theorem dX12_comes_151 : decode cX12_comes 151 = .ok (.dup, 1) := by decide +kernel
theorem dX12_comes_152 : decode cX12_comes 152 = .ok (.getfield 493, 3) := by decide +kernel
theorem dX12_comes_155 : decode cX12_comes 155 = .ok (.iconst 1, 1) := by decide +kernel
theorem dX12_comes_156 : decode cX12_comes 156 = .ok (.iadd, 1) := by decide +kernel
theorem dX12_comes_157 : decode cX12_comes 157 = .ok (.putfield 493, 3) := by decide +kernel
theorem dX12_comes_160 : decode cX12_comes 160 = .ok (.iconst 1, 1) := by decide +kernel
theorem dX12_comes_161 : decode cX12_comes 161 = .ok (.ireturn, 1) := by decide +kernel
theorem dX12_isGood_0 : decode cX12_isGood 0 = .ok (.iload_n 1, 1) := by decide +kernel
theorem dX12_isGood_1 : decode cX12_isGood 1 = .ok (.iconst (-1), 1) := by decide +kernel
theorem dX12_isGood_2 : decode cX12_isGood 2 = .ok (.if_icmp .ne 5, 3) := by decide +kernel
theorem dX12_isGood_5 : decode cX12_isGood 5 = .ok (.iconst 0, 1) := by decide +kernel
theorem dX12_isGood_6 : decode cX12_isGood 6 = .ok (.ireturn, 1) := by decide +kernel
theorem dX12_isGood_7 : decode cX12_isGood 7 = .ok (.aload_n 0, 1) := by decide +kernel
theorem dX12_isGood_8 : decode cX12_isGood 8 = .ok (.iload_n 1, 1) := by decide +kernel
theorem dX12_isGood_9 : decode cX12_isGood 9 = .ok (.invokevirtual 419, 3) := by decide +kernel
theorem dX12_isGood_12 : decode cX12_isGood 12 = .ok (.aload_n 0, 1) := by decide +kernel
theorem dX12_isGood_13 : decode cX12_isGood 13 = .ok (.getfield 398, 3) := by decide +kernel
theorem dX12_isGood_16 : decode cX12_isGood 16 = .ok (.iconst (-1), 1) := by decide +kernel
theorem dX12_isGood_17 : decode cX12_isGood 17 = .ok (.if_icmp .eq 24, 3) := by decide +kernel
theorem dX12_isGood_20 : decode cX12_isGood 20 = .ok (.aload_n 0, 1) := by decide +kernel
theorem dX12_isGood_21 : decode cX12_isGood 21 = .ok (.iconst 0, 1) := by decide +kernel
theorem dX12_isGood_22 : decode cX12_isGood 22 = .ok (.iconst 3, 1) := by decide +kernel
theorem dX12_isGood_23 : decode cX12_isGood 23 = .ok (.invokevirtual 155, 3) := by decide +kernel
theorem dX12_isGood_26 : decode cX12_isGood 26 = .ok (.aload_n 0, 1) := by decide +kernel
theorem dX12_isGood_27 : decode cX12_isGood 27 = .ok (.getfield 398, 3) := by decide +kernel
theorem dX12_isGood_30 : decode cX12_isGood 30 = .ok (.ishr, 1) := by decide +kernel
theorem dX12_isGood_31 : decode cX12_isGood 31 = .ok (.iconst 1, 1) := by decide +kernel
theorem dX12_isGood_32 : decode cX12_isGood 32 = .ok (.iand, 1) := by decide +kernel
theorem dX12_isGood_33 : decode cX12_isGood 33 = .ok (.iconst 1, 1) := by decide +kernel
theorem dX12_isGood_34 : decode cX12_isGood 34 = .ok (.if_icmp .ne 7, 3) := by decide +kernel
theorem dX12_isGood_37 : decode cX12_isGood 37 = .ok (.iconst 1, 1) := by decide +kernel
theorem dX12_isGood_38 : decode cX12_isGood 38 = .ok (.goto 4, 3) := by decide +kernel
theorem dX12_isGood_41 : decode cX12_isGood 41 = .ok (.iconst 0, 1) := by decide +kernel
theorem dX12_isGood_42 : decode cX12_isGood 42 = .ok (.ireturn, 1) := by decide +kernel
theorem dX12_isUnlike_0 : decode cX12_isUnlike 0 = .ok (.aload_n 0, 1) := by decide +kernel
theorem dX12_isUnlike_1 : decode cX12_isUnlike 1 = .ok (.aload_n 0, 1) := by decide +kernel
theorem dX12_isUnlike_2 : decode cX12_isUnlike 2 = .ok (.getfield 117, 3) := by decide +kernel
theorem dX12_isUnlike_5 : decode cX12_isUnlike 5 = .ok (.bipush 6, 2) := by decide +kernel
theorem dX12_isUnlike_7 : decode cX12_isUnlike 7 = .ok (.iload_n 1, 1) := by decide +kernel
theorem dX12_isUnlike_8 : decode cX12_isUnlike 8 = .ok (.imul, 1) := by decide +kernel
theorem dX12_isUnlike_9 : decode cX12_isUnlike 9 = .ok (.iaload, 1) := by decide +kernel
theorem dX12_isUnlike_10 : decode cX12_isUnlike 10 = .ok (.iconst (-1), 1) := by decide +kernel
theorem dX12_isUnlike_11 : decode cX12_isUnlike 11 = .ok (.iconst (-1), 1) := by decide +kernel
theorem dX12_isUnlike_12 : decode cX12_isUnlike 12 = .ok (.invokevirtual 144, 3) := by decide +kernel
theorem dX12_isUnlike_15 : decode cX12_isUnlike 15 = .ok (.aload_n 0, 1) := by decide +kernel
theorem dX12_isUnlike_16 : decode cX12_isUnlike 16 = .ok (.iconst 0, 1) := by decide +kernel
theorem dX12_isUnlike_17 : decode cX12_isUnlike 17 = .ok (.invokevirtual 285, 3) := by decide +kernel
theorem dX12_isUnlike_20 : decode cX12_isUnlike 20 = .ok (.istore_n 3, 1) := by decide +kernel
theorem dX12_isUnlike_21 : decode cX12_isUnlike 21 = .ok (.iload_n 2, 1) := by decide +kernel
theorem dX12_isUnlike_22 : decode cX12_isUnlike 22 = .ok (.ifCond .eq 28, 3) := by decide +kernel
theorem dX12_isUnlike_25 : decode cX12_isUnlike 25 = .ok (.iload_n 3, 1) := by decide +kernel
theorem dX12_isUnlike_26 : decode cX12_isUnlike 26 = .ok (.aload_n 0, 1) := by decide +kernel
theorem dX12_isUnlike_27 : decode cX12_isUnlike 27 = .ok (.aload_n 0, 1) := by decide +kernel
theorem dX12_isUnlike_28 : decode cX12_isUnlike 28 = .ok (.getfield 117, 3) := by decide +kernel
theorem dX12_isUnlike_31 : decode cX12_isUnlike 31 = .ok (.bipush 6, 2) := by decide +kernel
theorem dX12_isUnlike_33 : decode cX12_isUnlike 33 = .ok (.iload_n 1, 1) := by decide +kernel
theorem dX12_isUnlike_34 : decode cX12_isUnlike 34 = .ok (.imul, 1) := by decide +kernel
theorem dX12_isUnlike_35 : decode cX12_isUnlike 35 = .ok (.iconst 3, 1) := by decide +kernel
theorem dX12_isUnlike_36 : decode cX12_isUnlike 36 = .ok (.iadd, 1) := by decide +kernel
theorem dX12_isUnlike_37 : decode cX12_isUnlike 37 = .ok (.iaload, 1) := by decide +kernel
theorem dX12_isUnlike_38 : decode cX12_isUnlike 38 = .ok (.invokevirtual 508, 3) := by decide +kernel
theorem dX12_isUnlike_41 : decode cX12_isUnlike 41 = .ok (.if_icmp .eq 7, 3) := by decide +kernel
theorem dX12_isUnlike_44 : decode cX12_isUnlike 44 = .ok (.iconst 1, 1) := by decide +kernel
theorem dX12_isUnlike_45 : decode cX12_isUnlike 45 = .ok (.goto 4, 3) := by decide +kernel
theorem dX12_isUnlike_48 : decode cX12_isUnlike 48 = .ok (.iconst 0, 1) := by decide +kernel
theorem dX12_isUnlike_49 : decode cX12_isUnlike 49 = .ok (.ireturn, 1) := by decide +kernel
theorem dX12_isUnlike_50 : decode cX12_isUnlike 50 = .ok (.aload_n 0, 1) := by decide +kernel
theorem dX12_isUnlike_51 : decode cX12_isUnlike 51 = .ok (.aload_n 0, 1) := by decide +kernel
theorem dX12_isUnlike_52 : decode cX12_isUnlike 52 = .ok (.getfield 117, 3) := by decide +kernel
theorem dX12_isUnlike_55 : decode cX12_isUnlike 55 = .ok (.bipush 6, 2) := by decide +kernel
theorem dX12_isUnlike_57 : decode cX12_isUnlike 57 = .ok (.iload_n 1, 1) := by decide +kernel
theorem dX12_isUnlike_58 : decode cX12_isUnlike 58 = .ok (.imul, 1) := by decide +kernel
theorem dX12_isUnlike_59 : decode cX12_isUnlike 59 = .ok (.iconst 3, 1) := by decide +kernel
theorem dX12_isUnlike_60 : decode cX12_isUnlike 60 = .ok (.iadd, 1) := by decide +kernel
theorem dX12_isUnlike_61 : decode cX12_isUnlike 61 = .ok (.iaload, 1) := by decide +kernel
theorem dX12_isUnlike_62 : decode cX12_isUnlike 62 = .ok (.iconst (-1), 1) := by decide +kernel
theorem dX12_isUnlike_63 : decode cX12_isUnlike 63 = .ok (.iconst (-1), 1) := by decide +kernel
theorem dX12_isUnlike_64 : decode cX12_isUnlike 64 = .ok (.invokevirtual 144, 3) := by decide +kernel
theorem dX12_isUnlike_67 : decode cX12_isUnlike 67 = .ok (.iload_n 3, 1) := by decide +kernel
theorem dX12_isUnlike_68 : decode cX12_isUnlike 68 = .ok (.aload_n 0, 1) := by decide +kernel
theorem dX12_isUnlike_69 : decode cX12_isUnlike 69 = .ok (.iconst 1, 1) := by decide +kernel
theorem dX12_isUnlike_70 : decode cX12_isUnlike 70 = .ok (.invokevirtual 285, 3) := by decide +kernel
theorem dX12_isUnlike_73 : decode cX12_isUnlike 73 = .ok (.if_icmp .eq 7, 3) := by decide +kernel
theorem dX12_isUnlike_76 : decode cX12_isUnlike 76 = .ok (.iconst 1, 1) := by decide +kernel
theorem dX12_isUnlike_77 : decode cX12_isUnlike 77 = .ok (.goto 4, 3) := by decide +kernel
theorem dX12_isUnlike_80 : decode cX12_isUnlike 80 = .ok (.iconst 0, 1) := by decide +kernel
theorem dX12_isUnlike_81 : decode cX12_isUnlike 81 = .ok (.ireturn, 1) := by decide +kernel
theorem dX12_symbolsOf_0 : decode cX12_symbolsOf 0 = .ok (.iload_n 1, 1) := by decide +kernel
theorem dX12_symbolsOf_1 : decode cX12_symbolsOf 1 = .ok (.ifCond .ne 18, 3) := by decide +kernel
theorem dX12_symbolsOf_4 : decode cX12_symbolsOf 4 = .ok (.aload_n 0, 1) := by decide +kernel
theorem dX12_symbolsOf_5 : decode cX12_symbolsOf 5 = .ok (.iconst 0, 1) := by decide +kernel
theorem dX12_symbolsOf_6 : decode cX12_symbolsOf 6 = .ok (.iconst 2, 1) := by decide +kernel
theorem dX12_symbolsOf_7 : decode cX12_symbolsOf 7 = .ok (.invokevirtual 155, 3) := by decide +kernel
theorem dX12_symbolsOf_10 : decode cX12_symbolsOf 10 = .ok (.aload_n 0, 1) := by decide +kernel
theorem dX12_symbolsOf_11 : decode cX12_symbolsOf 11 = .ok (.iconst 1, 1) := by decide +kernel
theorem dX12_symbolsOf_12 : decode cX12_symbolsOf 12 = .ok (.iconst 2, 1) := by decide +kernel
theorem dX12_symbolsOf_13 : decode cX12_symbolsOf 13 = .ok (.invokevirtual 155, 3) := by decide +kernel
theorem dX12_symbolsOf_16 : decode cX12_symbolsOf 16 = .ok (.if_icmp .le 12, 3) := by decide +kernel
theorem dX12_symbolsOf_19 : decode cX12_symbolsOf 19 = .ok (.aload_n 0, 1) := by decide +kernel
theorem dX12_symbolsOf_20 : decode cX12_symbolsOf 20 = .ok (.iconst 0, 1) := by decide +kernel
theorem dX12_symbolsOf_21 : decode cX12_symbolsOf 21 = .ok (.iconst 2, 1) := by decide +kernel
theorem dX12_symbolsOf_22 : decode cX12_symbolsOf 22 = .ok (.invokevirtual 155, 3) := by decide +kernel
theorem dX12_symbolsOf_25 : decode cX12_symbolsOf 25 = .ok (.goto 9, 3) := by decide +kernel
theorem dX12_symbolsOf_28 : decode cX12_symbolsOf 28 = .ok (.aload_n 0, 1) := by decide +kernel
theorem dX12_symbolsOf_29 : decode cX12_symbolsOf 29 = .ok (.iconst 1, 1) := by decide +kernel
theorem dX12_symbolsOf_30 : decode cX12_symbolsOf 30 = .ok (.iconst 2, 1) := by decide +kernel
theorem dX12_symbolsOf_31 : decode cX12_symbolsOf 31 = .ok (.invokevirtual 155, 3) := by decide +kernel
theorem dX12_symbolsOf_34 : decode cX12_symbolsOf 34 = .ok (.ireturn, 1) := by decide +kernel
theorem dX12_isHad_0 : decode cX12_isHad 0 = .ok (.iconst 0, 1) := by decide +kernel
theorem dX12_isHad_1 : decode cX12_isHad 1 = .ok (.istore 4, 2) := by decide +kernel
theorem dX12_isHad_3 : decode cX12_isHad 3 = .ok (.iload 4, 2) := by decide +kernel
theorem dX12_isHad_5 : decode cX12_isHad 5 = .ok (.iload_n 2, 1) := by decide +kernel
theorem dX12_isHad_6 : decode cX12_isHad 6 = .ok (.if_icmp .ge 48, 3) := by decide +kernel
theorem dX12_isHad_9 : decode cX12_isHad 9 = .ok (.iload 4, 2) := by decide +kernel
theorem dX12_isHad_11 : decode cX12_isHad 11 = .ok (.iconst 4, 1) := by decide +kernel
theorem dX12_isHad_12 : decode cX12_isHad 12 = .ok (.if_icmp .ge 42, 3) := by decide +kernel
theorem dX12_isHad_15 : decode cX12_isHad 15 = .ok (.aload_n 0, 1) := by decide +kernel
theorem dX12_isHad_16 : decode cX12_isHad 16 = .ok (.getfield 117, 3) := by decide +kernel
theorem dX12_isHad_19 : decode cX12_isHad 19 = .ok (.bipush 6, 2) := by decide +kernel
theorem dX12_isHad_21 : decode cX12_isHad 21 = .ok (.iload_n 1, 1) := by decide +kernel
theorem dX12_isHad_22 : decode cX12_isHad 22 = .ok (.imul, 1) := by decide +kernel
theorem dX12_isHad_23 : decode cX12_isHad 23 = .ok (.iload 4, 2) := by decide +kernel
theorem dX12_isHad_25 : decode cX12_isHad 25 = .ok (.iconst 2, 1) := by decide +kernel
theorem dX12_isHad_26 : decode cX12_isHad 26 = .ok (.if_icmp .ge 10, 3) := by decide +kernel
theorem dX12_isHad_29 : decode cX12_isHad 29 = .ok (.iconst 1, 1) := by decide +kernel
theorem dX12_isHad_30 : decode cX12_isHad 30 = .ok (.iload 4, 2) := by decide +kernel
theorem dX12_isHad_32 : decode cX12_isHad 32 = .ok (.iadd, 1) := by decide +kernel
theorem dX12_isHad_33 : decode cX12_isHad 33 = .ok (.goto 7, 3) := by decide +kernel
theorem dX12_isHad_36 : decode cX12_isHad 36 = .ok (.iconst 2, 1) := by decide +kernel
theorem dX12_isHad_37 : decode cX12_isHad 37 = .ok (.iload 4, 2) := by decide +kernel
theorem dX12_isHad_39 : decode cX12_isHad 39 = .ok (.iadd, 1) := by decide +kernel
theorem dX12_isHad_40 : decode cX12_isHad 40 = .ok (.iadd, 1) := by decide +kernel
theorem dX12_isHad_41 : decode cX12_isHad 41 = .ok (.iaload, 1) := by decide +kernel
theorem dX12_isHad_42 : decode cX12_isHad 42 = .ok (.iload_n 3, 1) := by decide +kernel
theorem dX12_isHad_43 : decode cX12_isHad 43 = .ok (.if_icmp .ne 5, 3) := by decide +kernel
theorem dX12_isHad_46 : decode cX12_isHad 46 = .ok (.iconst 1, 1) := by decide +kernel
theorem dX12_isHad_47 : decode cX12_isHad 47 = .ok (.ireturn, 1) := by decide +kernel
theorem dX12_isHad_48 : decode cX12_isHad 48 = .ok (.iinc 4 1, 3) := by decide +kernel
theorem dX12_isHad_51 : decode cX12_isHad 51 = .ok (.goto (-48), 3) := by decide +kernel
theorem dX12_isHad_54 : decode cX12_isHad 54 = .ok (.iconst 0, 1) := by decide +kernel
theorem dX12_isHad_55 : decode cX12_isHad 55 = .ok (.ireturn, 1) := by decide +kernel
theorem dX12_valueOf_0 : decode cX12_valueOf 0 = .ok (.iload_n 1, 1) := by decide +kernel
theorem dX12_valueOf_1 : decode cX12_valueOf 1 = .ok (.iconst (-1), 1) := by decide +kernel
theorem dX12_valueOf_2 : decode cX12_valueOf 2 = .ok (.if_icmp .ne 5, 3) := by decide +kernel
theorem dX12_valueOf_5 : decode cX12_valueOf 5 = .ok (.iconst (-1), 1) := by decide +kernel
theorem dX12_valueOf_6 : decode cX12_valueOf 6 = .ok (.ireturn, 1) := by decide +kernel
theorem dX12_valueOf_7 : decode cX12_valueOf 7 = .ok (.iload_n 1, 1) := by decide +kernel
theorem dX12_valueOf_8 : decode cX12_valueOf 8 = .ok (.iload_n 3, 1) := by decide +kernel
theorem dX12_valueOf_9 : decode cX12_valueOf 9 = .ok (.if_icmp .ne 6, 3) := by decide +kernel
theorem dX12_valueOf_12 : decode cX12_valueOf 12 = .ok (.iload 4, 2) := by decide +kernel
theorem dX12_valueOf_14 : decode cX12_valueOf 14 = .ok (.ireturn, 1) := by decide +kernel
theorem dX12_valueOf_15 : decode cX12_valueOf 15 = .ok (.iload_n 1, 1) := by decide +kernel
theorem dX12_valueOf_16 : decode cX12_valueOf 16 = .ok (.iload_n 2, 1) := by decide +kernel
theorem dX12_valueOf_17 : decode cX12_valueOf 17 = .ok (.iconst 0, 1) := by decide +kernel
theorem dX12_valueOf_18 : decode cX12_valueOf 18 = .ok (.invokestatic 392, 3) := by decide +kernel
theorem dX12_valueOf_21 : decode cX12_valueOf 21 = .ok (.if_icmp .ne 10, 3) := by decide +kernel
theorem dX12_valueOf_24 : decode cX12_valueOf 24 = .ok (.aload_n 0, 1) := by decide +kernel
theorem dX12_valueOf_25 : decode cX12_valueOf 25 = .ok (.getfield 480, 3) := by decide +kernel
theorem dX12_valueOf_28 : decode cX12_valueOf 28 = .ok (.goto 7, 3) := by decide +kernel
theorem dX12_valueOf_31 : decode cX12_valueOf 31 = .ok (.aload_n 0, 1) := by decide +kernel
theorem dX12_valueOf_32 : decode cX12_valueOf 32 = .ok (.getfield 483, 3) := by decide +kernel
theorem dX12_valueOf_35 : decode cX12_valueOf 35 = .ok (.ireturn, 1) := by decide +kernel
theorem dX12_guessGoes_0 : decode cX12_guessGoes 0 = .ok (.aload_n 0, 1) := by decide +kernel
theorem dX12_guessGoes_1 : decode cX12_guessGoes 1 = .ok (.getfield 477, 3) := by decide +kernel
theorem dX12_guessGoes_4 : decode cX12_guessGoes 4 = .ok (.iconst (-1), 1) := by decide +kernel
theorem dX12_guessGoes_5 : decode cX12_guessGoes 5 = .ok (.if_icmp .ne 4, 3) := by decide +kernel
theorem dX12_guessGoes_8 : decode cX12_guessGoes 8 = .ok (.return_, 1) := by decide +kernel
theorem dX12_guessGoes_9 : decode cX12_guessGoes 9 = .ok (.iload_n 1, 1) := by decide +kernel
theorem dX12_guessGoes_10 : decode cX12_guessGoes 10 = .ok (.aload_n 0, 1) := by decide +kernel
theorem dX12_guessGoes_11 : decode cX12_guessGoes 11 = .ok (.iconst 0, 1) := by decide +kernel
theorem dX12_guessGoes_12 : decode cX12_guessGoes 12 = .ok (.iconst 2, 1) := by decide +kernel
theorem dX12_guessGoes_13 : decode cX12_guessGoes 13 = .ok (.invokevirtual 155, 3) := by decide +kernel
theorem dX12_guessGoes_16 : decode cX12_guessGoes 16 = .ok (.if_icmp .lt 11, 3) := by decide +kernel
theorem dX12_guessGoes_19 : decode cX12_guessGoes 19 = .ok (.aload_n 0, 1) := by decide +kernel
theorem dX12_guessGoes_20 : decode cX12_guessGoes 20 = .ok (.iconst (-1), 1) := by decide +kernel
theorem dX12_guessGoes_21 : decode cX12_guessGoes 21 = .ok (.iconst (-1), 1) := by decide +kernel
theorem dX12_guessGoes_22 : decode cX12_guessGoes 22 = .ok (.iconst (-1), 1) := by decide +kernel
theorem dX12_guessGoes_23 : decode cX12_guessGoes 23 = .ok (.invokevirtual 486, 3) := by decide +kernel
theorem dX12_guessGoes_26 : decode cX12_guessGoes 26 = .ok (.return_, 1) := by decide +kernel
theorem dX12_guessGoes_27 : decode cX12_guessGoes 27 = .ok (.aload_n 0, 1) := by decide +kernel
theorem dX12_guessGoes_28 : decode cX12_guessGoes 28 = .ok (.getfield 477, 3) := by decide +kernel
theorem dX12_guessGoes_31 : decode cX12_guessGoes 31 = .ok (.istore_n 3, 1) := by decide +kernel
theorem dX12_guessGoes_32 : decode cX12_guessGoes 32 = .ok (.aload_n 0, 1) := by decide +kernel
theorem dX12_guessGoes_33 : decode cX12_guessGoes 33 = .ok (.iload_n 3, 1) := by decide +kernel
theorem dX12_guessGoes_34 : decode cX12_guessGoes 34 = .ok (.invokevirtual 422, 3) := by decide +kernel
theorem dX12_guessGoes_37 : decode cX12_guessGoes 37 = .ok (.istore 4, 2) := by decide +kernel
theorem dX12_guessGoes_39 : decode cX12_guessGoes 39 = .ok (.aload_n 0, 1) := by decide +kernel
theorem dX12_guessGoes_40 : decode cX12_guessGoes 40 = .ok (.getfield 480, 3) := by decide +kernel
theorem dX12_guessGoes_43 : decode cX12_guessGoes 43 = .ok (.iload_n 2, 1) := by decide +kernel
theorem dX12_guessGoes_44 : decode cX12_guessGoes 44 = .ok (.if_icmp .ne 12, 3) := by decide +kernel
theorem dX12_guessGoes_47 : decode cX12_guessGoes 47 = .ok (.iload 4, 2) := by decide +kernel
theorem dX12_guessGoes_49 : decode cX12_guessGoes 49 = .ok (.iconst 0, 1) := by decide +kernel
theorem dX12_guessGoes_50 : decode cX12_guessGoes 50 = .ok (.invokestatic 392, 3) := by decide +kernel
theorem dX12_guessGoes_53 : decode cX12_guessGoes 53 = .ok (.goto 25, 3) := by decide +kernel
theorem dX12_guessGoes_56 : decode cX12_guessGoes 56 = .ok (.aload_n 0, 1) := by decide +kernel
theorem dX12_guessGoes_57 : decode cX12_guessGoes 57 = .ok (.getfield 483, 3) := by decide +kernel
theorem dX12_guessGoes_60 : decode cX12_guessGoes 60 = .ok (.iload_n 2, 1) := by decide +kernel
theorem dX12_guessGoes_61 : decode cX12_guessGoes 61 = .ok (.if_icmp .ne 12, 3) := by decide +kernel
theorem dX12_guessGoes_64 : decode cX12_guessGoes 64 = .ok (.iload 4, 2) := by decide +kernel
theorem dX12_guessGoes_66 : decode cX12_guessGoes 66 = .ok (.iconst 1, 1) := by decide +kernel
theorem dX12_guessGoes_67 : decode cX12_guessGoes 67 = .ok (.invokestatic 392, 3) := by decide +kernel
theorem dX12_guessGoes_70 : decode cX12_guessGoes 70 = .ok (.goto 8, 3) := by decide +kernel
theorem dX12_guessGoes_73 : decode cX12_guessGoes 73 = .ok (.aload_n 0, 1) := by decide +kernel
theorem dX12_guessGoes_74 : decode cX12_guessGoes 74 = .ok (.iload_n 3, 1) := by decide +kernel
theorem dX12_guessGoes_75 : decode cX12_guessGoes 75 = .ok (.invokevirtual 431, 3) := by decide +kernel
theorem dX12_guessGoes_78 : decode cX12_guessGoes 78 = .ok (.istore 5, 2) := by decide +kernel
theorem dX12_guessGoes_80 : decode cX12_guessGoes 80 = .ok (.iload_n 3, 1) := by decide +kernel
theorem dX12_guessGoes_81 : decode cX12_guessGoes 81 = .ok (.iload_n 1, 1) := by decide +kernel
theorem dX12_guessGoes_82 : decode cX12_guessGoes 82 = .ok (.iload 5, 2) := by decide +kernel
theorem dX12_guessGoes_84 : decode cX12_guessGoes 84 = .ok (.invokestatic 378, 3) := by decide +kernel
theorem dX12_guessGoes_87 : decode cX12_guessGoes 87 = .ok (.istore 6, 2) := by decide +kernel
theorem dX12_guessGoes_89 : decode cX12_guessGoes 89 = .ok (.aload_n 0, 1) := by decide +kernel
theorem dX12_guessGoes_90 : decode cX12_guessGoes 90 = .ok (.getfield 63, 3) := by decide +kernel
theorem dX12_guessGoes_93 : decode cX12_guessGoes 93 = .ok (.iload 6, 2) := by decide +kernel
theorem dX12_guessGoes_95 : decode cX12_guessGoes 95 = .ok (.iaload, 1) := by decide +kernel
theorem dX12_guessGoes_96 : decode cX12_guessGoes 96 = .ok (.istore 7, 2) := by decide +kernel
theorem dX12_guessGoes_98 : decode cX12_guessGoes 98 = .ok (.aload_n 0, 1) := by decide +kernel
theorem dX12_guessGoes_99 : decode cX12_guessGoes 99 = .ok (.iload 7, 2) := by decide +kernel
theorem dX12_guessGoes_101 : decode cX12_guessGoes 101 = .ok (.iconst 0, 1) := by decide +kernel
theorem dX12_guessGoes_102 : decode cX12_guessGoes 102 = .ok (.invokestatic 392, 3) := by decide +kernel
theorem dX12_guessGoes_105 : decode cX12_guessGoes 105 = .ok (.iload 4, 2) := by decide +kernel
theorem dX12_guessGoes_107 : decode cX12_guessGoes 107 = .ok (.iload 5, 2) := by decide +kernel
theorem dX12_guessGoes_109 : decode cX12_guessGoes 109 = .ok (.iload_n 2, 1) := by decide +kernel
theorem dX12_guessGoes_110 : decode cX12_guessGoes 110 = .ok (.invokevirtual 489, 3) := by decide +kernel
theorem dX12_guessGoes_113 : decode cX12_guessGoes 113 = .ok (.istore 8, 2) := by decide +kernel
theorem dX12_guessGoes_115 : decode cX12_guessGoes 115 = .ok (.aload_n 0, 1) := by decide +kernel
theorem dX12_guessGoes_116 : decode cX12_guessGoes 116 = .ok (.iload 7, 2) := by decide +kernel
theorem dX12_guessGoes_118 : decode cX12_guessGoes 118 = .ok (.iconst 1, 1) := by decide +kernel
theorem dX12_guessGoes_119 : decode cX12_guessGoes 119 = .ok (.invokestatic 392, 3) := by decide +kernel
theorem dX12_guessGoes_122 : decode cX12_guessGoes 122 = .ok (.iload 4, 2) := by decide +kernel
theorem dX12_guessGoes_124 : decode cX12_guessGoes 124 = .ok (.iload 5, 2) := by decide +kernel
theorem dX12_guessGoes_126 : decode cX12_guessGoes 126 = .ok (.iload_n 2, 1) := by decide +kernel
theorem dX12_guessGoes_127 : decode cX12_guessGoes 127 = .ok (.invokevirtual 489, 3) := by decide +kernel
theorem dX12_guessGoes_130 : decode cX12_guessGoes 130 = .ok (.istore 9, 2) := by decide +kernel
theorem dX12_guessGoes_132 : decode cX12_guessGoes 132 = .ok (.aload_n 0, 1) := by decide +kernel
theorem dX12_guessGoes_133 : decode cX12_guessGoes 133 = .ok (.getfield 93, 3) := by decide +kernel
theorem dX12_guessGoes_136 : decode cX12_guessGoes 136 = .ok (.iload 6, 2) := by decide +kernel
theorem dX12_guessGoes_138 : decode cX12_guessGoes 138 = .ok (.iaload, 1) := by decide +kernel
theorem dX12_guessGoes_139 : decode cX12_guessGoes 139 = .ok (.iconst 1, 1) := by decide +kernel
theorem dX12_guessGoes_140 : decode cX12_guessGoes 140 = .ok (.if_icmp .ne 7, 3) := by decide +kernel
theorem dX12_guessGoes_143 : decode cX12_guessGoes 143 = .ok (.iconst 1, 1) := by decide +kernel
theorem dX12_guessGoes_144 : decode cX12_guessGoes 144 = .ok (.goto 4, 3) := by decide +kernel
theorem dX12_guessGoes_147 : decode cX12_guessGoes 147 = .ok (.iconst 0, 1) := by decide +kernel
theorem dX12_guessGoes_148 : decode cX12_guessGoes 148 = .ok (.istore 10, 2) := by decide +kernel
theorem dX12_guessGoes_150 : decode cX12_guessGoes 150 = .ok (.aload_n 0, 1) := by decide +kernel
theorem dX12_guessGoes_151 : decode cX12_guessGoes 151 = .ok (.aload_n 0, 1) := by decide +kernel
theorem dX12_guessGoes_152 : decode cX12_guessGoes 152 = .ok (.getfield 90, 3) := by decide +kernel
theorem dX12_guessGoes_155 : decode cX12_guessGoes 155 = .ok (.iload 6, 2) := by decide +kernel
theorem dX12_guessGoes_157 : decode cX12_guessGoes 157 = .ok (.iaload, 1) := by decide +kernel
theorem dX12_guessGoes_158 : decode cX12_guessGoes 158 = .ok (.iload 10, 2) := by decide +kernel
theorem dX12_guessGoes_160 : decode cX12_guessGoes 160 = .ok (.ifCond .eq 8, 3) := by decide +kernel
theorem dX12_guessGoes_163 : decode cX12_guessGoes 163 = .ok (.iload 9, 2) := by decide +kernel
theorem dX12_guessGoes_165 : decode cX12_guessGoes 165 = .ok (.goto 5, 3) := by decide +kernel
theorem dX12_guessGoes_168 : decode cX12_guessGoes 168 = .ok (.iload 8, 2) := by decide +kernel
theorem dX12_guessGoes_170 : decode cX12_guessGoes 170 = .ok (.iload 10, 2) := by decide +kernel
theorem dX12_guessGoes_172 : decode cX12_guessGoes 172 = .ok (.ifCond .eq 8, 3) := by decide +kernel
theorem dX12_guessGoes_175 : decode cX12_guessGoes 175 = .ok (.iload 8, 2) := by decide +kernel
theorem dX12_guessGoes_177 : decode cX12_guessGoes 177 = .ok (.goto 5, 3) := by decide +kernel
theorem dX12_guessGoes_180 : decode cX12_guessGoes 180 = .ok (.iload 9, 2) := by decide +kernel
theorem dX12_guessGoes_182 : decode cX12_guessGoes 182 = .ok (.invokevirtual 486, 3) := by decide +kernel
theorem dX12_guessGoes_185 : decode cX12_guessGoes 185 = .ok (.return_, 1) := by decide +kernel
theorem dX12_follows_0 : decode cX12_follows 0 = .ok (.iload 4, 2) := by decide +kernel
theorem dX12_follows_2 : decode cX12_follows 2 = .ok (.ifCond .eq 49, 3) := by decide +kernel
theorem dX12_follows_5 : decode cX12_follows 5 = .ok (.aload_n 0, 1) := by decide +kernel
theorem dX12_follows_6 : decode cX12_follows 6 = .ok (.aload_n 0, 1) := by decide +kernel
theorem dX12_follows_7 : decode cX12_follows 7 = .ok (.getfield 117, 3) := by decide +kernel
theorem dX12_follows_10 : decode cX12_follows 10 = .ok (.bipush 6, 2) := by decide +kernel
theorem dX12_follows_12 : decode cX12_follows 12 = .ok (.iload_n 1, 1) := by decide +kernel
theorem dX12_follows_13 : decode cX12_follows 13 = .ok (.imul, 1) := by decide +kernel
theorem dX12_follows_14 : decode cX12_follows 14 = .ok (.iconst 3, 1) := by decide +kernel
theorem dX12_follows_15 : decode cX12_follows 15 = .ok (.iadd, 1) := by decide +kernel
theorem dX12_follows_16 : decode cX12_follows 16 = .ok (.iaload, 1) := by decide +kernel
theorem dX12_follows_17 : decode cX12_follows 17 = .ok (.aload_n 0, 1) := by decide +kernel
theorem dX12_follows_18 : decode cX12_follows 18 = .ok (.getfield 117, 3) := by decide +kernel
theorem dX12_follows_21 : decode cX12_follows 21 = .ok (.bipush 6, 2) := by decide +kernel
theorem dX12_follows_23 : decode cX12_follows 23 = .ok (.iload_n 1, 1) := by decide +kernel
theorem dX12_follows_24 : decode cX12_follows 24 = .ok (.imul, 1) := by decide +kernel
theorem dX12_follows_25 : decode cX12_follows 25 = .ok (.iconst 4, 1) := by decide +kernel
theorem dX12_follows_26 : decode cX12_follows 26 = .ok (.iadd, 1) := by decide +kernel
theorem dX12_follows_27 : decode cX12_follows 27 = .ok (.iaload, 1) := by decide +kernel
theorem dX12_follows_28 : decode cX12_follows 28 = .ok (.aload_n 0, 1) := by decide +kernel
theorem dX12_follows_29 : decode cX12_follows 29 = .ok (.getfield 117, 3) := by decide +kernel
theorem dX12_follows_32 : decode cX12_follows 32 = .ok (.bipush 6, 2) := by decide +kernel
theorem dX12_follows_34 : decode cX12_follows 34 = .ok (.iload_n 1, 1) := by decide +kernel
theorem dX12_follows_35 : decode cX12_follows 35 = .ok (.imul, 1) := by decide +kernel
theorem dX12_follows_36 : decode cX12_follows 36 = .ok (.iconst 5, 1) := by decide +kernel
theorem dX12_follows_37 : decode cX12_follows 37 = .ok (.iadd, 1) := by decide +kernel
theorem dX12_follows_38 : decode cX12_follows 38 = .ok (.iaload, 1) := by decide +kernel
theorem dX12_follows_39 : decode cX12_follows 39 = .ok (.invokevirtual 486, 3) := by decide +kernel
theorem dX12_follows_42 : decode cX12_follows 42 = .ok (.aload_n 0, 1) := by decide +kernel
theorem dX12_follows_43 : decode cX12_follows 43 = .ok (.iload_n 2, 1) := by decide +kernel
theorem dX12_follows_44 : decode cX12_follows 44 = .ok (.iload_n 3, 1) := by decide +kernel
theorem dX12_follows_45 : decode cX12_follows 45 = .ok (.invokevirtual 533, 3) := by decide +kernel
theorem dX12_follows_48 : decode cX12_follows 48 = .ok (.goto 51, 3) := by decide +kernel
theorem dX12_follows_51 : decode cX12_follows 51 = .ok (.aload_n 0, 1) := by decide +kernel
theorem dX12_follows_52 : decode cX12_follows 52 = .ok (.aload_n 0, 1) := by decide +kernel
theorem dX12_follows_53 : decode cX12_follows 53 = .ok (.getfield 117, 3) := by decide +kernel
theorem dX12_follows_56 : decode cX12_follows 56 = .ok (.bipush 6, 2) := by decide +kernel
theorem dX12_follows_58 : decode cX12_follows 58 = .ok (.iload_n 1, 1) := by decide +kernel
theorem dX12_follows_59 : decode cX12_follows 59 = .ok (.imul, 1) := by decide +kernel
theorem dX12_follows_60 : decode cX12_follows 60 = .ok (.iconst 3, 1) := by decide +kernel
theorem dX12_follows_61 : decode cX12_follows 61 = .ok (.iadd, 1) := by decide +kernel
theorem dX12_follows_62 : decode cX12_follows 62 = .ok (.iaload, 1) := by decide +kernel
theorem dX12_follows_63 : decode cX12_follows 63 = .ok (.aload_n 0, 1) := by decide +kernel
theorem dX12_follows_64 : decode cX12_follows 64 = .ok (.getfield 117, 3) := by decide +kernel
theorem dX12_follows_67 : decode cX12_follows 67 = .ok (.bipush 6, 2) := by decide +kernel
theorem dX12_follows_69 : decode cX12_follows 69 = .ok (.iload_n 1, 1) := by decide +kernel
theorem dX12_follows_70 : decode cX12_follows 70 = .ok (.imul, 1) := by decide +kernel
theorem dX12_follows_71 : decode cX12_follows 71 = .ok (.iconst 4, 1) := by decide +kernel
theorem dX12_follows_72 : decode cX12_follows 72 = .ok (.iadd, 1) := by decide +kernel
theorem dX12_follows_73 : decode cX12_follows 73 = .ok (.iaload, 1) := by decide +kernel
theorem dX12_follows_74 : decode cX12_follows 74 = .ok (.aload_n 0, 1) := by decide +kernel
theorem dX12_follows_75 : decode cX12_follows 75 = .ok (.getfield 117, 3) := by decide +kernel
theorem dX12_follows_78 : decode cX12_follows 78 = .ok (.bipush 6, 2) := by decide +kernel
theorem dX12_follows_80 : decode cX12_follows 80 = .ok (.iload_n 1, 1) := by decide +kernel
theorem dX12_follows_81 : decode cX12_follows 81 = .ok (.imul, 1) := by decide +kernel
theorem dX12_follows_82 : decode cX12_follows 82 = .ok (.iconst 5, 1) := by decide +kernel
theorem dX12_follows_83 : decode cX12_follows 83 = .ok (.iadd, 1) := by decide +kernel
theorem dX12_follows_84 : decode cX12_follows 84 = .ok (.iaload, 1) := by decide +kernel
theorem dX12_follows_85 : decode cX12_follows 85 = .ok (.invokevirtual 144, 3) := by decide +kernel
theorem dX12_follows_88 : decode cX12_follows 88 = .ok (.aload_n 0, 1) := by decide +kernel
theorem dX12_follows_89 : decode cX12_follows 89 = .ok (.iconst 1, 1) := by decide +kernel
theorem dX12_follows_90 : decode cX12_follows 90 = .ok (.iload_n 2, 1) := by decide +kernel
theorem dX12_follows_91 : decode cX12_follows 91 = .ok (.iload_n 3, 1) := by decide +kernel
theorem dX12_follows_92 : decode cX12_follows 92 = .ok (.invokevirtual 279, 3) := by decide +kernel
theorem dX12_follows_95 : decode cX12_follows 95 = .ok (.aload_n 0, 1) := by decide +kernel
theorem dX12_follows_96 : decode cX12_follows 96 = .ok (.invokevirtual 511, 3) := by decide +kernel
theorem dX12_follows_99 : decode cX12_follows 99 = .ok (.aload_n 0, 1) := by decide +kernel
theorem dX12_follows_100 : decode cX12_follows 100 = .ok (.aload_n 0, 1) := by decide +kernel
theorem dX12_follows_101 : decode cX12_follows 101 = .ok (.getfield 117, 3) := by decide +kernel
theorem dX12_follows_104 : decode cX12_follows 104 = .ok (.bipush 6, 2) := by decide +kernel
theorem dX12_follows_106 : decode cX12_follows 106 = .ok (.iload_n 1, 1) := by decide +kernel
theorem dX12_follows_107 : decode cX12_follows 107 = .ok (.imul, 1) := by decide +kernel
theorem dX12_follows_108 : decode cX12_follows 108 = .ok (.iaload, 1) := by decide +kernel
theorem dX12_follows_109 : decode cX12_follows 109 = .ok (.aload_n 0, 1) := by decide +kernel
theorem dX12_follows_110 : decode cX12_follows 110 = .ok (.getfield 117, 3) := by decide +kernel
theorem dX12_follows_113 : decode cX12_follows 113 = .ok (.bipush 6, 2) := by decide +kernel
theorem dX12_follows_115 : decode cX12_follows 115 = .ok (.iload_n 1, 1) := by decide +kernel
theorem dX12_follows_116 : decode cX12_follows 116 = .ok (.imul, 1) := by decide +kernel
theorem dX12_follows_117 : decode cX12_follows 117 = .ok (.iconst 1, 1) := by decide +kernel
theorem dX12_follows_118 : decode cX12_follows 118 = .ok (.iadd, 1) := by decide +kernel
theorem dX12_follows_119 : decode cX12_follows 119 = .ok (.iaload, 1) := by decide +kernel
theorem dX12_follows_120 : decode cX12_follows 120 = .ok (.aload_n 0, 1) := by decide +kernel
theorem dX12_follows_121 : decode cX12_follows 121 = .ok (.getfield 117, 3) := by decide +kernel
theorem dX12_follows_124 : decode cX12_follows 124 = .ok (.bipush 6, 2) := by decide +kernel
theorem dX12_follows_126 : decode cX12_follows 126 = .ok (.iload_n 1, 1) := by decide +kernel
theorem dX12_follows_127 : decode cX12_follows 127 = .ok (.imul, 1) := by decide +kernel
theorem dX12_follows_128 : decode cX12_follows 128 = .ok (.iconst 2, 1) := by decide +kernel
theorem dX12_follows_129 : decode cX12_follows 129 = .ok (.iadd, 1) := by decide +kernel
theorem dX12_follows_130 : decode cX12_follows 130 = .ok (.iaload, 1) := by decide +kernel
theorem dX12_follows_131 : decode cX12_follows 131 = .ok (.invokevirtual 144, 3) := by decide +kernel
theorem dX12_follows_134 : decode cX12_follows 134 = .ok (.aload_n 0, 1) := by decide +kernel
theorem dX12_follows_135 : decode cX12_follows 135 = .ok (.iconst 0, 1) := by decide +kernel
theorem dX12_follows_136 : decode cX12_follows 136 = .ok (.iload_n 2, 1) := by decide +kernel
theorem dX12_follows_137 : decode cX12_follows 137 = .ok (.iload_n 3, 1) := by decide +kernel
theorem dX12_follows_138 : decode cX12_follows 138 = .ok (.invokevirtual 279, 3) := by decide +kernel
theorem dX12_follows_141 : decode cX12_follows 141 = .ok (.aload_n 0, 1) := by decide +kernel
theorem dX12_follows_142 : decode cX12_follows 142 = .ok (.getfield 493, 3) := by decide +kernel
theorem dX12_follows_145 : decode cX12_follows 145 = .ok (.istore 5, 2) := by decide +kernel
theorem dX12_follows_147 : decode cX12_follows 147 = .ok (.aload_n 0, 1) := by decide +kernel
theorem dX12_follows_148 : decode cX12_follows 148 = .ok (.iload 4, 2) := by decide +kernel
theorem dX12_follows_150 : decode cX12_follows 150 = .ok (.invokevirtual 514, 3) := by decide +kernel
theorem dX12_follows_153 : decode cX12_follows 153 = .ok (.ifCond .ne 5, 3) := by decide +kernel
theorem dX12_follows_156 : decode cX12_follows 156 = .ok (.iconst 0, 1) := by decide +kernel
theorem dX12_follows_157 : decode cX12_follows 157 = .ok (.ireturn, 1) := by decide +kernel
theorem dX12_follows_158 : decode cX12_follows 158 = .ok (.aload_n 0, 1) := by decide +kernel
theorem dX12_follows_159 : decode cX12_follows 159 = .ok (.getfield 102, 3) := by decide +kernel
theorem dX12_follows_162 : decode cX12_follows 162 = .ok (.iload 5, 2) := by decide +kernel
theorem dX12_follows_164 : decode cX12_follows 164 = .ok (.iload_n 1, 1) := by decide +kernel
theorem dX12_follows_165 : decode cX12_follows 165 = .ok (.iastore, 1) := by decide +kernel
theorem dX12_follows_166 : decode cX12_follows 166 = .ok (.aload_n 0, 1) := by decide +kernel
theorem dX12_follows_167 : decode cX12_follows 167 = .ok (.getfield 105, 3) := by decide +kernel
theorem dX12_follows_170 : decode cX12_follows 170 = .ok (.iload 5, 2) := by decide +kernel
theorem dX12_follows_172 : decode cX12_follows 172 = .ok (.iload_n 2, 1) := by decide +kernel
theorem dX12_follows_173 : decode cX12_follows 173 = .ok (.iastore, 1) := by decide +kernel
theorem dX12_follows_174 : decode cX12_follows 174 = .ok (.aload_n 0, 1) := by decide +kernel
theorem dX12_follows_175 : decode cX12_follows 175 = .ok (.getfield 108, 3) := by decide +kernel
theorem dX12_follows_178 : decode cX12_follows 178 = .ok (.iload 5, 2) := by decide +kernel
theorem dX12_follows_180 : decode cX12_follows 180 = .ok (.iload_n 3, 1) := by decide +kernel
theorem dX12_follows_181 : decode cX12_follows 181 = .ok (.iastore, 1) := by decide +kernel
theorem dX12_follows_182 : decode cX12_follows 182 = .ok (.aload_n 0, 1) := by decide +kernel
theorem dX12_follows_183 : decode cX12_follows 183 = .ok (.getfield 111, 3) := by decide +kernel
theorem dX12_follows_186 : decode cX12_follows 186 = .ok (.iload 5, 2) := by decide +kernel
theorem dX12_follows_188 : decode cX12_follows 188 = .ok (.aload_n 0, 1) := by decide +kernel
theorem dX12_follows_189 : decode cX12_follows 189 = .ok (.getfield 111, 3) := by decide +kernel
theorem dX12_follows_192 : decode cX12_follows 192 = .ok (.iload_n 1, 1) := by decide +kernel
theorem dX12_follows_193 : decode cX12_follows 193 = .ok (.iaload, 1) := by decide +kernel
theorem dX12_follows_194 : decode cX12_follows 194 = .ok (.iconst 1, 1) := by decide +kernel
theorem dX12_follows_195 : decode cX12_follows 195 = .ok (.iadd, 1) := by decide +kernel
theorem dX12_follows_196 : decode cX12_follows 196 = .ok (.iastore, 1) := by decide +kernel
theorem dX12_follows_197 : decode cX12_follows 197 = .ok (.aload_n 0, 1) := by decide +kernel
theorem dX12_follows_198 : decode cX12_follows 198 = .ok (.getfield 114, 3) := by decide +kernel
theorem dX12_follows_201 : decode cX12_follows 201 = .ok (.iload 5, 2) := by decide +kernel
theorem dX12_follows_203 : decode cX12_follows 203 = .ok (.iload_n 3, 1) := by decide +kernel
theorem dX12_follows_204 : decode cX12_follows 204 = .ok (.aload_n 0, 1) := by decide +kernel
theorem dX12_follows_205 : decode cX12_follows 205 = .ok (.getfield 114, 3) := by decide +kernel
theorem dX12_follows_208 : decode cX12_follows 208 = .ok (.iload_n 1, 1) := by decide +kernel
theorem dX12_follows_209 : decode cX12_follows 209 = .ok (.iaload, 1) := by decide +kernel
theorem dX12_follows_210 : decode cX12_follows 210 = .ok (.if_icmp .ne 9, 3) := by decide +kernel
theorem dX12_follows_213 : decode cX12_follows 213 = .ok (.iload_n 3, 1) := by decide +kernel
theorem dX12_follows_214 : decode cX12_follows 214 = .ok (.iconst 1, 1) := by decide +kernel
theorem dX12_follows_215 : decode cX12_follows 215 = .ok (.iadd, 1) := by decide +kernel
theorem dX12_follows_216 : decode cX12_follows 216 = .ok (.goto 9, 3) := by decide +kernel
theorem dX12_follows_219 : decode cX12_follows 219 = .ok (.aload_n 0, 1) := by decide +kernel
theorem dX12_follows_220 : decode cX12_follows 220 = .ok (.getfield 114, 3) := by decide +kernel
theorem dX12_follows_223 : decode cX12_follows 223 = .ok (.iload_n 1, 1) := by decide +kernel
theorem dX12_follows_224 : decode cX12_follows 224 = .ok (.iaload, 1) := by decide +kernel
theorem dX12_follows_225 : decode cX12_follows 225 = .ok (.iastore, 1) := by decide +kernel
theorem dX12_follows_226 : decode cX12_follows 226 = .ok (.iconst 1, 1) := by decide +kernel
theorem dX12_follows_227 : decode cX12_follows 227 = .ok (.ireturn, 1) := by decide +kernel
theorem dX12_seeks_0 : decode cX12_seeks 0 = .ok (.iconst 0, 1) := by decide +kernel
theorem dX12_seeks_1 : decode cX12_seeks 1 = .ok (.istore_n 2, 1) := by decide +kernel
theorem dX12_seeks_2 : decode cX12_seeks 2 = .ok (.iload_n 2, 1) := by decide +kernel
theorem dX12_seeks_3 : decode cX12_seeks 3 = .ok (.ldc 123, 2) := by decide +kernel
theorem dX12_seeks_5 : decode cX12_seeks 5 = .ok (.if_icmp .ge 16, 3) := by decide +kernel
theorem dX12_seeks_8 : decode cX12_seeks 8 = .ok (.aload_n 0, 1) := by decide +kernel
theorem dX12_seeks_9 : decode cX12_seeks 9 = .ok (.getfield 124, 3) := by decide +kernel
theorem dX12_seeks_12 : decode cX12_seeks 12 = .ok (.iload_n 2, 1) := by decide +kernel
theorem dX12_seeks_13 : decode cX12_seeks 13 = .ok (.iconst 0, 1) := by decide +kernel
theorem dX12_seeks_14 : decode cX12_seeks 14 = .ok (.bastore, 1) := by decide +kernel
theorem dX12_seeks_15 : decode cX12_seeks 15 = .ok (.iinc 2 1, 3) := by decide +kernel
theorem dX12_seeks_18 : decode cX12_seeks 18 = .ok (.goto (-16), 3) := by decide +kernel
theorem dX12_seeks_21 : decode cX12_seeks 21 = .ok (.aload_n 0, 1) := by decide +kernel
theorem dX12_seeks_22 : decode cX12_seeks 22 = .ok (.iconst 0, 1) := by decide +kernel
theorem dX12_seeks_23 : decode cX12_seeks 23 = .ok (.putfield 493, 3) := by decide +kernel
theorem dX12_seeks_26 : decode cX12_seeks 26 = .ok (.aload_n 0, 1) := by decide +kernel
theorem dX12_seeks_27 : decode cX12_seeks 27 = .ok (.invokevirtual 276, 3) := by decide +kernel
theorem dX12_seeks_30 : decode cX12_seeks 30 = .ok (.aload_n 0, 1) := by decide +kernel
theorem dX12_seeks_31 : decode cX12_seeks 31 = .ok (.invokevirtual 511, 3) := by decide +kernel
theorem dX12_seeks_34 : decode cX12_seeks 34 = .ok (.aload_n 0, 1) := by decide +kernel
theorem dX12_seeks_35 : decode cX12_seeks 35 = .ok (.iconst 0, 1) := by decide +kernel
theorem dX12_seeks_36 : decode cX12_seeks 36 = .ok (.iconst (-1), 1) := by decide +kernel
theorem dX12_seeks_37 : decode cX12_seeks 37 = .ok (.iconst (-1), 1) := by decide +kernel
theorem dX12_seeks_38 : decode cX12_seeks 38 = .ok (.invokevirtual 486, 3) := by decide +kernel
theorem dX12_seeks_41 : decode cX12_seeks 41 = .ok (.aload_n 0, 1) := by decide +kernel
theorem dX12_seeks_42 : decode cX12_seeks 42 = .ok (.iload_n 1, 1) := by decide +kernel
theorem dX12_seeks_43 : decode cX12_seeks 43 = .ok (.invokevirtual 514, 3) := by decide +kernel
theorem dX12_seeks_46 : decode cX12_seeks 46 = .ok (.istore_n 2, 1) := by decide +kernel
theorem dX12_seeks_47 : decode cX12_seeks 47 = .ok (.aload_n 0, 1) := by decide +kernel
theorem dX12_seeks_48 : decode cX12_seeks 48 = .ok (.getfield 102, 3) := by decide +kernel
theorem dX12_seeks_51 : decode cX12_seeks 51 = .ok (.iconst 0, 1) := by decide +kernel
theorem dX12_seeks_52 : decode cX12_seeks 52 = .ok (.iconst (-1), 1) := by decide +kernel
theorem dX12_seeks_53 : decode cX12_seeks 53 = .ok (.iastore, 1) := by decide +kernel
theorem dX12_seeks_54 : decode cX12_seeks 54 = .ok (.aload_n 0, 1) := by decide +kernel
theorem dX12_seeks_55 : decode cX12_seeks 55 = .ok (.getfield 111, 3) := by decide +kernel
theorem dX12_seeks_58 : decode cX12_seeks 58 = .ok (.iconst 0, 1) := by decide +kernel
theorem dX12_seeks_59 : decode cX12_seeks 59 = .ok (.iconst 0, 1) := by decide +kernel
theorem dX12_seeks_60 : decode cX12_seeks 60 = .ok (.iastore, 1) := by decide +kernel
theorem dX12_seeks_61 : decode cX12_seeks 61 = .ok (.aload_n 0, 1) := by decide +kernel
theorem dX12_seeks_62 : decode cX12_seeks 62 = .ok (.getfield 114, 3) := by decide +kernel
theorem dX12_seeks_65 : decode cX12_seeks 65 = .ok (.iconst 0, 1) := by decide +kernel
theorem dX12_seeks_66 : decode cX12_seeks 66 = .ok (.iconst 0, 1) := by decide +kernel
theorem dX12_seeks_67 : decode cX12_seeks 67 = .ok (.iastore, 1) := by decide +kernel
theorem dX12_seeks_68 : decode cX12_seeks 68 = .ok (.aload_n 0, 1) := by decide +kernel
theorem dX12_seeks_69 : decode cX12_seeks 69 = .ok (.iconst 0, 1) := by decide +kernel
theorem dX12_seeks_70 : decode cX12_seeks 70 = .ok (.iload_n 1, 1) := by decide +kernel
theorem dX12_seeks_71 : decode cX12_seeks 71 = .ok (.invokevirtual 518, 3) := by decide +kernel
theorem dX12_seeks_74 : decode cX12_seeks 74 = .ok (.ifCond .eq 5, 3) := by decide +kernel
theorem dX12_seeks_77 : decode cX12_seeks 77 = .ok (.iconst 0, 1) := by decide +kernel
theorem dX12_seeks_78 : decode cX12_seeks 78 = .ok (.ireturn, 1) := by decide +kernel
theorem dX12_seeks_79 : decode cX12_seeks 79 = .ok (.iconst 0, 1) := by decide +kernel
theorem dX12_seeks_80 : decode cX12_seeks 80 = .ok (.istore_n 3, 1) := by decide +kernel
theorem dX12_seeks_81 : decode cX12_seeks 81 = .ok (.iload_n 3, 1) := by decide +kernel
theorem dX12_seeks_82 : decode cX12_seeks 82 = .ok (.aload_n 0, 1) := by decide +kernel
theorem dX12_seeks_83 : decode cX12_seeks 83 = .ok (.getfield 493, 3) := by decide +kernel
theorem dX12_seeks_86 : decode cX12_seeks 86 = .ok (.if_icmp .ge 156, 3) := by decide +kernel
theorem dX12_seeks_89 : decode cX12_seeks 89 = .ok (.aload_n 0, 1) := by decide +kernel
theorem dX12_seeks_90 : decode cX12_seeks 90 = .ok (.getfield 111, 3) := by decide +kernel
theorem dX12_seeks_93 : decode cX12_seeks 93 = .ok (.iload_n 3, 1) := by decide +kernel
theorem dX12_seeks_94 : decode cX12_seeks 94 = .ok (.iaload, 1) := by decide +kernel
theorem dX12_seeks_95 : decode cX12_seeks 95 = .ok (.bipush 20, 2) := by decide +kernel
theorem dX12_seeks_97 : decode cX12_seeks 97 = .ok (.if_icmp .ne 6, 3) := by decide +kernel
theorem dX12_seeks_100 : decode cX12_seeks 100 = .ok (.goto 136, 3) := by decide +kernel
theorem dX12_seeks_103 : decode cX12_seeks 103 = .ok (.iconst 0, 1) := by decide +kernel
theorem dX12_seeks_104 : decode cX12_seeks 104 = .ok (.istore 4, 2) := by decide +kernel
theorem dX12_seeks_106 : decode cX12_seeks 106 = .ok (.iload 4, 2) := by decide +kernel
theorem dX12_seeks_108 : decode cX12_seeks 108 = .ok (.aload_n 0, 1) := by decide +kernel
theorem dX12_seeks_109 : decode cX12_seeks 109 = .ok (.iload_n 1, 1) := by decide +kernel
theorem dX12_seeks_110 : decode cX12_seeks 110 = .ok (.invokevirtual 522, 3) := by decide +kernel
theorem dX12_seeks_113 : decode cX12_seeks 113 = .ok (.if_icmp .ge 123, 3) := by decide +kernel
theorem dX12_seeks_116 : decode cX12_seeks 116 = .ok (.iconst 0, 1) := by decide +kernel
theorem dX12_seeks_117 : decode cX12_seeks 117 = .ok (.istore 5, 2) := by decide +kernel
theorem dX12_seeks_119 : decode cX12_seeks 119 = .ok (.iload 5, 2) := by decide +kernel
theorem dX12_seeks_121 : decode cX12_seeks 121 = .ok (.iconst 5, 1) := by decide +kernel
theorem dX12_seeks_122 : decode cX12_seeks 122 = .ok (.if_icmp .ge 108, 3) := by decide +kernel
theorem dX12_seeks_125 : decode cX12_seeks 125 = .ok (.iload 5, 2) := by decide +kernel
theorem dX12_seeks_127 : decode cX12_seeks 127 = .ok (.iconst 4, 1) := by decide +kernel
theorem dX12_seeks_128 : decode cX12_seeks 128 = .ok (.if_icmp .ge 33, 3) := by decide +kernel
theorem dX12_seeks_131 : decode cX12_seeks 131 = .ok (.aload_n 0, 1) := by decide +kernel
theorem dX12_seeks_132 : decode cX12_seeks 132 = .ok (.getfield 117, 3) := by decide +kernel
theorem dX12_seeks_135 : decode cX12_seeks 135 = .ok (.bipush 6, 2) := by decide +kernel
theorem dX12_seeks_137 : decode cX12_seeks 137 = .ok (.iload_n 3, 1) := by decide +kernel
theorem dX12_seeks_138 : decode cX12_seeks 138 = .ok (.imul, 1) := by decide +kernel
theorem dX12_seeks_139 : decode cX12_seeks 139 = .ok (.iload 5, 2) := by decide +kernel
theorem dX12_seeks_141 : decode cX12_seeks 141 = .ok (.iconst 2, 1) := by decide +kernel
theorem dX12_seeks_142 : decode cX12_seeks 142 = .ok (.if_icmp .ge 10, 3) := by decide +kernel
theorem dX12_seeks_145 : decode cX12_seeks 145 = .ok (.iconst 1, 1) := by decide +kernel
theorem dX12_seeks_146 : decode cX12_seeks 146 = .ok (.iload 5, 2) := by decide +kernel
theorem dX12_seeks_148 : decode cX12_seeks 148 = .ok (.iadd, 1) := by decide +kernel
theorem dX12_seeks_149 : decode cX12_seeks 149 = .ok (.goto 7, 3) := by decide +kernel
theorem dX12_seeks_152 : decode cX12_seeks 152 = .ok (.iconst 2, 1) := by decide +kernel
theorem dX12_seeks_153 : decode cX12_seeks 153 = .ok (.iload 5, 2) := by decide +kernel
theorem dX12_seeks_155 : decode cX12_seeks 155 = .ok (.iadd, 1) := by decide +kernel
theorem dX12_seeks_156 : decode cX12_seeks 156 = .ok (.iadd, 1) := by decide +kernel
theorem dX12_seeks_157 : decode cX12_seeks 157 = .ok (.iaload, 1) := by decide +kernel
theorem dX12_seeks_158 : decode cX12_seeks 158 = .ok (.goto 9, 3) := by decide +kernel
theorem dX12_seeks_161 : decode cX12_seeks 161 = .ok (.aload_n 0, 1) := by decide +kernel
theorem dX12_seeks_162 : decode cX12_seeks 162 = .ok (.getfield 114, 3) := by decide +kernel
theorem dX12_seeks_165 : decode cX12_seeks 165 = .ok (.iload_n 3, 1) := by decide +kernel
theorem dX12_seeks_166 : decode cX12_seeks 166 = .ok (.iaload, 1) := by decide +kernel
theorem dX12_seeks_167 : decode cX12_seeks 167 = .ok (.istore 6, 2) := by decide +kernel
theorem dX12_seeks_169 : decode cX12_seeks 169 = .ok (.iload 6, 2) := by decide +kernel
theorem dX12_seeks_171 : decode cX12_seeks 171 = .ok (.iconst (-1), 1) := by decide +kernel
theorem dX12_seeks_172 : decode cX12_seeks 172 = .ok (.if_icmp .eq 52, 3) := by decide +kernel
theorem dX12_seeks_175 : decode cX12_seeks 175 = .ok (.aload_n 0, 1) := by decide +kernel
theorem dX12_seeks_176 : decode cX12_seeks 176 = .ok (.iload_n 3, 1) := by decide +kernel
theorem dX12_seeks_177 : decode cX12_seeks 177 = .ok (.iload 5, 2) := by decide +kernel
theorem dX12_seeks_179 : decode cX12_seeks 179 = .ok (.iload 6, 2) := by decide +kernel
theorem dX12_seeks_181 : decode cX12_seeks 181 = .ok (.invokevirtual 526, 3) := by decide +kernel
theorem dX12_seeks_184 : decode cX12_seeks 184 = .ok (.ifCond .ne 40, 3) := by decide +kernel
theorem dX12_seeks_187 : decode cX12_seeks 187 = .ok (.aload_n 0, 1) := by decide +kernel
theorem dX12_seeks_188 : decode cX12_seeks 188 = .ok (.iload_n 3, 1) := by decide +kernel
theorem dX12_seeks_189 : decode cX12_seeks 189 = .ok (.iload 4, 2) := by decide +kernel
theorem dX12_seeks_191 : decode cX12_seeks 191 = .ok (.iload 6, 2) := by decide +kernel
theorem dX12_seeks_193 : decode cX12_seeks 193 = .ok (.iload_n 1, 1) := by decide +kernel
theorem dX12_seeks_194 : decode cX12_seeks 194 = .ok (.invokevirtual 529, 3) := by decide +kernel
theorem dX12_seeks_197 : decode cX12_seeks 197 = .ok (.ifCond .ne 6, 3) := by decide +kernel
theorem dX12_seeks_200 : decode cX12_seeks 200 = .ok (.goto 24, 3) := by decide +kernel
theorem dX12_seeks_203 : decode cX12_seeks 203 = .ok (.aload_n 0, 1) := by decide +kernel
theorem dX12_seeks_204 : decode cX12_seeks 204 = .ok (.aload_n 0, 1) := by decide +kernel
theorem dX12_seeks_205 : decode cX12_seeks 205 = .ok (.getfield 493, 3) := by decide +kernel
theorem dX12_seeks_208 : decode cX12_seeks 208 = .ok (.iconst 1, 1) := by decide +kernel
theorem dX12_seeks_209 : decode cX12_seeks 209 = .ok (.isub, 1) := by decide +kernel
theorem dX12_seeks_210 : decode cX12_seeks 210 = .ok (.iload_n 1, 1) := by decide +kernel
theorem dX12_seeks_211 : decode cX12_seeks 211 = .ok (.invokevirtual 518, 3) := by decide +kernel
theorem dX12_seeks_214 : decode cX12_seeks 214 = .ok (.ifCond .eq 10, 3) := by decide +kernel
theorem dX12_seeks_217 : decode cX12_seeks 217 = .ok (.aload_n 0, 1) := by decide +kernel
theorem dX12_seeks_218 : decode cX12_seeks 218 = .ok (.getfield 493, 3) := by decide +kernel
theorem dX12_seeks_221 : decode cX12_seeks 221 = .ok (.iconst 1, 1) := by decide +kernel
theorem dX12_seeks_222 : decode cX12_seeks 222 = .ok (.isub, 1) := by decide +kernel
theorem dX12_seeks_223 : decode cX12_seeks 223 = .ok (.ireturn, 1) := by decide +kernel
theorem dX12_seeks_224 : decode cX12_seeks 224 = .ok (.iinc 5 1, 3) := by decide +kernel
theorem dX12_seeks_227 : decode cX12_seeks 227 = .ok (.goto (-108), 3) := by decide +kernel
theorem dX12_seeks_230 : decode cX12_seeks 230 = .ok (.iinc 4 1, 3) := by decide +kernel
theorem dX12_seeks_233 : decode cX12_seeks 233 = .ok (.goto (-127), 3) := by decide +kernel
theorem dX12_seeks_236 : decode cX12_seeks 236 = .ok (.iinc 3 1, 3) := by decide +kernel
theorem dX12_seeks_239 : decode cX12_seeks 239 = .ok (.goto (-158), 3) := by decide +kernel
theorem dX12_seeks_242 : decode cX12_seeks 242 = .ok (.iconst (-1), 1) := by decide +kernel
theorem dX12_seeks_243 : decode cX12_seeks 243 = .ok (.ireturn, 1) := by decide +kernel
theorem dX12_findsWrong_0 : decode cX12_findsWrong 0 = .ok (.aload_n 0, 1) := by decide +kernel
theorem dX12_findsWrong_1 : decode cX12_findsWrong 1 = .ok (.iconst 0, 1) := by decide +kernel
theorem dX12_findsWrong_2 : decode cX12_findsWrong 2 = .ok (.iconst (-1), 1) := by decide +kernel
theorem dX12_findsWrong_3 : decode cX12_findsWrong 3 = .ok (.iconst (-1), 1) := by decide +kernel
theorem dX12_findsWrong_4 : decode cX12_findsWrong 4 = .ok (.invokevirtual 486, 3) := by decide +kernel
theorem dX12_findsWrong_7 : decode cX12_findsWrong 7 = .ok (.aload_n 0, 1) := by decide +kernel
theorem dX12_findsWrong_8 : decode cX12_findsWrong 8 = .ok (.iconst 1, 1) := by decide +kernel
theorem dX12_findsWrong_9 : decode cX12_findsWrong 9 = .ok (.invokevirtual 536, 3) := by decide +kernel
theorem dX12_findsWrong_12 : decode cX12_findsWrong 12 = .ok (.istore_n 1, 1) := by decide +kernel
theorem dX12_findsWrong_13 : decode cX12_findsWrong 13 = .ok (.iload_n 1, 1) := by decide +kernel
theorem dX12_findsWrong_14 : decode cX12_findsWrong 14 = .ok (.iconst (-1), 1) := by decide +kernel
theorem dX12_findsWrong_15 : decode cX12_findsWrong 15 = .ok (.if_icmp .ne 4, 3) := by decide +kernel
theorem dX12_findsWrong_18 : decode cX12_findsWrong 18 = .ok (.return_, 1) := by decide +kernel
theorem dX12_findsWrong_19 : decode cX12_findsWrong 19 = .ok (.aload_n 0, 1) := by decide +kernel
theorem dX12_findsWrong_20 : decode cX12_findsWrong 20 = .ok (.aload_n 0, 1) := by decide +kernel
theorem dX12_findsWrong_21 : decode cX12_findsWrong 21 = .ok (.getfield 111, 3) := by decide +kernel
theorem dX12_findsWrong_24 : decode cX12_findsWrong 24 = .ok (.iload_n 1, 1) := by decide +kernel
theorem dX12_findsWrong_25 : decode cX12_findsWrong 25 = .ok (.iaload, 1) := by decide +kernel
theorem dX12_findsWrong_26 : decode cX12_findsWrong 26 = .ok (.putfield 434, 3) := by decide +kernel
theorem dX12_findsWrong_29 : decode cX12_findsWrong 29 = .ok (.aload_n 0, 1) := by decide +kernel
theorem dX12_findsWrong_30 : decode cX12_findsWrong 30 = .ok (.getfield 434, 3) := by decide +kernel
theorem dX12_findsWrong_33 : decode cX12_findsWrong 33 = .ok (.iconst 1, 1) := by decide +kernel
theorem dX12_findsWrong_34 : decode cX12_findsWrong 34 = .ok (.isub, 1) := by decide +kernel
theorem dX12_findsWrong_35 : decode cX12_findsWrong 35 = .ok (.istore_n 2, 1) := by decide +kernel
theorem dX12_findsWrong_36 : decode cX12_findsWrong 36 = .ok (.iload_n 2, 1) := by decide +kernel
theorem dX12_findsWrong_37 : decode cX12_findsWrong 37 = .ok (.ifCond .lt 40, 3) := by decide +kernel
theorem dX12_findsWrong_40 : decode cX12_findsWrong 40 = .ok (.aload_n 0, 1) := by decide +kernel
theorem dX12_findsWrong_41 : decode cX12_findsWrong 41 = .ok (.getfield 96, 3) := by decide +kernel
theorem dX12_findsWrong_44 : decode cX12_findsWrong 44 = .ok (.iload_n 2, 1) := by decide +kernel
theorem dX12_findsWrong_45 : decode cX12_findsWrong 45 = .ok (.aload_n 0, 1) := by decide +kernel
theorem dX12_findsWrong_46 : decode cX12_findsWrong 46 = .ok (.getfield 105, 3) := by decide +kernel
theorem dX12_findsWrong_49 : decode cX12_findsWrong 49 = .ok (.iload_n 1, 1) := by decide +kernel
theorem dX12_findsWrong_50 : decode cX12_findsWrong 50 = .ok (.iaload, 1) := by decide +kernel
theorem dX12_findsWrong_51 : decode cX12_findsWrong 51 = .ok (.iastore, 1) := by decide +kernel
theorem dX12_findsWrong_52 : decode cX12_findsWrong 52 = .ok (.aload_n 0, 1) := by decide +kernel
theorem dX12_findsWrong_53 : decode cX12_findsWrong 53 = .ok (.getfield 99, 3) := by decide +kernel
theorem dX12_findsWrong_56 : decode cX12_findsWrong 56 = .ok (.iload_n 2, 1) := by decide +kernel
theorem dX12_findsWrong_57 : decode cX12_findsWrong 57 = .ok (.aload_n 0, 1) := by decide +kernel
theorem dX12_findsWrong_58 : decode cX12_findsWrong 58 = .ok (.getfield 108, 3) := by decide +kernel
theorem dX12_findsWrong_61 : decode cX12_findsWrong 61 = .ok (.iload_n 1, 1) := by decide +kernel
theorem dX12_findsWrong_62 : decode cX12_findsWrong 62 = .ok (.iaload, 1) := by decide +kernel
theorem dX12_findsWrong_63 : decode cX12_findsWrong 63 = .ok (.iastore, 1) := by decide +kernel
theorem dX12_findsWrong_64 : decode cX12_findsWrong 64 = .ok (.aload_n 0, 1) := by decide +kernel
theorem dX12_findsWrong_65 : decode cX12_findsWrong 65 = .ok (.getfield 102, 3) := by decide +kernel
theorem dX12_findsWrong_68 : decode cX12_findsWrong 68 = .ok (.iload_n 1, 1) := by decide +kernel
theorem dX12_findsWrong_69 : decode cX12_findsWrong 69 = .ok (.iaload, 1) := by decide +kernel
theorem dX12_findsWrong_70 : decode cX12_findsWrong 70 = .ok (.istore_n 1, 1) := by decide +kernel
theorem dX12_findsWrong_71 : decode cX12_findsWrong 71 = .ok (.iinc 2 (-1), 3) := by decide +kernel
theorem dX12_findsWrong_74 : decode cX12_findsWrong 74 = .ok (.goto (-38), 3) := by decide +kernel
theorem dX12_findsWrong_77 : decode cX12_findsWrong 77 = .ok (.return_, 1) := by decide +kernel
def f_X12_asks_120 (self : Int32 → Int32 → Int32 → Int32 → Dm → Option Dm) (k44 : Int32 → Int32 → Int32 → Int32 → Int32 → Dm → Option Dm) (x1 : Int32) (x2 : Int32) (x3 : Int32) (x4 : Int32) (x5 : Int32) (D : Dm) : Option Dm := lt (x5 + 1) fun y1 => k44 x1 x2 x3 x4 y1 D
def f_X12_asks_85 (self : Int32 → Int32 → Int32 → Int32 → Dm → Option Dm) (k44 : Int32 → Int32 → Int32 → Int32 → Int32 → Dm → Option Dm) (k57 : Int32 → Int32 → Int32 → Int32 → Int32 → Int32 → Int32 → Dm → Option Dm) (x1 : Int32) (x2 : Int32) (x3 : Int32) (x4 : Int32) (x5 : Int32) (x7 : Int32) (xs0 : Int32) (D : Dm) : Option Dm := lt (x7 + 1) fun y1 => k57 x1 x2 x3 x4 x5 xs0 y1 D
def f_X12_asks_80 (self : Int32 → Int32 → Int32 → Int32 → Dm → Option Dm) (k44 : Int32 → Int32 → Int32 → Int32 → Int32 → Dm → Option Dm) (k57 : Int32 → Int32 → Int32 → Int32 → Int32 → Int32 → Int32 → Dm → Option Dm) (x1 : Int32) (x2 : Int32) (x3 : Int32) (x4 : Int32) (x5 : Int32) (x7 : Int32) (D : Dm) : Option Dm := f_X12_asks_85 self k44 k57 x1 x2 x3 x4 x5 x7 1 D
def f_X12_asks_57_b (self : Int32 → Int32 → Int32 → Int32 → Dm → Option Dm) (k44 : Int32 → Int32 → Int32 → Int32 → Int32 → Dm → Option Dm) (k57 : Int32 → Int32 → Int32 → Int32 → Int32 → Int32 → Int32 → Dm → Option Dm) (x1 : Int32) (x2 : Int32) (x3 : Int32) (x4 : Int32) (x5 : Int32) (x6 : Int32) (x7 : Int32) (D : Dm) : Option Dm := if x2 ≤ x7 then (if x6 = 0 then (gd (inB x2 3) (lt (ud D 301 (Int32.toNatClampNeg x2) x5) fun D4 => bV (self x1 (x2 + 1) x3 x4 D4) fun D6 => f_X12_asks_120 self k44 x1 x2 x3 x4 x5 D6)) else (f_X12_asks_120 self k44 x1 x2 x3 x4 x5 D)) else (if x6 = 0 then (gd (inB x7 3) (if (D 301 (Int32.toNatClampNeg x7)) = x5 then (f_X12_asks_80 self k44 k57 x1 x2 x3 x4 x5 x7 D) else (f_X12_asks_85 self k44 k57 x1 x2 x3 x4 x5 x7 0 D))) else (f_X12_asks_80 self k44 k57 x1 x2 x3 x4 x5 x7 D))
def f_X12_asks_57 (self : Int32 → Int32 → Int32 → Int32 → Dm → Option Dm) (k44 : Int32 → Int32 → Int32 → Int32 → Int32 → Dm → Option Dm) : Nat → Int32 → Int32 → Int32 → Int32 → Int32 → Int32 → Int32 → Dm → Option Dm
  | 0, _, _, _, _, _, _, _, _ => none
  | n + 1, x1, x2, x3, x4, x5, x6, x7, D => f_X12_asks_57_b self k44 (f_X12_asks_57 self k44 n) x1 x2 x3 x4 x5 x6 x7 D
def f_X12_asks_44_b (self : Int32 → Int32 → Int32 → Int32 → Dm → Option Dm) (k44 : Int32 → Int32 → Int32 → Int32 → Int32 → Dm → Option Dm) (x1 : Int32) (x2 : Int32) (x3 : Int32) (x4 : Int32) (x5 : Int32) (D : Dm) : Option Dm := if x4 ≤ x5 then (some D) else (f_X12_asks_57 self k44 FU x1 x2 x3 x4 x5 0 0 D)
def f_X12_asks_44 (self : Int32 → Int32 → Int32 → Int32 → Dm → Option Dm) : Nat → Int32 → Int32 → Int32 → Int32 → Int32 → Dm → Option Dm
  | 0, _, _, _, _, _, _ => none
  | n + 1, x1, x2, x3, x4, x5, D => f_X12_asks_44_b self (f_X12_asks_44 self n) x1 x2 x3 x4 x5 D
def f_X12_asks_e (self : Int32 → Int32 → Int32 → Int32 → Dm → Option Dm) (x1 : Int32) (x2 : Int32) (x3 : Int32) (x4 : Int32) (D : Dm) : Option Dm := if (D 281 45) = 0 then (if x2 = x3 then (bV (f_X12_looksAt x1 x3 D) fun D8 => some D8) else (gd (inB x2 3) (lt (ud D 301 (Int32.toNatClampNeg x2) (100 + x2)) fun D4 => bV (self x1 (x2 + 1) x3 x4 D4) fun D6 => f_X12_asks_44 self FU x1 x2 x3 x4 0 D6))) else (some D)
def f_X12_asks : Nat → Int32 → Int32 → Int32 → Int32 → Dm → Option Dm
  | 0, _, _, _, _, _ => none
  | n + 1, x1, x2, x3, x4, D => f_X12_asks_e (f_X12_asks n) x1 x2 x3 x4 D
def f_X12_remembers_46_b (k46 : Int32 → Int32 → Dm → Option (Int32 × Dm)) (x3 : Int32) (x4 : Int32) (D : Dm) : Option (Int32 × Dm) := if (D 281 28) ≤ x4 then (some ((D 281 42), D)) else (bI (f_X12_ownOf x4 D) fun y4 D2 => bV (f_X12_asks RF x4 0 y4 x3 D2) fun D5 => lt (x4 + 1) fun y7 => k46 x3 y7 D5)
def f_X12_remembers_46 : Nat → Int32 → Int32 → Dm → Option (Int32 × Dm)
  | 0, _, _, _ => none
  | n + 1, x3, x4, D => f_X12_remembers_46_b (f_X12_remembers_46 n) x3 x4 D
def f_X12_remembers (x1 : Int32) (x2 : Int32) (D : Dm) : Option (Int32 × Dm) := lt (ud D 281 42 x1) fun D1 => lt (ud D1 281 43 (-1)) fun D3 => lt (ud D3 281 45 0) fun D5 => if x2 = (D5 281 28) then (some (x1, D5)) else (bI (f_X12_namesOf 300 40 0 (D5 281 36) D5) fun y10 D8 => bV (f_X12_keepsOne D8) fun D11 => f_X12_remembers_46 FU y10 x2 D11)
def f_X12_shows_35_b (k35 : Int32 → Int32 → Dm → Option Dm) (x2 : Int32) (x3 : Int32) (D : Dm) : Option Dm := if (D 281 28) ≤ x3 then (some D) else (if (D 281 45) = 0 then (bI (f_X12_ownOf x3 D) fun y5 D3 => bV (f_X12_asks RF x3 0 y5 x2 D3) fun D6 => lt (x3 + 1) fun y8 => k35 x2 y8 D6) else (some D))
def f_X12_shows_35 : Nat → Int32 → Int32 → Dm → Option Dm
  | 0, _, _, _ => none
  | n + 1, x2, x3, D => f_X12_shows_35_b (f_X12_shows_35 n) x2 x3 D
def f_X12_shows (x1 : Int32) (D : Dm) : Option Dm := lt (ud D 281 42 0) fun D1 => lt (ud D1 281 43 x1) fun D3 => lt (ud D3 281 45 0) fun D5 => bI (f_X12_namesOf 300 40 0 (D5 281 36) D5) fun y9 D7 => bV (f_X12_keepsOne D7) fun D10 => f_X12_shows_35 FU y9 0 D10
def f_X12_hasShort_50 (x1 : Int32) (D : Dm) : Option (Int32 × Dm) := gd (inB x1 10) (some ((D 295 (Int32.toNatClampNeg x1)), D))
def f_X12_hasShort (x1 : Int32) (D : Dm) : Option (Int32 × Dm) := gd (inB x1 10) (if (D 281 28) ≤ (D 296 (Int32.toNatClampNeg x1)) then (f_X12_hasShort_50 x1 D) else (bV (f_X12_takesShort x1 D) fun D3 => gd (inB x1 10) (gd (inB x1 10) (bI (f_X12_remembers (D3 295 (Int32.toNatClampNeg x1)) (D3 296 (Int32.toNatClampNeg x1)) D3) fun y9 D7 => gd (inB x1 10) (lt (ud D7 295 (Int32.toNatClampNeg x1) y9) fun D11 => gd (inB x1 10) (lt (ud D11 296 (Int32.toNatClampNeg x1) (D11 281 28)) fun D14 => f_X12_hasShort_50 x1 D14))))))
def f_X12_longAt (x0 : Int32) (x1 : Int32) (x2 : Int32) (D : Dm) : Option (Int32 × Dm) := some ((((8 * x0) + (4 * x1)) + x2), D)
def f_X12_hasLong_65 (x4 : Int32) (D : Dm) : Option (Int32 × Dm) := gd (inB x4 80) (some ((D 297 (Int32.toNatClampNeg x4)), D))
def f_X12_hasLong (x1 : Int32) (x2 : Int32) (x3 : Int32) (D : Dm) : Option (Int32 × Dm) := bI (f_X12_longAt x1 x2 x3 D) fun y3 D1 => gd (inB y3 80) (if (D1 281 28) ≤ (D1 298 (Int32.toNatClampNeg y3)) then (f_X12_hasLong_65 y3 D1) else (bV (f_X12_takesLong x1 x2 x3 D1) fun D6 => gd (inB y3 80) (gd (inB y3 80) (bI (f_X12_remembers (D6 297 (Int32.toNatClampNeg y3)) (D6 298 (Int32.toNatClampNeg y3)) D6) fun y12 D10 => gd (inB y3 80) (lt (ud D10 297 (Int32.toNatClampNeg y3) y12) fun D14 => gd (inB y3 80) (lt (ud D14 298 (Int32.toNatClampNeg y3) (D14 281 28)) fun D17 => f_X12_hasLong_65 y3 D17))))))
def f_X12_bits (x0 : Int32) (D : Dm) : Option (Int32 × Dm) := bI (f_J6_bitCount_0f7a4 x0 D) fun y3 D1 => some (y3, D1)
def f_X12_nameAt_31 (k4 : Int32 → Int32 → Int32 → Int32 → Dm → Option (Int32 × Dm)) (x0 : Int32) (x1 : Int32) (x2 : Int32) (x3 : Int32) (D : Dm) : Option (Int32 × Dm) := lt (x3 + 1) fun y1 => k4 x0 x1 x2 y1 D
def f_X12_nameAt_4_b (k4 : Int32 → Int32 → Int32 → Int32 → Dm → Option (Int32 × Dm)) (x0 : Int32) (x1 : Int32) (x2 : Int32) (x3 : Int32) (D : Dm) : Option (Int32 × Dm) := if 31 ≤ x3 then (some ((-1), D)) else (if ((x0 >>> (x3 &&& 31)) &&& 1) = 0 then (f_X12_nameAt_31 k4 x0 x1 x2 x3 D) else (if x2 = x1 then (some (x3, D)) else (lt (x2 + 1) fun y4 => f_X12_nameAt_31 k4 x0 x1 y4 x3 D)))
def f_X12_nameAt_4 : Nat → Int32 → Int32 → Int32 → Int32 → Dm → Option (Int32 × Dm)
  | 0, _, _, _, _, _ => none
  | n + 1, x0, x1, x2, x3, D => f_X12_nameAt_4_b (f_X12_nameAt_4 n) x0 x1 x2 x3 D
def f_X12_nameAt (x0 : Int32) (x1 : Int32) (D : Dm) : Option (Int32 × Dm) := f_X12_nameAt_4 FU x0 x1 0 0 D
def f_X12_setBy_35 (xs0 : Int32) (xs1 : Int32) (D : Dm) : Option (Int32 × Dm) := bI (f_X12_nameAt xs1 xs0 D) fun y3 D1 => some (y3, D1)
def f_X12_setBy_2_b (k2 : Int32 → Int32 → Int32 → Dm → Option (Int32 × Dm)) (x1 : Int32) (x2 : Int32) (x3 : Int32) (D : Dm) : Option (Int32 × Dm) := bI (f_X12_nameAt (D 281 47) x3 D) fun y3 D1 => if y3 = x1 then (if x2 = 0 then (f_X12_setBy_35 x3 (D1 281 48) D1) else (f_X12_setBy_35 (1 - x3) (D1 281 48) D1)) else (lt (x3 + 1) fun y6 => k2 x1 x2 y6 D1)
def f_X12_setBy_2 : Nat → Int32 → Int32 → Int32 → Dm → Option (Int32 × Dm)
  | 0, _, _, _, _ => none
  | n + 1, x1, x2, x3, D => f_X12_setBy_2_b (f_X12_setBy_2 n) x1 x2 x3 D
def f_X12_setBy (x1 : Int32) (x2 : Int32) (D : Dm) : Option (Int32 × Dm) := f_X12_setBy_2 FU x1 x2 0 D
def f_X12_areAlike_189 (self : Int32 → Int32 → Int32 → Int32 → Dm → Option (Int32 × Dm)) (k76 : Int32 → Int32 → Int32 → Int32 → Int32 → Int32 → Dm → Option (Int32 × Dm)) (x1 : Int32) (x2 : Int32) (x3 : Int32) (x4 : Int32) (x5 : Int32) (x6 : Int32) (D : Dm) : Option (Int32 × Dm) := lt (x6 + 1) fun y1 => k76 x1 x2 x3 x4 x5 y1 D
def f_X12_areAlike_138 (self : Int32 → Int32 → Int32 → Int32 → Dm → Option (Int32 × Dm)) (k76 : Int32 → Int32 → Int32 → Int32 → Int32 → Int32 → Dm → Option (Int32 × Dm)) (k110 : Int32 → Int32 → Int32 → Int32 → Int32 → Int32 → Int32 → Int32 → Int32 → Dm → Option (Int32 × Dm)) (x1 : Int32) (x2 : Int32) (x3 : Int32) (x4 : Int32) (x5 : Int32) (x6 : Int32) (x7 : Int32) (x9 : Int32) (xs0 : Int32) (D : Dm) : Option (Int32 × Dm) := lt (x9 + 1) fun y1 => k110 x1 x2 x3 x4 x5 x6 x7 xs0 y1 D
def f_X12_areAlike_133 (self : Int32 → Int32 → Int32 → Int32 → Dm → Option (Int32 × Dm)) (k76 : Int32 → Int32 → Int32 → Int32 → Int32 → Int32 → Dm → Option (Int32 × Dm)) (k110 : Int32 → Int32 → Int32 → Int32 → Int32 → Int32 → Int32 → Int32 → Int32 → Dm → Option (Int32 × Dm)) (x1 : Int32) (x2 : Int32) (x3 : Int32) (x4 : Int32) (x5 : Int32) (x6 : Int32) (x7 : Int32) (x9 : Int32) (D : Dm) : Option (Int32 × Dm) := f_X12_areAlike_138 self k76 k110 x1 x2 x3 x4 x5 x6 x7 x9 1 D
def f_X12_areAlike_110_b (self : Int32 → Int32 → Int32 → Int32 → Dm → Option (Int32 × Dm)) (k76 : Int32 → Int32 → Int32 → Int32 → Int32 → Int32 → Dm → Option (Int32 × Dm)) (k110 : Int32 → Int32 → Int32 → Int32 → Int32 → Int32 → Int32 → Int32 → Int32 → Dm → Option (Int32 × Dm)) (x1 : Int32) (x2 : Int32) (x3 : Int32) (x4 : Int32) (x5 : Int32) (x6 : Int32) (x7 : Int32) (x8 : Int32) (x9 : Int32) (D : Dm) : Option (Int32 × Dm) := if x2 ≤ x9 then (if x8 = 0 then (gd (inB x2 3) (lt (ud D 301 (Int32.toNatClampNeg x2) x7) fun D4 => bI (f_X12_setBy x7 x4 D4) fun y8 D6 => gd (inB x2 3) (lt (ud D6 302 (Int32.toNatClampNeg x2) y8) fun D10 => bI (self x1 (x2 + 1) x3 x4 D10) fun y14 D12 => f_X12_areAlike_189 self k76 x1 x2 x3 x4 y14 x6 D12))) else (f_X12_areAlike_189 self k76 x1 x2 x3 x4 x5 x6 D)) else (if x8 = 0 then (gd (inB x9 3) (if (D 301 (Int32.toNatClampNeg x9)) = x7 then (f_X12_areAlike_133 self k76 k110 x1 x2 x3 x4 x5 x6 x7 x9 D) else (f_X12_areAlike_138 self k76 k110 x1 x2 x3 x4 x5 x6 x7 x9 0 D))) else (f_X12_areAlike_133 self k76 k110 x1 x2 x3 x4 x5 x6 x7 x9 D))
def f_X12_areAlike_110 (self : Int32 → Int32 → Int32 → Int32 → Dm → Option (Int32 × Dm)) (k76 : Int32 → Int32 → Int32 → Int32 → Int32 → Int32 → Dm → Option (Int32 × Dm)) : Nat → Int32 → Int32 → Int32 → Int32 → Int32 → Int32 → Int32 → Int32 → Int32 → Dm → Option (Int32 × Dm)
  | 0, _, _, _, _, _, _, _, _, _, _ => none
  | n + 1, x1, x2, x3, x4, x5, x6, x7, x8, x9, D => f_X12_areAlike_110_b self k76 (f_X12_areAlike_110 self k76 n) x1 x2 x3 x4 x5 x6 x7 x8 x9 D
def f_X12_areAlike_76_b (self : Int32 → Int32 → Int32 → Int32 → Dm → Option (Int32 × Dm)) (k76 : Int32 → Int32 → Int32 → Int32 → Int32 → Int32 → Dm → Option (Int32 × Dm)) (x1 : Int32) (x2 : Int32) (x3 : Int32) (x4 : Int32) (x5 : Int32) (x6 : Int32) (D : Dm) : Option (Int32 × Dm) := bI (f_X12_bits (D 281 47) D) fun y3 D1 => if y3 ≤ x6 then (gd (zbB x5) (some (x5, D1))) else (if x5 = 0 then (gd (zbB x5) (some (x5, D1))) else (bI (f_X12_nameAt (D1 281 47) x6 D1) fun y10 D8 => f_X12_areAlike_110 self k76 FU x1 x2 x3 x4 x5 x6 y10 0 0 D8))
def f_X12_areAlike_76 (self : Int32 → Int32 → Int32 → Int32 → Dm → Option (Int32 × Dm)) : Nat → Int32 → Int32 → Int32 → Int32 → Int32 → Int32 → Dm → Option (Int32 × Dm)
  | 0, _, _, _, _, _, _, _ => none
  | n + 1, x1, x2, x3, x4, x5, x6, D => f_X12_areAlike_76_b self (f_X12_areAlike_76 self n) x1 x2 x3 x4 x5 x6 D
def f_X12_areAlike_e (self : Int32 → Int32 → Int32 → Int32 → Dm → Option (Int32 × Dm)) (x1 : Int32) (x2 : Int32) (x3 : Int32) (x4 : Int32) (D : Dm) : Option (Int32 × Dm) := if x2 = x3 then (bI (f_X12_answersOne x1 D) fun y13 D11 => bI (f_X12_answers x1 (D11 281 49) (D11 281 50) (D11 281 51) 302 3 D11) fun y16 D14 => if y13 = y16 then (some (1, D14)) else (some (0, D14))) else (gd (inB x2 3) (lt (ud D 301 (Int32.toNatClampNeg x2) (100 + x2)) fun D3 => gd (inB x2 3) (lt (ud D3 302 (Int32.toNatClampNeg x2) (100 + x2)) fun D6 => bI (self x1 (x2 + 1) x3 x4 D6) fun y10 D8 => f_X12_areAlike_76 self FU x1 x2 x3 x4 y10 0 D8)))
def f_X12_areAlike : Nat → Int32 → Int32 → Int32 → Int32 → Dm → Option (Int32 × Dm)
  | 0, _, _, _, _, _ => none
  | n + 1, x1, x2, x3, x4, D => f_X12_areAlike_e (f_X12_areAlike n) x1 x2 x3 x4 D
def f_X12_hasOf_76_b (k76 : Int32 → Int32 → Int32 → Dm → Option (Int32 × Dm)) (x2 : Int32) (x3 : Int32) (x4 : Int32) (D : Dm) : Option (Int32 × Dm) := if x2 ≤ x4 then (some (x3, D)) else (gd (inB x4 40) (gd (inB x4 40) (lt (ud D 299 (Int32.toNatClampNeg x4) (D 304 (Int32.toNatClampNeg x4))) fun D4 => gd (inB x4 40) (gd (inB x4 40) (lt (ud D4 300 (Int32.toNatClampNeg x4) (D4 305 (Int32.toNatClampNeg x4))) fun D8 => lt (x4 + 1) fun y10 => k76 x2 x3 y10 D8)))))
def f_X12_hasOf_76 : Nat → Int32 → Int32 → Int32 → Dm → Option (Int32 × Dm)
  | 0, _, _, _, _ => none
  | n + 1, x2, x3, x4, D => f_X12_hasOf_76_b (f_X12_hasOf_76 n) x2 x3 x4 D
def f_X12_hasOf_27_b (k27 : Int32 → Int32 → Int32 → Dm → Option (Int32 × Dm)) (x1 : Int32) (x2 : Int32) (x3 : Int32) (D : Dm) : Option (Int32 × Dm) := if x2 ≤ x3 then (bI (f_X12_hasShort x1 D) fun y4 D2 => lt (ud D2 281 36 x2) fun D5 => f_X12_hasOf_76 FU x2 y4 0 D5) else (gd (inB x3 40) (gd (inB x3 40) (lt (ud D 304 (Int32.toNatClampNeg x3) (D 299 (Int32.toNatClampNeg x3))) fun D9 => gd (inB x3 40) (gd (inB x3 40) (lt (ud D9 305 (Int32.toNatClampNeg x3) (D9 300 (Int32.toNatClampNeg x3))) fun D13 => lt (x3 + 1) fun y15 => k27 x1 x2 y15 D13)))))
def f_X12_hasOf_27 : Nat → Int32 → Int32 → Int32 → Dm → Option (Int32 × Dm)
  | 0, _, _, _, _ => none
  | n + 1, x1, x2, x3, D => f_X12_hasOf_27_b (f_X12_hasOf_27 n) x1 x2 x3 D
def f_X12_hasOf (x1 : Int32) (D : Dm) : Option (Int32 × Dm) := gd (inB x1 10) (if (D 296 (Int32.toNatClampNeg x1)) = (D 281 28) then (gd (inB x1 10) (some ((D 295 (Int32.toNatClampNeg x1)), D))) else (lt (D 281 36) fun y3 => f_X12_hasOf_27 FU x1 y3 0 D))
def f_X12_runsShort_6_b (k6 : Int32 → Int32 → Dm → Option Dm) (x1 : Int32) (x2 : Int32) (D : Dm) : Option Dm := gd (inB x1 10) (if (D 289 (Int32.toNatClampNeg x1)) ≤ x2 then (lt (ud D 281 49 (D 281 3)) fun D3 => lt (ud D3 281 50 (D3 281 4)) fun D5 => lt (ud D5 281 51 (D5 281 5)) fun D7 => some D7) else (gd (inB ((6 * x1) + x2) 60) (gd (inB ((6 * x1) + x2) 60) (bV (f_X12_goesBy 0 (D 290 (Int32.toNatClampNeg ((6 * x1) + x2))) (D 291 (Int32.toNatClampNeg ((6 * x1) + x2))) D) fun D11 => lt (x2 + 1) fun y13 => k6 x1 y13 D11))))
def f_X12_runsShort_6 : Nat → Int32 → Int32 → Dm → Option Dm
  | 0, _, _, _ => none
  | n + 1, x1, x2, D => f_X12_runsShort_6_b (f_X12_runsShort_6 n) x1 x2 D
def f_X12_runsShort (x1 : Int32) (D : Dm) : Option Dm := bV (f_X12_starts D) fun D1 => f_X12_runsShort_6 FU x1 0 D1
def f_X12_wayTo_102 (k41 : Int32 → Int32 → Dm → Option (Int32 × Dm)) (x1 : Int32) (x4 : Int32) (x5 : Int32) (D : Dm) : Option (Int32 × Dm) := if x5 = 0 then (lt (x4 + 1) fun y2 => k41 x1 y2 D) else (some (x4, D))
def f_X12_wayTo_65_b (k41 : Int32 → Int32 → Dm → Option (Int32 × Dm)) (k65 : Int32 → Int32 → Int32 → Int32 → Dm → Option (Int32 × Dm)) (x1 : Int32) (x4 : Int32) (x5 : Int32) (x6 : Int32) (D : Dm) : Option (Int32 × Dm) := if (D 281 28) ≤ x6 then (f_X12_wayTo_102 k41 x1 x4 x5 D) else (if x5 = 0 then (f_X12_wayTo_102 k41 x1 x4 x5 D) else (bI (f_X12_ownOf x6 D) fun y5 D3 => bI (f_X12_areAlike RF x6 0 y5 x4 D3) fun y8 D6 => lt (x6 + 1) fun y9 => k65 x1 x4 y8 y9 D6))
def f_X12_wayTo_65 (k41 : Int32 → Int32 → Dm → Option (Int32 × Dm)) : Nat → Int32 → Int32 → Int32 → Int32 → Dm → Option (Int32 × Dm)
  | 0, _, _, _, _, _ => none
  | n + 1, x1, x4, x5, x6, D => f_X12_wayTo_65_b k41 (f_X12_wayTo_65 k41 n) x1 x4 x5 x6 D
def f_X12_wayTo_56 (k41 : Int32 → Int32 → Dm → Option (Int32 × Dm)) (x1 : Int32) (x4 : Int32) (xs0 : Int32) (xs1 : Int32) (D : Dm) : Option (Int32 × Dm) := if xs0 ≤ xs1 then (some ((-1), D)) else (f_X12_wayTo_65 k41 FU x1 x4 1 0 D)
def f_X12_wayTo_41_b (k41 : Int32 → Int32 → Dm → Option (Int32 × Dm)) (x1 : Int32) (x4 : Int32) (D : Dm) : Option (Int32 × Dm) := bI (f_X12_bits x1 D) fun y3 D1 => if y3 ≤ 1 then (f_X12_wayTo_56 k41 x1 x4 1 x4 D1) else (f_X12_wayTo_56 k41 x1 x4 2 x4 D1)
def f_X12_wayTo_41 : Nat → Int32 → Int32 → Dm → Option (Int32 × Dm)
  | 0, _, _, _ => none
  | n + 1, x1, x4, D => f_X12_wayTo_41_b (f_X12_wayTo_41 n) x1 x4 D
def f_X12_wayTo (x1 : Int32) (x2 : Int32) (D : Dm) : Option (Int32 × Dm) := bI (f_X12_hasOf x2 D) fun y3 D1 => bI (f_X12_bits x1 D1) fun y6 D4 => bI (f_X12_bits y3 D4) fun y9 D7 => if y6 = y9 then (lt (ud D7 281 47 x1) fun D11 => lt (ud D11 281 48 y3) fun D13 => bV (f_X12_keepsOne D13) fun D15 => bV (f_X12_runsShort x2 D15) fun D17 => f_X12_wayTo_41 FU x1 0 D17) else (some ((-1), D7))
def f_X12_likeOf_2_b (k2 : Int32 → Int32 → Dm → Option (Int32 × Dm)) (x1 : Int32) (x2 : Int32) (D : Dm) : Option (Int32 × Dm) := if (D 281 27) ≤ x2 then (some ((-1), D)) else (bI (f_X12_wayTo x1 x2 D) fun y4 D2 => lt (ud D2 281 54 y4) fun D5 => if (D5 281 54) = (-1) then (lt (x2 + 1) fun y8 => k2 x1 y8 D5) else (some (x2, D5)))
def f_X12_likeOf_2 : Nat → Int32 → Int32 → Dm → Option (Int32 × Dm)
  | 0, _, _, _ => none
  | n + 1, x1, x2, D => f_X12_likeOf_2_b (f_X12_likeOf_2 n) x1 x2 D
def f_X12_likeOf (x1 : Int32) (D : Dm) : Option (Int32 × Dm) := f_X12_likeOf_2 FU x1 0 D
def f_X12_longName (x1 : Int32) (x2 : Int32) (D : Dm) : Option (Int32 × Dm) := bI (f_X12_hasShort x1 D) fun y3 D1 => bI (f_X12_bits y3 D1) fun y6 D4 => if y6 ≤ x2 then (bI (f_X12_bits y3 D4) fun y10 D8 => if x2 = y10 then (bI (f_X12_namesOfShort x1 D8) fun y14 D12 => some (y14, D12)) else (some ((-1), D8))) else (bI (f_X12_nameAt y3 x2 D4) fun y17 D15 => some (y17, D15))
def f_X12_forgets (x1 : Int32) (x2 : Int32) (x3 : Int32) (D : Dm) : Option (Int32 × Dm) := bI (f_X12_namesOfShort x1 D) fun y3 D1 => lt ((1 <<< (y3 &&& 31)) - 1) fun y4 => bI (f_X12_hasLong x1 x2 x3 D1) fun y8 D6 => bI (f_X12_hasShort x1 D6) fun y11 D9 => lt ((y8 &&& y4) &&& (y11 ^^^ (-1))) fun y12 => lt (ud D9 281 56 x1) fun D14 => lt (ud D14 281 57 x2) fun D16 => lt (ud D16 281 58 x3) fun D18 => bI (f_X12_nameAt y12 0 D18) fun y22 D20 => lt (ud D20 281 59 y22) fun D23 => if y12 = 0 then (some (0, D23)) else (some (1, D23))
def f_X12_goesOn (x1 : Int32) (x2 : Int32) (x3 : Int32) (D : Dm) : Option (Int32 × Dm) := lt (ud D 281 56 x1) fun D1 => lt (ud D1 281 57 x2) fun D3 => lt (ud D3 281 58 x3) fun D5 => bI (f_X12_hasLong x1 x2 x3 D5) fun y9 D7 => bV (f_X12_takesLong x1 x2 x3 D7) fun D10 => bI (f_X12_longAt x1 x2 x3 D10) fun y14 D12 => bI (f_X12_likeOf y9 D12) fun y17 D15 => gd (inB y14 80) (lt (ud D15 306 (Int32.toNatClampNeg y14) y17) fun D19 => gd (inB y14 80) (lt (ud D19 307 (Int32.toNatClampNeg y14) (D19 281 54)) fun D22 => gd (inB y14 80) (if (D22 306 (Int32.toNatClampNeg y14)) = (-1) then (some (0, D22)) else (some (1, D22)))))
def f_X12_guesses (x1 : Int32) (x2 : Int32) (x3 : Int32) (D : Dm) : Option Dm := lt (ud D 281 66 x1) fun D1 => lt (ud D1 281 67 x2) fun D3 => lt (ud D3 281 68 x3) fun D5 => some D5
def f_X12_keepsPair  (D : Dm) : Option Dm := lt (ud D 281 78 (D 281 3)) fun D1 => lt (ud D1 281 79 (D1 281 4)) fun D3 => lt (ud D3 281 80 (D3 281 5)) fun D5 => some D5
def f_X12_codeOf_182 (k34 : Int32 → Int32 → Int32 → Int32 → Dm → Option (Int32 × Dm)) (x1 : Int32) (x2 : Int32) (x3 : Int32) (x4 : Int32) (D : Dm) : Option (Int32 × Dm) := gd (inB x4 4) (lt ((5 * x3) + (D 316 (Int32.toNatClampNeg x4))) fun y2 => lt (x4 + 1) fun y4 => k34 x1 x2 y2 y4 D)
def f_X12_codeOf_160 (k34 : Int32 → Int32 → Int32 → Int32 → Dm → Option (Int32 × Dm)) (x1 : Int32) (x2 : Int32) (x3 : Int32) (x4 : Int32) (D : Dm) : Option (Int32 × Dm) := gd (inB x4 4) (if (D 316 (Int32.toNatClampNeg x4)) = (-1) then (gd (inB x4 4) (lt (ud D 316 (Int32.toNatClampNeg x4) x2) fun D4 => lt (x2 + 1) fun y6 => f_X12_codeOf_182 k34 x1 y6 x3 x4 D4)) else (f_X12_codeOf_182 k34 x1 x2 x3 x4 D))
def f_X12_codeOf_154 (k34 : Int32 → Int32 → Int32 → Int32 → Dm → Option (Int32 × Dm)) (k90 : Int32 → Int32 → Int32 → Int32 → Int32 → Int32 → Dm → Option (Int32 × Dm)) (x1 : Int32) (x2 : Int32) (x3 : Int32) (x4 : Int32) (x5 : Int32) (x6 : Int32) (D : Dm) : Option (Int32 × Dm) := lt (x6 + 1) fun y1 => k90 x1 x2 x3 x4 x5 y1 D
def f_X12_codeOf_133 (k34 : Int32 → Int32 → Int32 → Int32 → Dm → Option (Int32 × Dm)) (k90 : Int32 → Int32 → Int32 → Int32 → Int32 → Int32 → Dm → Option (Int32 × Dm)) (x1 : Int32) (x2 : Int32) (x3 : Int32) (x4 : Int32) (x5 : Int32) (x6 : Int32) (xs0 : Int32) (xs1 : Int32) (D : Dm) : Option (Int32 × Dm) := gd (inB (xs1 + xs0) 21000) (if (D 315 (Int32.toNatClampNeg (xs1 + xs0))) = x5 then (gd (inB x6 4) (gd (inB x4 4) (lt (ud D 316 (Int32.toNatClampNeg x4) (D 316 (Int32.toNatClampNeg x6))) fun D5 => f_X12_codeOf_154 k34 k90 x1 x2 x3 x4 x5 x6 D5))) else (f_X12_codeOf_154 k34 k90 x1 x2 x3 x4 x5 x6 D))
def f_X12_codeOf_90_b (k34 : Int32 → Int32 → Int32 → Int32 → Dm → Option (Int32 × Dm)) (k90 : Int32 → Int32 → Int32 → Int32 → Int32 → Int32 → Dm → Option (Int32 × Dm)) (x1 : Int32) (x2 : Int32) (x3 : Int32) (x4 : Int32) (x5 : Int32) (x6 : Int32) (D : Dm) : Option (Int32 × Dm) := if x4 ≤ x6 then (f_X12_codeOf_160 k34 x1 x2 x3 x4 D) else (gd (inB x4 4) (if (D 316 (Int32.toNatClampNeg x4)) = (-1) then (if 2 ≤ x6 then (f_X12_codeOf_133 k34 k90 x1 x2 x3 x4 x5 x6 (2 + x6) (6 * x1) D) else (f_X12_codeOf_133 k34 k90 x1 x2 x3 x4 x5 x6 (1 + x6) (6 * x1) D)) else (f_X12_codeOf_160 k34 x1 x2 x3 x4 D)))
def f_X12_codeOf_90 (k34 : Int32 → Int32 → Int32 → Int32 → Dm → Option (Int32 × Dm)) : Nat → Int32 → Int32 → Int32 → Int32 → Int32 → Int32 → Dm → Option (Int32 × Dm)
  | 0, _, _, _, _, _, _, _ => none
  | n + 1, x1, x2, x3, x4, x5, x6, D => f_X12_codeOf_90_b k34 (f_X12_codeOf_90 k34 n) x1 x2 x3 x4 x5 x6 D
def f_X12_codeOf_86 (k34 : Int32 → Int32 → Int32 → Int32 → Dm → Option (Int32 × Dm)) (x1 : Int32) (x2 : Int32) (x3 : Int32) (x4 : Int32) (x5 : Int32) (xs0 : Int32) (xs1 : Int32) (D : Dm) : Option (Int32 × Dm) := gd (inB xs1 4) (lt (ud D 316 (Int32.toNatClampNeg xs1) xs0) fun D2 => f_X12_codeOf_90 k34 FU x1 x2 x3 x4 x5 0 D2)
def f_X12_codeOf_65 (k34 : Int32 → Int32 → Int32 → Int32 → Dm → Option (Int32 × Dm)) (x1 : Int32) (x2 : Int32) (x3 : Int32) (x4 : Int32) (xs0 : Int32) (xs1 : Int32) (D : Dm) : Option (Int32 × Dm) := gd (inB (xs1 + xs0) 21000) (lt (D 315 (Int32.toNatClampNeg (xs1 + xs0))) fun y2 => if y2 = (-1) then (f_X12_codeOf_86 k34 x1 x2 x3 x4 y2 0 x4 D) else (f_X12_codeOf_86 k34 x1 x2 x3 x4 y2 (-1) x4 D))
def f_X12_codeOf_34_b (k34 : Int32 → Int32 → Int32 → Int32 → Dm → Option (Int32 × Dm)) (x1 : Int32) (x2 : Int32) (x3 : Int32) (x4 : Int32) (D : Dm) : Option (Int32 × Dm) := if 4 ≤ x4 then (some (x3, D)) else (if 2 ≤ x4 then (f_X12_codeOf_65 k34 x1 x2 x3 x4 (2 + x4) (6 * x1) D) else (f_X12_codeOf_65 k34 x1 x2 x3 x4 (1 + x4) (6 * x1) D))
def f_X12_codeOf_34 : Nat → Int32 → Int32 → Int32 → Int32 → Dm → Option (Int32 × Dm)
  | 0, _, _, _, _, _ => none
  | n + 1, x1, x2, x3, x4, D => f_X12_codeOf_34_b (f_X12_codeOf_34 n) x1 x2 x3 x4 D
def f_X12_codeOf (x1 : Int32) (D : Dm) : Option (Int32 × Dm) := gd (inB (6 * x1) 21000) (gd (inB ((6 * x1) + 3) 21000) (lt (((((D 315 (Int32.toNatClampNeg (6 * x1))) + 1) * 11) + (D 315 (Int32.toNatClampNeg ((6 * x1) + 3)))) + 1) fun y3 => f_X12_codeOf_34 FU x1 1 y3 0 D))
def f_X12_comes_125 (x2 : Int32) (xs0 : Int32) (xs1 : Int32) (D : Dm) : Option (Int32 × Dm) := gd (inB xs1 21000) (lt (ud D 315 (Int32.toNatClampNeg xs1) xs0) fun D2 => bI (f_X12_codeOf x2 D2) fun y6 D4 => gd (inB y6 41250) (if (D4 317 (Int32.toNatClampNeg y6)) = 0 then (gd (inB y6 41250) (lt (ud D4 317 (Int32.toNatClampNeg y6) 1) fun D10 => lt (ud D10 281 77 ((D10 281 77) + 1)) fun D12 => some (1, D12))) else (some (0, D4))))
def f_X12_comes_99 (x1 : Int32) (x2 : Int32) (xs0 : Int32) (xs1 : Int32) (D : Dm) : Option (Int32 × Dm) := gd (inB xs1 21000) (lt (ud D 315 (Int32.toNatClampNeg xs1) xs0) fun D2 => if x1 = 0 then (f_X12_comes_125 x2 (D2 281 80) ((6 * x2) + 5) D2) else (f_X12_comes_125 x2 (D2 281 68) ((6 * x2) + 5) D2))
def f_X12_comes_73 (x1 : Int32) (x2 : Int32) (xs0 : Int32) (xs1 : Int32) (D : Dm) : Option (Int32 × Dm) := gd (inB xs1 21000) (lt (ud D 315 (Int32.toNatClampNeg xs1) xs0) fun D2 => if x1 = 0 then (f_X12_comes_99 x1 x2 (D2 281 79) ((6 * x2) + 4) D2) else (f_X12_comes_99 x1 x2 (D2 281 67) ((6 * x2) + 4) D2))
def f_X12_comes (x1 : Int32) (D : Dm) : Option (Int32 × Dm) := lt (D 281 77) fun y1 => gd (inB (6 * y1) 21000) (lt (ud D 315 (Int32.toNatClampNeg (6 * y1)) (D 281 3)) fun D4 => gd (inB ((6 * y1) + 1) 21000) (lt (ud D4 315 (Int32.toNatClampNeg ((6 * y1) + 1)) (D4 281 4)) fun D7 => gd (inB ((6 * y1) + 2) 21000) (lt (ud D7 315 (Int32.toNatClampNeg ((6 * y1) + 2)) (D7 281 5)) fun D10 => if x1 = 0 then (f_X12_comes_73 x1 y1 (D10 281 78) ((6 * y1) + 3) D10) else (f_X12_comes_73 x1 y1 (D10 281 66) ((6 * y1) + 3) D10))))
def f_X12_isGood (x1 : Int32) (D : Dm) : Option (Int32 × Dm) := if x1 = (-1) then (some (0, D)) else (bV (f_X12_runsShort x1 D) fun D2 => if (D2 281 49) = (-1) then (some (0, D2)) else (bI (f_X12_its 0 3 D2) fun y7 D5 => if ((y7 >>> ((D5 281 49) &&& 31)) &&& 1) = 1 then (some (1, D5)) else (some (0, D5))))
def f_X12_isUnlike (x1 : Int32) (x2 : Int32) (D : Dm) : Option (Int32 × Dm) := gd (inB (6 * x1) 21000) (bV (f_X12_stays (D 315 (Int32.toNatClampNeg (6 * x1))) (-1) (-1) D) fun D2 => bI (f_X12_accepts 0 D2) fun y6 D4 => if x2 = 0 then (gd (inB ((6 * x1) + 3) 21000) (bV (f_X12_stays (D4 315 (Int32.toNatClampNeg ((6 * x1) + 3))) (-1) (-1) D4) fun D9 => bI (f_X12_accepts 1 D9) fun y13 D11 => if y6 = y13 then (some (0, D11)) else (some (1, D11)))) else (gd (inB ((6 * x1) + 3) 21000) (bI (f_X12_isGood (D4 315 (Int32.toNatClampNeg ((6 * x1) + 3))) D4) fun y18 D16 => if y6 = y18 then (some (0, D16)) else (some (1, D16)))))
def f_X12_symbolsOf_19  (D : Dm) : Option (Int32 × Dm) := bI (f_X12_its 0 2 D) fun y3 D1 => some (y3, D1)
def f_X12_symbolsOf (x1 : Int32) (D : Dm) : Option (Int32 × Dm) := if x1 = 0 then (bI (f_X12_its 0 2 D) fun y4 D2 => bI (f_X12_its 1 2 D2) fun y7 D5 => if y4 ≤ y7 then (bI (f_X12_its 1 2 D5) fun y11 D9 => some (y11, D9)) else (f_X12_symbolsOf_19 D5)) else (f_X12_symbolsOf_19 D)
def f_X12_isHad_40 (k3 : Int32 → Int32 → Int32 → Int32 → Dm → Option (Int32 × Dm)) (x1 : Int32) (x2 : Int32) (x3 : Int32) (x4 : Int32) (xs0 : Int32) (xs1 : Int32) (D : Dm) : Option (Int32 × Dm) := gd (inB (xs1 + xs0) 21000) (if (D 315 (Int32.toNatClampNeg (xs1 + xs0))) = x3 then (some (1, D)) else (lt (x4 + 1) fun y3 => k3 x1 x2 x3 y3 D))
def f_X12_isHad_3_b (k3 : Int32 → Int32 → Int32 → Int32 → Dm → Option (Int32 × Dm)) (x1 : Int32) (x2 : Int32) (x3 : Int32) (x4 : Int32) (D : Dm) : Option (Int32 × Dm) := if x2 ≤ x4 then (some (0, D)) else (if 4 ≤ x4 then (some (0, D)) else (if 2 ≤ x4 then (f_X12_isHad_40 k3 x1 x2 x3 x4 (2 + x4) (6 * x1) D) else (f_X12_isHad_40 k3 x1 x2 x3 x4 (1 + x4) (6 * x1) D)))
def f_X12_isHad_3 : Nat → Int32 → Int32 → Int32 → Int32 → Dm → Option (Int32 × Dm)
  | 0, _, _, _, _, _ => none
  | n + 1, x1, x2, x3, x4, D => f_X12_isHad_3_b (f_X12_isHad_3 n) x1 x2 x3 x4 D
def f_X12_isHad (x1 : Int32) (x2 : Int32) (x3 : Int32) (D : Dm) : Option (Int32 × Dm) := f_X12_isHad_3 FU x1 x2 x3 0 D
def f_X12_valueOf (x1 : Int32) (x2 : Int32) (x3 : Int32) (x4 : Int32) (D : Dm) : Option (Int32 × Dm) := if x1 = (-1) then (some ((-1), D)) else (if x1 = x3 then (some (x4, D)) else (bI (f_X12_nameAt x2 0 D) fun y5 D3 => if x1 = y5 then (some ((D3 281 67), D3)) else (some ((D3 281 68), D3))))
def f_X12_guessGoes_182 (xs0 : Int32) (xs1 : Int32) (xs2 : Int32) (D : Dm) : Option Dm := bV (f_X12_guesses xs2 xs1 xs0 D) fun D1 => some D1
def f_X12_guessGoes_170 (x8 : Int32) (x9 : Int32) (x10 : Int32) (xs0 : Int32) (xs1 : Int32) (D : Dm) : Option Dm := if x10 = 0 then (f_X12_guessGoes_182 x9 xs0 xs1 D) else (f_X12_guessGoes_182 x8 xs0 xs1 D)
def f_X12_guessGoes_148 (x6 : Int32) (x8 : Int32) (x9 : Int32) (xs0 : Int32) (D : Dm) : Option Dm := gd (inB x6 80) (if xs0 = 0 then (f_X12_guessGoes_170 x8 x9 xs0 x8 (D 306 (Int32.toNatClampNeg x6)) D) else (f_X12_guessGoes_170 x8 x9 xs0 x9 (D 306 (Int32.toNatClampNeg x6)) D))
def f_X12_guessGoes_78 (x1 : Int32) (x2 : Int32) (x3 : Int32) (x4 : Int32) (xs0 : Int32) (D : Dm) : Option Dm := bI (f_X12_longAt x3 x1 xs0 D) fun y3 D1 => gd (inB y3 80) (lt (D1 297 (Int32.toNatClampNeg y3)) fun y5 => bI (f_X12_nameAt y5 0 D1) fun y9 D7 => bI (f_X12_valueOf y9 x4 xs0 x2 D7) fun y12 D10 => bI (f_X12_nameAt y5 1 D10) fun y15 D13 => bI (f_X12_valueOf y15 x4 xs0 x2 D13) fun y18 D16 => gd (inB y3 80) (if (D16 307 (Int32.toNatClampNeg y3)) = 1 then (f_X12_guessGoes_148 y3 y12 y18 1 D16) else (f_X12_guessGoes_148 y3 y12 y18 0 D16)))
def f_X12_guessGoes (x1 : Int32) (x2 : Int32) (D : Dm) : Option Dm := if (D 281 66) = (-1) then (some D) else (bI (f_X12_its 0 2 D) fun y4 D2 => if x1 < y4 then (lt (D2 281 66) fun y6 => bI (f_X12_hasShort y6 D2) fun y10 D8 => if (D8 281 67) = x2 then (bI (f_X12_nameAt y10 0 D8) fun y21 D19 => f_X12_guessGoes_78 x1 x2 y6 y10 y21 D19) else (if (D8 281 68) = x2 then (bI (f_X12_nameAt y10 1 D8) fun y18 D16 => f_X12_guessGoes_78 x1 x2 y6 y10 y18 D16) else (bI (f_X12_namesOfShort y6 D8) fun y15 D13 => f_X12_guessGoes_78 x1 x2 y6 y10 y15 D13))) else (bV (f_X12_guesses (-1) (-1) (-1) D2) fun D22 => some D22))
def f_X12_follows_225 (xs0 : Int32) (xs1 : Int32) (D : Dm) : Option (Int32 × Dm) := gd (inB xs1 3500) (lt (ud D 314 (Int32.toNatClampNeg xs1) xs0) fun D2 => some (1, D2))
def f_X12_follows_99 (x1 : Int32) (x2 : Int32) (x3 : Int32) (x4 : Int32) (D : Dm) : Option (Int32 × Dm) := gd (inB (6 * x1) 21000) (gd (inB ((6 * x1) + 1) 21000) (gd (inB ((6 * x1) + 2) 21000) (bV (f_X12_stays (D 315 (Int32.toNatClampNeg (6 * x1))) (D 315 (Int32.toNatClampNeg ((6 * x1) + 1))) (D 315 (Int32.toNatClampNeg ((6 * x1) + 2))) D) fun D4 => bV (f_X12_goesBy 0 x2 x3 D4) fun D6 => lt (D6 281 77) fun y8 => bI (f_X12_comes x4 D6) fun y12 D10 => if y12 = 0 then (some (0, D10)) else (gd (inB y8 3500) (lt (ud D10 310 (Int32.toNatClampNeg y8) x1) fun D15 => gd (inB y8 3500) (lt (ud D15 311 (Int32.toNatClampNeg y8) x2) fun D18 => gd (inB y8 3500) (lt (ud D18 312 (Int32.toNatClampNeg y8) x3) fun D21 => gd (inB x1 3500) (gd (inB y8 3500) (lt (ud D21 313 (Int32.toNatClampNeg y8) ((D21 313 (Int32.toNatClampNeg x1)) + 1)) fun D25 => gd (inB x1 3500) (if x3 = (D25 314 (Int32.toNatClampNeg x1)) then (f_X12_follows_225 (x3 + 1) y8 D25) else (gd (inB x1 3500) (f_X12_follows_225 (D25 314 (Int32.toNatClampNeg x1)) y8 D25))))))))))))
def f_X12_follows (x1 : Int32) (x2 : Int32) (x3 : Int32) (x4 : Int32) (D : Dm) : Option (Int32 × Dm) := if x4 = 0 then (gd (inB ((6 * x1) + 3) 21000) (gd (inB ((6 * x1) + 4) 21000) (gd (inB ((6 * x1) + 5) 21000) (bV (f_X12_stays (D 315 (Int32.toNatClampNeg ((6 * x1) + 3))) (D 315 (Int32.toNatClampNeg ((6 * x1) + 4))) (D 315 (Int32.toNatClampNeg ((6 * x1) + 5))) D) fun D5 => bV (f_X12_goesBy 1 x2 x3 D5) fun D7 => bV (f_X12_keepsPair D7) fun D9 => f_X12_follows_99 x1 x2 x3 x4 D9)))) else (gd (inB ((6 * x1) + 3) 21000) (gd (inB ((6 * x1) + 4) 21000) (gd (inB ((6 * x1) + 5) 21000) (bV (f_X12_guesses (D 315 (Int32.toNatClampNeg ((6 * x1) + 3))) (D 315 (Int32.toNatClampNeg ((6 * x1) + 4))) (D 315 (Int32.toNatClampNeg ((6 * x1) + 5))) D) fun D14 => bV (f_X12_guessGoes x2 x3 D14) fun D16 => f_X12_follows_99 x1 x2 x3 x4 D16))))
def f_X12_seeks_236 (k81 : Int32 → Int32 → Dm → Option (Int32 × Dm)) (x1 : Int32) (x3 : Int32) (D : Dm) : Option (Int32 × Dm) := lt (x3 + 1) fun y1 => k81 x1 y1 D
def f_X12_seeks_224 (k81 : Int32 → Int32 → Dm → Option (Int32 × Dm)) (k106 : Int32 → Int32 → Int32 → Dm → Option (Int32 × Dm)) (k119 : Int32 → Int32 → Int32 → Int32 → Dm → Option (Int32 × Dm)) (x1 : Int32) (x3 : Int32) (x4 : Int32) (x5 : Int32) (D : Dm) : Option (Int32 × Dm) := lt (x5 + 1) fun y1 => k119 x1 x3 x4 y1 D
def f_X12_seeks_167 (k81 : Int32 → Int32 → Dm → Option (Int32 × Dm)) (k106 : Int32 → Int32 → Int32 → Dm → Option (Int32 × Dm)) (k119 : Int32 → Int32 → Int32 → Int32 → Dm → Option (Int32 × Dm)) (x1 : Int32) (x3 : Int32) (x4 : Int32) (x5 : Int32) (xs0 : Int32) (D : Dm) : Option (Int32 × Dm) := if xs0 = (-1) then (f_X12_seeks_224 k81 k106 k119 x1 x3 x4 x5 D) else (bI (f_X12_isHad x3 x5 xs0 D) fun y4 D2 => if y4 = 0 then (bI (f_X12_follows x3 x4 xs0 x1 D2) fun y8 D6 => if y8 = 0 then (f_X12_seeks_224 k81 k106 k119 x1 x3 x4 x5 D6) else (bI (f_X12_isUnlike ((D6 281 77) - 1) x1 D6) fun y12 D10 => if y12 = 0 then (f_X12_seeks_224 k81 k106 k119 x1 x3 x4 x5 D10) else (some (((D10 281 77) - 1), D10)))) else (f_X12_seeks_224 k81 k106 k119 x1 x3 x4 x5 D2))
def f_X12_seeks_156 (k81 : Int32 → Int32 → Dm → Option (Int32 × Dm)) (k106 : Int32 → Int32 → Int32 → Dm → Option (Int32 × Dm)) (k119 : Int32 → Int32 → Int32 → Int32 → Dm → Option (Int32 × Dm)) (x1 : Int32) (x3 : Int32) (x4 : Int32) (x5 : Int32) (xs0 : Int32) (xs1 : Int32) (D : Dm) : Option (Int32 × Dm) := gd (inB (xs1 + xs0) 21000) (f_X12_seeks_167 k81 k106 k119 x1 x3 x4 x5 (D 315 (Int32.toNatClampNeg (xs1 + xs0))) D)
def f_X12_seeks_119_b (k81 : Int32 → Int32 → Dm → Option (Int32 × Dm)) (k106 : Int32 → Int32 → Int32 → Dm → Option (Int32 × Dm)) (k119 : Int32 → Int32 → Int32 → Int32 → Dm → Option (Int32 × Dm)) (x1 : Int32) (x3 : Int32) (x4 : Int32) (x5 : Int32) (D : Dm) : Option (Int32 × Dm) := if 5 ≤ x5 then (lt (x4 + 1) fun y2 => k106 x1 x3 y2 D) else (if 4 ≤ x5 then (gd (inB x3 3500) (f_X12_seeks_167 k81 k106 k119 x1 x3 x4 x5 (D 314 (Int32.toNatClampNeg x3)) D)) else (if 2 ≤ x5 then (f_X12_seeks_156 k81 k106 k119 x1 x3 x4 x5 (2 + x5) (6 * x3) D) else (f_X12_seeks_156 k81 k106 k119 x1 x3 x4 x5 (1 + x5) (6 * x3) D)))
def f_X12_seeks_119 (k81 : Int32 → Int32 → Dm → Option (Int32 × Dm)) (k106 : Int32 → Int32 → Int32 → Dm → Option (Int32 × Dm)) : Nat → Int32 → Int32 → Int32 → Int32 → Dm → Option (Int32 × Dm)
  | 0, _, _, _, _, _ => none
  | n + 1, x1, x3, x4, x5, D => f_X12_seeks_119_b k81 k106 (f_X12_seeks_119 k81 k106 n) x1 x3 x4 x5 D
def f_X12_seeks_106_b (k81 : Int32 → Int32 → Dm → Option (Int32 × Dm)) (k106 : Int32 → Int32 → Int32 → Dm → Option (Int32 × Dm)) (x1 : Int32) (x3 : Int32) (x4 : Int32) (D : Dm) : Option (Int32 × Dm) := bI (f_X12_symbolsOf x1 D) fun y3 D1 => if y3 ≤ x4 then (f_X12_seeks_236 k81 x1 x3 D1) else (f_X12_seeks_119 k81 k106 FU x1 x3 x4 0 D1)
def f_X12_seeks_106 (k81 : Int32 → Int32 → Dm → Option (Int32 × Dm)) : Nat → Int32 → Int32 → Int32 → Dm → Option (Int32 × Dm)
  | 0, _, _, _, _ => none
  | n + 1, x1, x3, x4, D => f_X12_seeks_106_b k81 (f_X12_seeks_106 k81 n) x1 x3 x4 D
def f_X12_seeks_81_b (k81 : Int32 → Int32 → Dm → Option (Int32 × Dm)) (x1 : Int32) (x3 : Int32) (D : Dm) : Option (Int32 × Dm) := if (D 281 77) ≤ x3 then (some ((-1), D)) else (gd (inB x3 3500) (if (D 313 (Int32.toNatClampNeg x3)) = 20 then (f_X12_seeks_236 k81 x1 x3 D) else (f_X12_seeks_106 k81 FU x1 x3 0 D)))
def f_X12_seeks_81 : Nat → Int32 → Int32 → Dm → Option (Int32 × Dm)
  | 0, _, _, _ => none
  | n + 1, x1, x3, D => f_X12_seeks_81_b (f_X12_seeks_81 n) x1 x3 D
def f_X12_seeks_2_b (k2 : Int32 → Int32 → Dm → Option (Int32 × Dm)) (x1 : Int32) (x2 : Int32) (D : Dm) : Option (Int32 × Dm) := if 41250 ≤ x2 then (lt (ud D 281 77 0) fun D2 => bV (f_X12_starts D2) fun D4 => bV (f_X12_keepsPair D4) fun D6 => bV (f_X12_guesses 0 (-1) (-1) D6) fun D8 => bI (f_X12_comes x1 D8) fun y12 D10 => lt (ud D10 310 0 (-1)) fun D14 => lt (ud D14 313 0 0) fun D17 => lt (ud D17 314 0 0) fun D20 => bI (f_X12_isUnlike 0 x1 D20) fun y24 D22 => if y24 = 0 then (f_X12_seeks_81 FU x1 0 D22) else (some (0, D22))) else (gd (inB x2 41250) (lt (ud D 317 (Int32.toNatClampNeg x2) 0) fun D27 => lt (x2 + 1) fun y29 => k2 x1 y29 D27))
def f_X12_seeks_2 : Nat → Int32 → Int32 → Dm → Option (Int32 × Dm)
  | 0, _, _, _ => none
  | n + 1, x1, x2, D => f_X12_seeks_2_b (f_X12_seeks_2 n) x1 x2 D
def f_X12_seeks (x1 : Int32) (D : Dm) : Option (Int32 × Dm) := f_X12_seeks_2 FU x1 0 D
def f_X12_findsWrong_36_b (k36 : Int32 → Int32 → Dm → Option Dm) (x1 : Int32) (x2 : Int32) (D : Dm) : Option Dm := if x2 < 0 then (some D) else (gd (inB x1 3500) (gd (inB x2 20) (lt (ud D 308 (Int32.toNatClampNeg x2) (D 311 (Int32.toNatClampNeg x1))) fun D4 => gd (inB x1 3500) (gd (inB x2 20) (lt (ud D4 309 (Int32.toNatClampNeg x2) (D4 312 (Int32.toNatClampNeg x1))) fun D8 => gd (inB x1 3500) (lt (D8 310 (Int32.toNatClampNeg x1)) fun y11 => lt (x2 + (-1)) fun y13 => k36 y11 y13 D8))))))
def f_X12_findsWrong_36 : Nat → Int32 → Int32 → Dm → Option Dm
  | 0, _, _, _ => none
  | n + 1, x1, x2, D => f_X12_findsWrong_36_b (f_X12_findsWrong_36 n) x1 x2 D
def f_X12_findsWrong  (D : Dm) : Option Dm := bV (f_X12_guesses 0 (-1) (-1) D) fun D1 => bI (f_X12_seeks 1 D1) fun y5 D3 => if y5 = (-1) then (some D3) else (gd (inB y5 3500) (lt (ud D3 281 64 (D3 313 (Int32.toNatClampNeg y5))) fun D8 => lt ((D8 281 64) - 1) fun y10 => f_X12_findsWrong_36 FU y5 y10 D8))
set_option maxHeartbeats 4000000 in
theorem w_X12_asks_120 {G : va_G} {tA : Nat → ClassId} {z : Nat} {E : Ex} {p : Program} {l : Launch} {e : Env} {s : State} {m : MethodId} {args : Array Value} {below : List Frame} {meth : Method} {c : Code} {D' : Dm} {dd : Nat} (hdd : 7 ≤ dd) (O : Ok G tA z E cX12_asks RX12 8 p s m args c) (hr : meth.sig.returnType = none) (hlk : meth.locks = false) {self : Int32 → Int32 → Int32 → Int32 → Dm → Option Dm} (hself : ∀ (x1 : Int32) (x2 : Int32) (x3 : Int32) (x4 : Int32) (D1 D2 : Dm), self x1 x2 x3 x4 D1 = some D2 → CtV l yX12_asks cX12_asks 8 G tA z E dd 0 0 [.ref (z + 281), .int x1, .int x2, .int x3, .int x4] LAY D1 LAY D2) {k44 : Int32 → Int32 → Int32 → Int32 → Int32 → Dm → Option Dm} (hk44 : ∀ (x1 : Int32) (x2 : Int32) (x3 : Int32) (x4 : Int32) (x5 : Int32) (D : Dm), k44 x1 x2 x3 x4 x5 D = some D' → BV G tA z E p l e (rmC (dd + 1) 0 0) s m args below meth c LAY D D' 8 44 [(0, .ref (z + 281)), (1, .int x1), (2, .int x2), (3, .int x3), (4, .int x4), (5, .int x5)] []) (x1 : Int32) (x2 : Int32) (x3 : Int32) (x4 : Int32) (x5 : Int32) (D : Dm) (h : f_X12_asks_120 self k44 x1 x2 x3 x4 x5 D = some D') : BV G tA z E p l e (rmC (dd + 1) 0 0) s m args below meth c LAY D D' 8 120 [(0, .ref (z + 281)), (1, .int x1), (2, .int x2), (3, .int x3), (4, .int x4), (5, .int x5)] [] := by
  obtain ⟨hx, hb, -, hown, hts, -⟩ := id O
  unfold f_X12_asks_120 at h
  intro H locs ls hH hl
  obtain ⟨y1, e2, h⟩ := lt_some h
  refine lv_iinc (v := y1) (lv' := [(5, .int y1), (0, .ref (z + 281)), (1, .int x1), (2, .int x2), (3, .int x3), (4, .int x4)]) hx hb dX12_asks_120 hl (k := 5) rfl (by rw [e2]; rfl) (by decide) rfl (fun ls hl => ?_)
  refine lv_goto (tgt := 44) hx hb dX12_asks_123 (by decide) ?_
  exact hk44 _ _ _ _ _ _ h _ _ _ hH (lv_sub hl [1, 2, 3, 4, 5, 0] rfl)
set_option maxHeartbeats 4000000 in
theorem w_X12_asks_85 {G : va_G} {tA : Nat → ClassId} {z : Nat} {E : Ex} {p : Program} {l : Launch} {e : Env} {s : State} {m : MethodId} {args : Array Value} {below : List Frame} {meth : Method} {c : Code} {D' : Dm} {dd : Nat} (hdd : 7 ≤ dd) (O : Ok G tA z E cX12_asks RX12 8 p s m args c) (hr : meth.sig.returnType = none) (hlk : meth.locks = false) {self : Int32 → Int32 → Int32 → Int32 → Dm → Option Dm} (hself : ∀ (x1 : Int32) (x2 : Int32) (x3 : Int32) (x4 : Int32) (D1 D2 : Dm), self x1 x2 x3 x4 D1 = some D2 → CtV l yX12_asks cX12_asks 8 G tA z E dd 0 0 [.ref (z + 281), .int x1, .int x2, .int x3, .int x4] LAY D1 LAY D2) {k44 : Int32 → Int32 → Int32 → Int32 → Int32 → Dm → Option Dm} (hk44 : ∀ (x1 : Int32) (x2 : Int32) (x3 : Int32) (x4 : Int32) (x5 : Int32) (D : Dm), k44 x1 x2 x3 x4 x5 D = some D' → BV G tA z E p l e (rmC (dd + 1) 0 0) s m args below meth c LAY D D' 8 44 [(0, .ref (z + 281)), (1, .int x1), (2, .int x2), (3, .int x3), (4, .int x4), (5, .int x5)] []) {k57 : Int32 → Int32 → Int32 → Int32 → Int32 → Int32 → Int32 → Dm → Option Dm} (hk57 : ∀ (x1 : Int32) (x2 : Int32) (x3 : Int32) (x4 : Int32) (x5 : Int32) (x6 : Int32) (x7 : Int32) (D : Dm), k57 x1 x2 x3 x4 x5 x6 x7 D = some D' → BV G tA z E p l e (rmC (dd + 1) 0 0) s m args below meth c LAY D D' 8 57 [(0, .ref (z + 281)), (1, .int x1), (2, .int x2), (3, .int x3), (4, .int x4), (5, .int x5), (6, .int x6), (7, .int x7)] []) (x1 : Int32) (x2 : Int32) (x3 : Int32) (x4 : Int32) (x5 : Int32) (x7 : Int32) (xs0 : Int32) (D : Dm) (h : f_X12_asks_85 self k44 k57 x1 x2 x3 x4 x5 x7 xs0 D = some D') : BV G tA z E p l e (rmC (dd + 1) 0 0) s m args below meth c LAY D D' 8 85 [(0, .ref (z + 281)), (1, .int x1), (2, .int x2), (3, .int x3), (4, .int x4), (5, .int x5), (7, .int x7)] [.int xs0] := by
  obtain ⟨hx, hb, -, hown, hts, -⟩ := id O
  unfold f_X12_asks_85 at h
  intro H locs ls hH hl
  refine lv_istore (lv' := [(6, .int xs0), (0, .ref (z + 281)), (1, .int x1), (2, .int x2), (3, .int x3), (4, .int x4), (5, .int x5), (7, .int x7)]) hx hb dX12_asks_85 hl (by decide) rfl (fun ls hl => ?_)
  obtain ⟨y1, e2, h⟩ := lt_some h
  refine lv_iinc (v := y1) (lv' := [(7, .int y1), (6, .int xs0), (0, .ref (z + 281)), (1, .int x1), (2, .int x2), (3, .int x3), (4, .int x4), (5, .int x5)]) hx hb dX12_asks_87 hl (k := 7) rfl (by rw [e2]; rfl) (by decide) rfl (fun ls hl => ?_)
  refine lv_goto (tgt := 57) hx hb dX12_asks_90 (by decide) ?_
  exact hk57 _ _ _ _ _ _ _ _ h _ _ _ hH (lv_sub hl [2, 3, 4, 5, 6, 7, 1, 0] rfl)
set_option maxHeartbeats 4000000 in
theorem w_X12_asks_80 {G : va_G} {tA : Nat → ClassId} {z : Nat} {E : Ex} {p : Program} {l : Launch} {e : Env} {s : State} {m : MethodId} {args : Array Value} {below : List Frame} {meth : Method} {c : Code} {D' : Dm} {dd : Nat} (hdd : 7 ≤ dd) (O : Ok G tA z E cX12_asks RX12 8 p s m args c) (hr : meth.sig.returnType = none) (hlk : meth.locks = false) {self : Int32 → Int32 → Int32 → Int32 → Dm → Option Dm} (hself : ∀ (x1 : Int32) (x2 : Int32) (x3 : Int32) (x4 : Int32) (D1 D2 : Dm), self x1 x2 x3 x4 D1 = some D2 → CtV l yX12_asks cX12_asks 8 G tA z E dd 0 0 [.ref (z + 281), .int x1, .int x2, .int x3, .int x4] LAY D1 LAY D2) {k44 : Int32 → Int32 → Int32 → Int32 → Int32 → Dm → Option Dm} (hk44 : ∀ (x1 : Int32) (x2 : Int32) (x3 : Int32) (x4 : Int32) (x5 : Int32) (D : Dm), k44 x1 x2 x3 x4 x5 D = some D' → BV G tA z E p l e (rmC (dd + 1) 0 0) s m args below meth c LAY D D' 8 44 [(0, .ref (z + 281)), (1, .int x1), (2, .int x2), (3, .int x3), (4, .int x4), (5, .int x5)] []) {k57 : Int32 → Int32 → Int32 → Int32 → Int32 → Int32 → Int32 → Dm → Option Dm} (hk57 : ∀ (x1 : Int32) (x2 : Int32) (x3 : Int32) (x4 : Int32) (x5 : Int32) (x6 : Int32) (x7 : Int32) (D : Dm), k57 x1 x2 x3 x4 x5 x6 x7 D = some D' → BV G tA z E p l e (rmC (dd + 1) 0 0) s m args below meth c LAY D D' 8 57 [(0, .ref (z + 281)), (1, .int x1), (2, .int x2), (3, .int x3), (4, .int x4), (5, .int x5), (6, .int x6), (7, .int x7)] []) (x1 : Int32) (x2 : Int32) (x3 : Int32) (x4 : Int32) (x5 : Int32) (x7 : Int32) (D : Dm) (h : f_X12_asks_80 self k44 k57 x1 x2 x3 x4 x5 x7 D = some D') : BV G tA z E p l e (rmC (dd + 1) 0 0) s m args below meth c LAY D D' 8 80 [(0, .ref (z + 281)), (1, .int x1), (2, .int x2), (3, .int x3), (4, .int x4), (5, .int x5), (7, .int x7)] [] := by
  obtain ⟨hx, hb, -, hown, hts, -⟩ := id O
  unfold f_X12_asks_80 at h
  intro H locs ls hH hl
  refine lv_iconst (v := 1) hx hb dX12_asks_80 (by decide) ?_
  refine lv_goto (tgt := 85) hx hb dX12_asks_81 (by decide) ?_
  exact w_X12_asks_85 hdd O hr hlk hself hk44 hk57 _ _ _ _ _ _ _ _ h _ _ _ hH (lv_sub hl [0, 1, 2, 3, 4, 5, 6] rfl)
set_option maxHeartbeats 4000000 in
theorem w_X12_asks_57_b {G : va_G} {tA : Nat → ClassId} {z : Nat} {E : Ex} {p : Program} {l : Launch} {e : Env} {s : State} {m : MethodId} {args : Array Value} {below : List Frame} {meth : Method} {c : Code} {D' : Dm} {dd : Nat} (hdd : 7 ≤ dd) (O : Ok G tA z E cX12_asks RX12 8 p s m args c) (hr : meth.sig.returnType = none) (hlk : meth.locks = false) {self : Int32 → Int32 → Int32 → Int32 → Dm → Option Dm} (hself : ∀ (x1 : Int32) (x2 : Int32) (x3 : Int32) (x4 : Int32) (D1 D2 : Dm), self x1 x2 x3 x4 D1 = some D2 → CtV l yX12_asks cX12_asks 8 G tA z E dd 0 0 [.ref (z + 281), .int x1, .int x2, .int x3, .int x4] LAY D1 LAY D2) {k44 : Int32 → Int32 → Int32 → Int32 → Int32 → Dm → Option Dm} (hk44 : ∀ (x1 : Int32) (x2 : Int32) (x3 : Int32) (x4 : Int32) (x5 : Int32) (D : Dm), k44 x1 x2 x3 x4 x5 D = some D' → BV G tA z E p l e (rmC (dd + 1) 0 0) s m args below meth c LAY D D' 8 44 [(0, .ref (z + 281)), (1, .int x1), (2, .int x2), (3, .int x3), (4, .int x4), (5, .int x5)] []) {k57 : Int32 → Int32 → Int32 → Int32 → Int32 → Int32 → Int32 → Dm → Option Dm} (hk57 : ∀ (x1 : Int32) (x2 : Int32) (x3 : Int32) (x4 : Int32) (x5 : Int32) (x6 : Int32) (x7 : Int32) (D : Dm), k57 x1 x2 x3 x4 x5 x6 x7 D = some D' → BV G tA z E p l e (rmC (dd + 1) 0 0) s m args below meth c LAY D D' 8 57 [(0, .ref (z + 281)), (1, .int x1), (2, .int x2), (3, .int x3), (4, .int x4), (5, .int x5), (6, .int x6), (7, .int x7)] []) (x1 : Int32) (x2 : Int32) (x3 : Int32) (x4 : Int32) (x5 : Int32) (x6 : Int32) (x7 : Int32) (D : Dm) (h : f_X12_asks_57_b self k44 k57 x1 x2 x3 x4 x5 x6 x7 D = some D') : BV G tA z E p l e (rmC (dd + 1) 0 0) s m args below meth c LAY D D' 8 57 [(0, .ref (z + 281)), (1, .int x1), (2, .int x2), (3, .int x3), (4, .int x4), (5, .int x5), (6, .int x6), (7, .int x7)] [] := by
  obtain ⟨hx, hb, -, hown, hts, -⟩ := id O
  unfold f_X12_asks_57_b at h
  intro H locs ls hH hl
  refine lv_iload hx hb dX12_asks_57 (lv_at hl 7 rfl) ?_
  refine lv_iload_n hx hb dX12_asks_59 rfl (lv_at hl 2 rfl) ?_
  refine lv_icmp_ge (tgt := 93) hx hb dX12_asks_60 (by decide) (fun c1 => ?_) (fun c1 => ?_)
  · have h := it_pos h c1
    refine lv_iload hx hb dX12_asks_93 (lv_at hl 6 rfl) ?_
    refine lv_if_eq (tgt := 101) hx hb dX12_asks_95 (by decide) (fun c2 => ?_) (fun c2 => ?_)
    · have h := it_pos h c2
      refine lv_aload_n hx hb dX12_asks_101 rfl (lv_at hl 0 rfl) ?_
      refine h_getr O hH ly_281 rfl fl_X12_75 dX12_asks_102 ?_
      refine lv_iload_n hx hb dX12_asks_105 rfl (lv_at hl 2 rfl) ?_
      refine lv_iload hx hb dX12_asks_106 (lv_at hl 5 rfl) ?_
      obtain ⟨g3, h⟩ := gd_some h
      obtain ⟨D4, e5, h⟩ := lt_some h
      refine h_iast O hH ly_301 g3 e5 dX12_asks_108 (fun H locs hH => ?_)
      refine lv_aload_n hx hb dX12_asks_109 rfl (lv_at hl 0 rfl) ?_
      refine lv_iload_n hx hb dX12_asks_110 rfl (lv_at hl 1 rfl) ?_
      refine lv_iload_n hx hb dX12_asks_111 rfl (lv_at hl 2 rfl) ?_
      refine lv_iconst (v := 1) hx hb dX12_asks_112 (by decide) ?_
      refine lv_iadd hx hb dX12_asks_113 ?_
      refine lv_iload_n hx hb dX12_asks_114 rfl (lv_at hl 3 rfl) ?_
      refine lv_iload hx hb dX12_asks_115 (lv_at hl 4 rfl) ?_
      obtain ⟨D6, hc7, h⟩ := bV_some h
      refine h_callVv (As := [.int x1, .int (x2 + 1), .int x3, .int x4]) (rest := []) O hH (hself _ _ _ _ _ _ hc7) ml_X12_354 ly_281 rfl rfl hl.1 rfl ⟨by show _ ≤ dd + 1; omega, by show _ ≤ 64 * (dd + 1); omega⟩ (Nat.le_of_ble_eq_true rfl) dX12_asks_117 (fun H locs hH => ?_)
      exact w_X12_asks_120 hdd O hr hlk hself hk44 _ _ _ _ _ _ h _ _ _ hH (lv_sub hl [0, 1, 2, 3, 4, 5] rfl)
    · have h := it_neg h c2
      refine lv_goto (tgt := 120) hx hb dX12_asks_98 (by decide) ?_
      exact w_X12_asks_120 hdd O hr hlk hself hk44 _ _ _ _ _ _ h _ _ _ hH (lv_sub hl [0, 1, 2, 3, 4, 5] rfl)
  · have h := it_neg h c1
    refine lv_iload hx hb dX12_asks_63 (lv_at hl 6 rfl) ?_
    refine lv_if_ne (tgt := 80) hx hb dX12_asks_65 (by decide) (fun c8 => ?_) (fun c8 => ?_)
    · have h := it_neg h c8
      exact w_X12_asks_80 hdd O hr hlk hself hk44 hk57 _ _ _ _ _ _ _ h _ _ _ hH (lv_sub hl [0, 1, 2, 3, 4, 5, 7] rfl)
    · have h := it_pos h c8
      refine lv_aload_n hx hb dX12_asks_68 rfl (lv_at hl 0 rfl) ?_
      refine h_getr O hH ly_281 rfl fl_X12_75 dX12_asks_69 ?_
      refine lv_iload hx hb dX12_asks_72 (lv_at hl 7 rfl) ?_
      obtain ⟨g9, h⟩ := gd_some h
      refine h_iald O hH ly_301 g9 dX12_asks_74 ?_
      refine lv_iload hx hb dX12_asks_75 (lv_at hl 5 rfl) ?_
      refine lv_icmp_ne (tgt := 84) hx hb dX12_asks_77 (by decide) (fun c10 => ?_) (fun c10 => ?_)
      · have h := it_neg h c10
        refine lv_iconst (v := 0) hx hb dX12_asks_84 (by decide) ?_
        exact w_X12_asks_85 hdd O hr hlk hself hk44 hk57 _ _ _ _ _ _ _ _ h _ _ _ hH (lv_sub hl [0, 1, 2, 3, 4, 5, 7] rfl)
      · have h := it_pos h c10
        exact w_X12_asks_80 hdd O hr hlk hself hk44 hk57 _ _ _ _ _ _ _ h _ _ _ hH (lv_sub hl [0, 1, 2, 3, 4, 5, 7] rfl)
set_option maxHeartbeats 4000000 in
theorem w_X12_asks_57 {G : va_G} {tA : Nat → ClassId} {z : Nat} {E : Ex} {p : Program} {l : Launch} {e : Env} {s : State} {m : MethodId} {args : Array Value} {below : List Frame} {meth : Method} {c : Code} {D' : Dm} {dd : Nat} (hdd : 7 ≤ dd) (O : Ok G tA z E cX12_asks RX12 8 p s m args c) (hr : meth.sig.returnType = none) (hlk : meth.locks = false) {self : Int32 → Int32 → Int32 → Int32 → Dm → Option Dm} (hself : ∀ (x1 : Int32) (x2 : Int32) (x3 : Int32) (x4 : Int32) (D1 D2 : Dm), self x1 x2 x3 x4 D1 = some D2 → CtV l yX12_asks cX12_asks 8 G tA z E dd 0 0 [.ref (z + 281), .int x1, .int x2, .int x3, .int x4] LAY D1 LAY D2) {k44 : Int32 → Int32 → Int32 → Int32 → Int32 → Dm → Option Dm} (hk44 : ∀ (x1 : Int32) (x2 : Int32) (x3 : Int32) (x4 : Int32) (x5 : Int32) (D : Dm), k44 x1 x2 x3 x4 x5 D = some D' → BV G tA z E p l e (rmC (dd + 1) 0 0) s m args below meth c LAY D D' 8 44 [(0, .ref (z + 281)), (1, .int x1), (2, .int x2), (3, .int x3), (4, .int x4), (5, .int x5)] []) : ∀ (n : Nat) (x1 : Int32) (x2 : Int32) (x3 : Int32) (x4 : Int32) (x5 : Int32) (x6 : Int32) (x7 : Int32) (D : Dm) (h : f_X12_asks_57 self k44 n x1 x2 x3 x4 x5 x6 x7 D = some D'), BV G tA z E p l e (rmC (dd + 1) 0 0) s m args below meth c LAY D D' 8 57 [(0, .ref (z + 281)), (1, .int x1), (2, .int x2), (3, .int x3), (4, .int x4), (5, .int x5), (6, .int x6), (7, .int x7)] [] := by
  intro n
  induction n with
  | zero => intro x1 x2 x3 x4 x5 x6 x7 D h; exact no_some h
  | succ n ih => intro x1 x2 x3 x4 x5 x6 x7 D h; exact w_X12_asks_57_b hdd O hr hlk hself hk44 (fun x1 x2 x3 x4 x5 x6 x7 D h => ih x1 x2 x3 x4 x5 x6 x7 D h) x1 x2 x3 x4 x5 x6 x7 D h
set_option maxHeartbeats 4000000 in
theorem w_X12_asks_44_b {G : va_G} {tA : Nat → ClassId} {z : Nat} {E : Ex} {p : Program} {l : Launch} {e : Env} {s : State} {m : MethodId} {args : Array Value} {below : List Frame} {meth : Method} {c : Code} {D' : Dm} {dd : Nat} (hdd : 7 ≤ dd) (O : Ok G tA z E cX12_asks RX12 8 p s m args c) (hr : meth.sig.returnType = none) (hlk : meth.locks = false) {self : Int32 → Int32 → Int32 → Int32 → Dm → Option Dm} (hself : ∀ (x1 : Int32) (x2 : Int32) (x3 : Int32) (x4 : Int32) (D1 D2 : Dm), self x1 x2 x3 x4 D1 = some D2 → CtV l yX12_asks cX12_asks 8 G tA z E dd 0 0 [.ref (z + 281), .int x1, .int x2, .int x3, .int x4] LAY D1 LAY D2) {k44 : Int32 → Int32 → Int32 → Int32 → Int32 → Dm → Option Dm} (hk44 : ∀ (x1 : Int32) (x2 : Int32) (x3 : Int32) (x4 : Int32) (x5 : Int32) (D : Dm), k44 x1 x2 x3 x4 x5 D = some D' → BV G tA z E p l e (rmC (dd + 1) 0 0) s m args below meth c LAY D D' 8 44 [(0, .ref (z + 281)), (1, .int x1), (2, .int x2), (3, .int x3), (4, .int x4), (5, .int x5)] []) (x1 : Int32) (x2 : Int32) (x3 : Int32) (x4 : Int32) (x5 : Int32) (D : Dm) (h : f_X12_asks_44_b self k44 x1 x2 x3 x4 x5 D = some D') : BV G tA z E p l e (rmC (dd + 1) 0 0) s m args below meth c LAY D D' 8 44 [(0, .ref (z + 281)), (1, .int x1), (2, .int x2), (3, .int x3), (4, .int x4), (5, .int x5)] [] := by
  obtain ⟨hx, hb, -, hown, hts, -⟩ := id O
  unfold f_X12_asks_44_b at h
  intro H locs ls hH hl
  refine lv_iload hx hb dX12_asks_44 (lv_at hl 5 rfl) ?_
  refine lv_iload hx hb dX12_asks_46 (lv_at hl 4 rfl) ?_
  refine lv_icmp_ge (tgt := 126) hx hb dX12_asks_48 (by decide) (fun c1 => ?_) (fun c1 => ?_)
  · have h := it_pos h c1
    obtain rfl := ret_v h
    exact h_vret O hr hlk hH dX12_asks_126
  · have h := it_neg h c1
    refine lv_iconst (v := 0) hx hb dX12_asks_51 (by decide) ?_
    refine lv_istore (lv' := [(6, .int 0), (0, .ref (z + 281)), (1, .int x1), (2, .int x2), (3, .int x3), (4, .int x4), (5, .int x5)]) hx hb dX12_asks_52 hl (by decide) rfl (fun ls hl => ?_)
    refine lv_iconst (v := 0) hx hb dX12_asks_54 (by decide) ?_
    refine lv_istore (lv' := [(7, .int 0), (6, .int 0), (0, .ref (z + 281)), (1, .int x1), (2, .int x2), (3, .int x3), (4, .int x4), (5, .int x5)]) hx hb dX12_asks_55 hl (by decide) rfl (fun ls hl => ?_)
    exact w_X12_asks_57 hdd O hr hlk hself hk44 FU _ _ _ _ _ _ _ _ h _ _ _ hH (lv_sub hl [2, 3, 4, 5, 6, 7, 1, 0] rfl)
set_option maxHeartbeats 4000000 in
theorem w_X12_asks_44 {G : va_G} {tA : Nat → ClassId} {z : Nat} {E : Ex} {p : Program} {l : Launch} {e : Env} {s : State} {m : MethodId} {args : Array Value} {below : List Frame} {meth : Method} {c : Code} {D' : Dm} {dd : Nat} (hdd : 7 ≤ dd) (O : Ok G tA z E cX12_asks RX12 8 p s m args c) (hr : meth.sig.returnType = none) (hlk : meth.locks = false) {self : Int32 → Int32 → Int32 → Int32 → Dm → Option Dm} (hself : ∀ (x1 : Int32) (x2 : Int32) (x3 : Int32) (x4 : Int32) (D1 D2 : Dm), self x1 x2 x3 x4 D1 = some D2 → CtV l yX12_asks cX12_asks 8 G tA z E dd 0 0 [.ref (z + 281), .int x1, .int x2, .int x3, .int x4] LAY D1 LAY D2) : ∀ (n : Nat) (x1 : Int32) (x2 : Int32) (x3 : Int32) (x4 : Int32) (x5 : Int32) (D : Dm) (h : f_X12_asks_44 self n x1 x2 x3 x4 x5 D = some D'), BV G tA z E p l e (rmC (dd + 1) 0 0) s m args below meth c LAY D D' 8 44 [(0, .ref (z + 281)), (1, .int x1), (2, .int x2), (3, .int x3), (4, .int x4), (5, .int x5)] [] := by
  intro n
  induction n with
  | zero => intro x1 x2 x3 x4 x5 D h; exact no_some h
  | succ n ih => intro x1 x2 x3 x4 x5 D h; exact w_X12_asks_44_b hdd O hr hlk hself (fun x1 x2 x3 x4 x5 D h => ih x1 x2 x3 x4 x5 D h) x1 x2 x3 x4 x5 D h
set_option maxHeartbeats 4000000 in
theorem w_X12_asks {G : va_G} {tA : Nat → ClassId} {z : Nat} {E : Ex} {p : Program} {l : Launch} {e : Env} {s : State} {m : MethodId} {args : Array Value} {below : List Frame} {meth : Method} {c : Code} {D' : Dm} {dd : Nat} (hdd : 7 ≤ dd) (O : Ok G tA z E cX12_asks RX12 8 p s m args c) (hr : meth.sig.returnType = none) (hlk : meth.locks = false) {self : Int32 → Int32 → Int32 → Int32 → Dm → Option Dm} (hself : ∀ (x1 : Int32) (x2 : Int32) (x3 : Int32) (x4 : Int32) (D1 D2 : Dm), self x1 x2 x3 x4 D1 = some D2 → CtV l yX12_asks cX12_asks 8 G tA z E dd 0 0 [.ref (z + 281), .int x1, .int x2, .int x3, .int x4] LAY D1 LAY D2) (x1 : Int32) (x2 : Int32) (x3 : Int32) (x4 : Int32) (D : Dm) (h : f_X12_asks_e self x1 x2 x3 x4 D = some D') : BV G tA z E p l e (rmC (dd + 1) 0 0) s m args below meth c LAY D D' 8 0 [(0, .ref (z + 281)), (1, .int x1), (2, .int x2), (3, .int x3), (4, .int x4)] [] := by
  obtain ⟨hx, hb, -, hown, hts, -⟩ := id O
  unfold f_X12_asks_e at h
  intro H locs ls hH hl
  refine lv_aload_n hx hb dX12_asks_0 rfl (lv_at hl 0 rfl) ?_
  refine h_geti O hH ly_281 rfl fl_X12_348 dX12_asks_1 ?_
  refine lv_if_eq (tgt := 8) hx hb dX12_asks_4 (by decide) (fun c1 => ?_) (fun c1 => ?_)
  · have h := it_pos h c1
    refine lv_iload_n hx hb dX12_asks_8 rfl (lv_at hl 2 rfl) ?_
    refine lv_iload_n hx hb dX12_asks_9 rfl (lv_at hl 3 rfl) ?_
    refine lv_icmp_ne (tgt := 20) hx hb dX12_asks_10 (by decide) (fun c2 => ?_) (fun c2 => ?_)
    · have h := it_neg h c2
      refine lv_aload_n hx hb dX12_asks_20 rfl (lv_at hl 0 rfl) ?_
      refine h_getr O hH ly_281 rfl fl_X12_75 dX12_asks_21 ?_
      refine lv_iload_n hx hb dX12_asks_24 rfl (lv_at hl 2 rfl) ?_
      refine lv_bipush (v := 100) hx hb dX12_asks_25 (by decide) ?_
      refine lv_iload_n hx hb dX12_asks_27 rfl (lv_at hl 2 rfl) ?_
      refine lv_iadd hx hb dX12_asks_28 ?_
      obtain ⟨g3, h⟩ := gd_some h
      obtain ⟨D4, e5, h⟩ := lt_some h
      refine h_iast O hH ly_301 g3 e5 dX12_asks_29 (fun H locs hH => ?_)
      refine lv_aload_n hx hb dX12_asks_30 rfl (lv_at hl 0 rfl) ?_
      refine lv_iload_n hx hb dX12_asks_31 rfl (lv_at hl 1 rfl) ?_
      refine lv_iload_n hx hb dX12_asks_32 rfl (lv_at hl 2 rfl) ?_
      refine lv_iconst (v := 1) hx hb dX12_asks_33 (by decide) ?_
      refine lv_iadd hx hb dX12_asks_34 ?_
      refine lv_iload_n hx hb dX12_asks_35 rfl (lv_at hl 3 rfl) ?_
      refine lv_iload hx hb dX12_asks_36 (lv_at hl 4 rfl) ?_
      obtain ⟨D6, hc7, h⟩ := bV_some h
      refine h_callVv (As := [.int x1, .int (x2 + 1), .int x3, .int x4]) (rest := []) O hH (hself _ _ _ _ _ _ hc7) ml_X12_354 ly_281 rfl rfl hl.1 rfl ⟨by show _ ≤ dd + 1; omega, by show _ ≤ 64 * (dd + 1); omega⟩ (Nat.le_of_ble_eq_true rfl) dX12_asks_38 (fun H locs hH => ?_)
      refine lv_iconst (v := 0) hx hb dX12_asks_41 (by decide) ?_
      refine lv_istore (lv' := [(5, .int 0), (0, .ref (z + 281)), (1, .int x1), (2, .int x2), (3, .int x3), (4, .int x4)]) hx hb dX12_asks_42 hl (by decide) rfl (fun ls hl => ?_)
      exact w_X12_asks_44 hdd O hr hlk hself FU _ _ _ _ _ _ h _ _ _ hH (lv_sub hl [1, 2, 3, 4, 5, 0] rfl)
    · have h := it_pos h c2
      refine lv_aload_n hx hb dX12_asks_13 rfl (lv_at hl 0 rfl) ?_
      refine lv_iload_n hx hb dX12_asks_14 rfl (lv_at hl 1 rfl) ?_
      refine lv_iload_n hx hb dX12_asks_15 rfl (lv_at hl 3 rfl) ?_
      obtain ⟨D8, hc9, h⟩ := bV_some h
      refine h_callVv (As := [.int x1, .int x3]) (rest := []) O hH (c_X12_looksAt hc9) ml_X12_351 ly_281 rfl rfl hl.1 rfl ⟨by show _ ≤ dd + 1; omega, by show _ ≤ 64 * (dd + 1); omega⟩ (Nat.le_of_ble_eq_true rfl) dX12_asks_16 (fun H locs hH => ?_)
      obtain rfl := ret_v h
      exact h_vret O hr hlk hH dX12_asks_19
  · have h := it_neg h c1
    obtain rfl := ret_v h
    exact h_vret O hr hlk hH dX12_asks_7
set_option maxHeartbeats 4000000 in
theorem c_X12_asks_n {l : Launch} {G : va_G} {tA : Nat → ClassId} {z : Nat} {E : Ex} : ∀ (n : Nat) (x1 : Int32) (x2 : Int32) (x3 : Int32) (x4 : Int32) (D D' : Dm) , f_X12_asks n x1 x2 x3 x4 D = some D' → CtV l yX12_asks cX12_asks 8 G tA z E (7 + n) 0 0 [.ref (z + 281), .int x1, .int x2, .int x3, .int x4] LAY D LAY D' := by
  intro n
  induction n with
  | zero => intro x1 x2 x3 x4 D D' h; exact no_some h
  | succ n ih => intro x1 x2 x3 x4 D D' h; exact ct_BV (by decide +kernel) (Nat.le_of_ble_eq_true rfl) (fun _ _ _ _ _ _ _ _ O hr hlk => w_X12_asks (dd := 7 + n) (by omega) O hr hlk ih x1 x2 x3 x4 _ h)
set_option maxHeartbeats 4000000 in
theorem c_X12_asks {l : Launch} {G : va_G} {tA : Nat → ClassId} {z : Nat} {E : Ex} {x1 : Int32} {x2 : Int32} {x3 : Int32} {x4 : Int32} {D D' : Dm} (h : f_X12_asks RF x1 x2 x3 x4 D = some D') : CtV l yX12_asks cX12_asks 8 G tA z E (7 + RF) 0 0 [.ref (z + 281), .int x1, .int x2, .int x3, .int x4] LAY D LAY D' := c_X12_asks_n RF _ _ _ _ _ _ h
set_option maxHeartbeats 4000000 in
theorem w_X12_remembers_46_b {G : va_G} {tA : Nat → ClassId} {z : Nat} {E : Ex} {p : Program} {l : Launch} {e : Env} {s : State} {m : MethodId} {args : Array Value} {below : List Frame} {meth : Method} {c : Code} {r : Int32} {D' : Dm} (O : Ok G tA z E cX12_remembers RX12 5 p s m args c) (hr : meth.sig.returnType = some .int) (hlk : meth.locks = false) {k46 : Int32 → Int32 → Dm → Option (Int32 × Dm)} (hk46 : ∀ (x3 : Int32) (x4 : Int32) (D : Dm), k46 x3 x4 D = some (r, D') → BI G tA z E p l e (rmC 24 0 0) s m args below meth c LAY D r D' 5 46 [(0, .ref (z + 281)), (3, .int x3), (4, .int x4)] []) (x3 : Int32) (x4 : Int32) (D : Dm) (h : f_X12_remembers_46_b k46 x3 x4 D = some (r, D')) : BI G tA z E p l e (rmC 24 0 0) s m args below meth c LAY D r D' 5 46 [(0, .ref (z + 281)), (3, .int x3), (4, .int x4)] [] := by
  obtain ⟨hx, hb, -, hown, hts, -⟩ := id O
  unfold f_X12_remembers_46_b at h
  intro H locs ls hH hl
  refine lv_iload hx hb dX12_remembers_46 (lv_at hl 2 rfl) ?_
  refine lv_aload_n hx hb dX12_remembers_48 rfl (lv_at hl 0 rfl) ?_
  refine h_geti O hH ly_281 rfl fl_X12_313 dX12_remembers_49 ?_
  refine lv_icmp_ge (tgt := 75) hx hb dX12_remembers_52 (by decide) (fun c1 => ?_) (fun c1 => ?_)
  · have h := it_pos h c1
    refine lv_aload_n hx hb dX12_remembers_75 rfl (lv_at hl 0 rfl) ?_
    refine h_geti O hH ly_281 rfl fl_X12_360 dX12_remembers_76 ?_
    obtain ⟨rfl, rfl⟩ := ret_i h
    exact h_iret O hr hlk hH dX12_remembers_79
  · have h := it_neg h c1
    refine lv_aload_n hx hb dX12_remembers_55 rfl (lv_at hl 0 rfl) ?_
    refine lv_iload hx hb dX12_remembers_56 (lv_at hl 2 rfl) ?_
    refine lv_iconst (v := 0) hx hb dX12_remembers_58 (by decide) ?_
    refine lv_aload_n hx hb dX12_remembers_59 rfl (lv_at hl 0 rfl) ?_
    refine lv_iload hx hb dX12_remembers_60 (lv_at hl 2 rfl) ?_
    obtain ⟨y4, D2, hc3, h⟩ := bI_some h
    refine h_callVi (As := [.int x4]) (rest := [.int 0, .int x4, .ref (z + 281)]) O hH (c_X12_ownOf hc3) ml_X12_372 ly_281 rfl rfl hl.1 rfl ⟨Nat.le_of_ble_eq_true rfl, Nat.le_of_ble_eq_true rfl⟩ (Nat.le_of_ble_eq_true rfl) dX12_remembers_62 (fun H locs hH => ?_)
    refine lv_iload_n hx hb dX12_remembers_65 rfl (lv_at hl 1 rfl) ?_
    obtain ⟨D5, hc6, h⟩ := bV_some h
    refine h_callVv (As := [.int x4, .int 0, .int y4, .int x3]) (rest := []) O hH (c_X12_asks hc6) ml_X12_354 ly_281 rfl rfl hl.1 rfl ⟨Nat.le_of_ble_eq_true rfl, Nat.le_of_ble_eq_true rfl⟩ (Nat.le_of_ble_eq_true rfl) dX12_remembers_66 (fun H locs hH => ?_)
    obtain ⟨y7, e8, h⟩ := lt_some h
    refine lv_iinc (v := y7) (lv' := [(4, .int y7), (0, .ref (z + 281)), (3, .int x3)]) hx hb dX12_remembers_69 hl (k := 2) rfl (by rw [e8]; rfl) (by decide) rfl (fun ls hl => ?_)
    refine lv_goto (tgt := 46) hx hb dX12_remembers_72 (by decide) ?_
    exact hk46 _ _ _ h _ _ _ hH (lv_sub hl [1, 2, 0] rfl)
set_option maxHeartbeats 4000000 in
theorem w_X12_remembers_46 {G : va_G} {tA : Nat → ClassId} {z : Nat} {E : Ex} {p : Program} {l : Launch} {e : Env} {s : State} {m : MethodId} {args : Array Value} {below : List Frame} {meth : Method} {c : Code} {r : Int32} {D' : Dm} (O : Ok G tA z E cX12_remembers RX12 5 p s m args c) (hr : meth.sig.returnType = some .int) (hlk : meth.locks = false) : ∀ (n : Nat) (x3 : Int32) (x4 : Int32) (D : Dm) (h : f_X12_remembers_46 n x3 x4 D = some (r, D')), BI G tA z E p l e (rmC 24 0 0) s m args below meth c LAY D r D' 5 46 [(0, .ref (z + 281)), (3, .int x3), (4, .int x4)] [] := by
  intro n
  induction n with
  | zero => intro x3 x4 D h; exact no_some h
  | succ n ih => intro x3 x4 D h; exact w_X12_remembers_46_b O hr hlk (fun x3 x4 D h => ih x3 x4 D h) x3 x4 D h
set_option maxHeartbeats 4000000 in
theorem w_X12_remembers {G : va_G} {tA : Nat → ClassId} {z : Nat} {E : Ex} {p : Program} {l : Launch} {e : Env} {s : State} {m : MethodId} {args : Array Value} {below : List Frame} {meth : Method} {c : Code} {r : Int32} {D' : Dm} (O : Ok G tA z E cX12_remembers RX12 5 p s m args c) (hr : meth.sig.returnType = some .int) (hlk : meth.locks = false) (x1 : Int32) (x2 : Int32) (D : Dm) (h : f_X12_remembers x1 x2 D = some (r, D')) : BI G tA z E p l e (rmC 24 0 0) s m args below meth c LAY D r D' 5 0 [(0, .ref (z + 281)), (1, .int x1), (2, .int x2)] [] := by
  obtain ⟨hx, hb, -, hown, hts, -⟩ := id O
  unfold f_X12_remembers at h
  intro H locs ls hH hl
  refine lv_aload_n hx hb dX12_remembers_0 rfl (lv_at hl 0 rfl) ?_
  refine lv_iload_n hx hb dX12_remembers_1 rfl (lv_at hl 1 rfl) ?_
  obtain ⟨D1, e2, h⟩ := lt_some h
  refine h_puti O hH ly_281 rfl fl_X12_360 e2 dX12_remembers_2 (fun H locs hH => ?_)
  refine lv_aload_n hx hb dX12_remembers_5 rfl (lv_at hl 0 rfl) ?_
  refine lv_iconst (v := (-1)) hx hb dX12_remembers_6 (by decide) ?_
  obtain ⟨D3, e4, h⟩ := lt_some h
  refine h_puti O hH ly_281 rfl fl_X12_363 e4 dX12_remembers_7 (fun H locs hH => ?_)
  refine lv_aload_n hx hb dX12_remembers_10 rfl (lv_at hl 0 rfl) ?_
  refine lv_iconst (v := 0) hx hb dX12_remembers_11 (by decide) ?_
  obtain ⟨D5, e6, h⟩ := lt_some h
  refine h_putz O hH ly_281 rfl fl_X12_348 zb_0 e6 dX12_remembers_12 (fun H locs hH => ?_)
  refine lv_iload_n hx hb dX12_remembers_15 rfl (lv_at hl 2 rfl) ?_
  refine lv_aload_n hx hb dX12_remembers_16 rfl (lv_at hl 0 rfl) ?_
  refine h_geti O hH ly_281 rfl fl_X12_313 dX12_remembers_17 ?_
  refine lv_icmp_ne (tgt := 25) hx hb dX12_remembers_20 (by decide) (fun c7 => ?_) (fun c7 => ?_)
  · have h := it_neg h c7
    refine lv_aload_n hx hb dX12_remembers_25 rfl (lv_at hl 0 rfl) ?_
    refine lv_aload_n hx hb dX12_remembers_26 rfl (lv_at hl 0 rfl) ?_
    refine h_getr O hH ly_281 rfl fl_X12_72 dX12_remembers_27 ?_
    refine lv_iconst (v := 0) hx hb dX12_remembers_30 (by decide) ?_
    refine lv_aload_n hx hb dX12_remembers_31 rfl (lv_at hl 0 rfl) ?_
    refine h_geti O hH ly_281 rfl fl_X12_319 dX12_remembers_32 ?_
    obtain ⟨y10, D8, hc9, h⟩ := bI_some h
    refine h_callVi (As := [.ref (z + 300), .int 0, .int (D5 281 36)]) (rest := []) O hH (c_X12_namesOf ly_300 hc9) ml_X12_328 ly_281 rfl rfl hl.1 rfl ⟨Nat.le_of_ble_eq_true rfl, Nat.le_of_ble_eq_true rfl⟩ (Nat.le_of_ble_eq_true rfl) dX12_remembers_35 (fun H locs hH => ?_)
    refine lv_istore_n (lv' := [(3, .int y10), (0, .ref (z + 281)), (1, .int x1), (2, .int x2)]) hx hb dX12_remembers_38 rfl hl (by decide) rfl (fun ls hl => ?_)
    refine lv_aload_n hx hb dX12_remembers_39 rfl (lv_at hl 1 rfl) ?_
    obtain ⟨D11, hc12, h⟩ := bV_some h
    refine h_callVv (As := []) (rest := []) O hH (c_X12_keepsOne hc12) ml_X12_369 ly_281 rfl rfl hl.1 rfl ⟨Nat.le_of_ble_eq_true rfl, Nat.le_of_ble_eq_true rfl⟩ (Nat.le_of_ble_eq_true rfl) dX12_remembers_40 (fun H locs hH => ?_)
    refine lv_iload_n hx hb dX12_remembers_43 rfl (lv_at hl 3 rfl) ?_
    refine lv_istore (lv' := [(4, .int x2), (3, .int y10), (0, .ref (z + 281)), (1, .int x1), (2, .int x2)]) hx hb dX12_remembers_44 hl (by decide) rfl (fun ls hl => ?_)
    exact w_X12_remembers_46 O hr hlk FU _ _ _ h _ _ _ hH (lv_sub hl [2, 1, 0] rfl)
  · have h := it_pos h c7
    refine lv_iload_n hx hb dX12_remembers_23 rfl (lv_at hl 1 rfl) ?_
    obtain ⟨rfl, rfl⟩ := ret_i h
    exact h_iret O hr hlk hH dX12_remembers_24
set_option maxHeartbeats 4000000 in
theorem c_X12_remembers {l : Launch} {G : va_G} {tA : Nat → ClassId} {z : Nat} {E : Ex} {x1 : Int32} {x2 : Int32} {D D' : Dm} {r : Int32} (h : f_X12_remembers x1 x2 D = some (r, D')) : CtI l yX12_remembers cX12_remembers 5 (some .int) G tA z E 24 0 0 [.ref (z + 281), .int x1, .int x2] LAY D r LAY D' :=
  ct_BI (by decide +kernel) (Nat.le_of_ble_eq_true rfl) (fun _ _ _ _ _ _ _ _ O hr hlk => w_X12_remembers O hr hlk _ _ _ h)
set_option maxHeartbeats 4000000 in
theorem w_X12_shows_35_b {G : va_G} {tA : Nat → ClassId} {z : Nat} {E : Ex} {p : Program} {l : Launch} {e : Env} {s : State} {m : MethodId} {args : Array Value} {below : List Frame} {meth : Method} {c : Code} {D' : Dm} (O : Ok G tA z E cX12_shows RX12 4 p s m args c) (hr : meth.sig.returnType = none) (hlk : meth.locks = false) {k35 : Int32 → Int32 → Dm → Option Dm} (hk35 : ∀ (x2 : Int32) (x3 : Int32) (D : Dm), k35 x2 x3 D = some D' → BV G tA z E p l e (rmC 24 0 0) s m args below meth c LAY D D' 4 35 [(0, .ref (z + 281)), (2, .int x2), (3, .int x3)] []) (x2 : Int32) (x3 : Int32) (D : Dm) (h : f_X12_shows_35_b k35 x2 x3 D = some D') : BV G tA z E p l e (rmC 24 0 0) s m args below meth c LAY D D' 4 35 [(0, .ref (z + 281)), (2, .int x2), (3, .int x3)] [] := by
  obtain ⟨hx, hb, -, hown, hts, -⟩ := id O
  unfold f_X12_shows_35_b at h
  intro H locs ls hH hl
  refine lv_iload_n hx hb dX12_shows_35 rfl (lv_at hl 2 rfl) ?_
  refine lv_aload_n hx hb dX12_shows_36 rfl (lv_at hl 0 rfl) ?_
  refine h_geti O hH ly_281 rfl fl_X12_313 dX12_shows_37 ?_
  refine lv_icmp_ge (tgt := 68) hx hb dX12_shows_40 (by decide) (fun c1 => ?_) (fun c1 => ?_)
  · have h := it_pos h c1
    obtain rfl := ret_v h
    exact h_vret O hr hlk hH dX12_shows_68
  · have h := it_neg h c1
    refine lv_aload_n hx hb dX12_shows_43 rfl (lv_at hl 0 rfl) ?_
    refine h_geti O hH ly_281 rfl fl_X12_348 dX12_shows_44 ?_
    refine lv_if_ne (tgt := 68) hx hb dX12_shows_47 (by decide) (fun c2 => ?_) (fun c2 => ?_)
    · have h := it_neg h c2
      obtain rfl := ret_v h
      exact h_vret O hr hlk hH dX12_shows_68
    · have h := it_pos h c2
      refine lv_aload_n hx hb dX12_shows_50 rfl (lv_at hl 0 rfl) ?_
      refine lv_iload_n hx hb dX12_shows_51 rfl (lv_at hl 2 rfl) ?_
      refine lv_iconst (v := 0) hx hb dX12_shows_52 (by decide) ?_
      refine lv_aload_n hx hb dX12_shows_53 rfl (lv_at hl 0 rfl) ?_
      refine lv_iload_n hx hb dX12_shows_54 rfl (lv_at hl 2 rfl) ?_
      obtain ⟨y5, D3, hc4, h⟩ := bI_some h
      refine h_callVi (As := [.int x3]) (rest := [.int 0, .int x3, .ref (z + 281)]) O hH (c_X12_ownOf hc4) ml_X12_372 ly_281 rfl rfl hl.1 rfl ⟨Nat.le_of_ble_eq_true rfl, Nat.le_of_ble_eq_true rfl⟩ (Nat.le_of_ble_eq_true rfl) dX12_shows_55 (fun H locs hH => ?_)
      refine lv_iload_n hx hb dX12_shows_58 rfl (lv_at hl 1 rfl) ?_
      obtain ⟨D6, hc7, h⟩ := bV_some h
      refine h_callVv (As := [.int x3, .int 0, .int y5, .int x2]) (rest := []) O hH (c_X12_asks hc7) ml_X12_354 ly_281 rfl rfl hl.1 rfl ⟨Nat.le_of_ble_eq_true rfl, Nat.le_of_ble_eq_true rfl⟩ (Nat.le_of_ble_eq_true rfl) dX12_shows_59 (fun H locs hH => ?_)
      obtain ⟨y8, e9, h⟩ := lt_some h
      refine lv_iinc (v := y8) (lv' := [(3, .int y8), (0, .ref (z + 281)), (2, .int x2)]) hx hb dX12_shows_62 hl (k := 2) rfl (by rw [e9]; rfl) (by decide) rfl (fun ls hl => ?_)
      refine lv_goto (tgt := 35) hx hb dX12_shows_65 (by decide) ?_
      exact hk35 _ _ _ h _ _ _ hH (lv_sub hl [1, 2, 0] rfl)
set_option maxHeartbeats 4000000 in
theorem w_X12_shows_35 {G : va_G} {tA : Nat → ClassId} {z : Nat} {E : Ex} {p : Program} {l : Launch} {e : Env} {s : State} {m : MethodId} {args : Array Value} {below : List Frame} {meth : Method} {c : Code} {D' : Dm} (O : Ok G tA z E cX12_shows RX12 4 p s m args c) (hr : meth.sig.returnType = none) (hlk : meth.locks = false) : ∀ (n : Nat) (x2 : Int32) (x3 : Int32) (D : Dm) (h : f_X12_shows_35 n x2 x3 D = some D'), BV G tA z E p l e (rmC 24 0 0) s m args below meth c LAY D D' 4 35 [(0, .ref (z + 281)), (2, .int x2), (3, .int x3)] [] := by
  intro n
  induction n with
  | zero => intro x2 x3 D h; exact no_some h
  | succ n ih => intro x2 x3 D h; exact w_X12_shows_35_b O hr hlk (fun x2 x3 D h => ih x2 x3 D h) x2 x3 D h
set_option maxHeartbeats 4000000 in
theorem w_X12_shows {G : va_G} {tA : Nat → ClassId} {z : Nat} {E : Ex} {p : Program} {l : Launch} {e : Env} {s : State} {m : MethodId} {args : Array Value} {below : List Frame} {meth : Method} {c : Code} {D' : Dm} (O : Ok G tA z E cX12_shows RX12 4 p s m args c) (hr : meth.sig.returnType = none) (hlk : meth.locks = false) (x1 : Int32) (D : Dm) (h : f_X12_shows x1 D = some D') : BV G tA z E p l e (rmC 24 0 0) s m args below meth c LAY D D' 4 0 [(0, .ref (z + 281)), (1, .int x1)] [] := by
  obtain ⟨hx, hb, -, hown, hts, -⟩ := id O
  unfold f_X12_shows at h
  intro H locs ls hH hl
  refine lv_aload_n hx hb dX12_shows_0 rfl (lv_at hl 0 rfl) ?_
  refine lv_iconst (v := 0) hx hb dX12_shows_1 (by decide) ?_
  obtain ⟨D1, e2, h⟩ := lt_some h
  refine h_puti O hH ly_281 rfl fl_X12_360 e2 dX12_shows_2 (fun H locs hH => ?_)
  refine lv_aload_n hx hb dX12_shows_5 rfl (lv_at hl 0 rfl) ?_
  refine lv_iload_n hx hb dX12_shows_6 rfl (lv_at hl 1 rfl) ?_
  obtain ⟨D3, e4, h⟩ := lt_some h
  refine h_puti O hH ly_281 rfl fl_X12_363 e4 dX12_shows_7 (fun H locs hH => ?_)
  refine lv_aload_n hx hb dX12_shows_10 rfl (lv_at hl 0 rfl) ?_
  refine lv_iconst (v := 0) hx hb dX12_shows_11 (by decide) ?_
  obtain ⟨D5, e6, h⟩ := lt_some h
  refine h_putz O hH ly_281 rfl fl_X12_348 zb_0 e6 dX12_shows_12 (fun H locs hH => ?_)
  refine lv_aload_n hx hb dX12_shows_15 rfl (lv_at hl 0 rfl) ?_
  refine lv_aload_n hx hb dX12_shows_16 rfl (lv_at hl 0 rfl) ?_
  refine h_getr O hH ly_281 rfl fl_X12_72 dX12_shows_17 ?_
  refine lv_iconst (v := 0) hx hb dX12_shows_20 (by decide) ?_
  refine lv_aload_n hx hb dX12_shows_21 rfl (lv_at hl 0 rfl) ?_
  refine h_geti O hH ly_281 rfl fl_X12_319 dX12_shows_22 ?_
  obtain ⟨y9, D7, hc8, h⟩ := bI_some h
  refine h_callVi (As := [.ref (z + 300), .int 0, .int (D5 281 36)]) (rest := []) O hH (c_X12_namesOf ly_300 hc8) ml_X12_328 ly_281 rfl rfl hl.1 rfl ⟨Nat.le_of_ble_eq_true rfl, Nat.le_of_ble_eq_true rfl⟩ (Nat.le_of_ble_eq_true rfl) dX12_shows_25 (fun H locs hH => ?_)
  refine lv_istore_n (lv' := [(2, .int y9), (0, .ref (z + 281)), (1, .int x1)]) hx hb dX12_shows_28 rfl hl (by decide) rfl (fun ls hl => ?_)
  refine lv_aload_n hx hb dX12_shows_29 rfl (lv_at hl 1 rfl) ?_
  obtain ⟨D10, hc11, h⟩ := bV_some h
  refine h_callVv (As := []) (rest := []) O hH (c_X12_keepsOne hc11) ml_X12_369 ly_281 rfl rfl hl.1 rfl ⟨Nat.le_of_ble_eq_true rfl, Nat.le_of_ble_eq_true rfl⟩ (Nat.le_of_ble_eq_true rfl) dX12_shows_30 (fun H locs hH => ?_)
  refine lv_iconst (v := 0) hx hb dX12_shows_33 (by decide) ?_
  refine lv_istore_n (lv' := [(3, .int 0), (2, .int y9), (0, .ref (z + 281)), (1, .int x1)]) hx hb dX12_shows_34 rfl hl (by decide) rfl (fun ls hl => ?_)
  exact w_X12_shows_35 O hr hlk FU _ _ _ h _ _ _ hH (lv_sub hl [2, 1, 0] rfl)
set_option maxHeartbeats 4000000 in
theorem c_X12_shows {l : Launch} {G : va_G} {tA : Nat → ClassId} {z : Nat} {E : Ex} {x1 : Int32} {D D' : Dm} (h : f_X12_shows x1 D = some D') : CtV l yX12_shows cX12_shows 4 G tA z E 24 0 0 [.ref (z + 281), .int x1] LAY D LAY D' :=
  ct_BV (by decide +kernel) (Nat.le_of_ble_eq_true rfl) (fun _ _ _ _ _ _ _ _ O hr hlk => w_X12_shows O hr hlk _ _ h)
set_option maxHeartbeats 4000000 in
theorem w_X12_hasShort_50 {G : va_G} {tA : Nat → ClassId} {z : Nat} {E : Ex} {p : Program} {l : Launch} {e : Env} {s : State} {m : MethodId} {args : Array Value} {below : List Frame} {meth : Method} {c : Code} {r : Int32} {D' : Dm} (O : Ok G tA z E cX12_hasShort RX12 2 p s m args c) (hr : meth.sig.returnType = some .int) (hlk : meth.locks = false) (x1 : Int32) (D : Dm) (h : f_X12_hasShort_50 x1 D = some (r, D')) : BI G tA z E p l e (rmC 25 0 0) s m args below meth c LAY D r D' 2 50 [(0, .ref (z + 281)), (1, .int x1)] [] := by
  obtain ⟨hx, hb, -, hown, hts, -⟩ := id O
  unfold f_X12_hasShort_50 at h
  intro H locs ls hH hl
  refine lv_aload_n hx hb dX12_hasShort_50 rfl (lv_at hl 0 rfl) ?_
  refine h_getr O hH ly_281 rfl fl_X12_57 dX12_hasShort_51 ?_
  refine lv_iload_n hx hb dX12_hasShort_54 rfl (lv_at hl 1 rfl) ?_
  obtain ⟨g1, h⟩ := gd_some h
  refine h_iald O hH ly_295 g1 dX12_hasShort_55 ?_
  obtain ⟨rfl, rfl⟩ := ret_i h
  exact h_iret O hr hlk hH dX12_hasShort_56
set_option maxHeartbeats 4000000 in
theorem w_X12_hasShort {G : va_G} {tA : Nat → ClassId} {z : Nat} {E : Ex} {p : Program} {l : Launch} {e : Env} {s : State} {m : MethodId} {args : Array Value} {below : List Frame} {meth : Method} {c : Code} {r : Int32} {D' : Dm} (O : Ok G tA z E cX12_hasShort RX12 2 p s m args c) (hr : meth.sig.returnType = some .int) (hlk : meth.locks = false) (x1 : Int32) (D : Dm) (h : f_X12_hasShort x1 D = some (r, D')) : BI G tA z E p l e (rmC 25 0 0) s m args below meth c LAY D r D' 2 0 [(0, .ref (z + 281)), (1, .int x1)] [] := by
  obtain ⟨hx, hb, -, hown, hts, -⟩ := id O
  unfold f_X12_hasShort at h
  intro H locs ls hH hl
  refine lv_aload_n hx hb dX12_hasShort_0 rfl (lv_at hl 0 rfl) ?_
  refine h_getr O hH ly_281 rfl fl_X12_60 dX12_hasShort_1 ?_
  refine lv_iload_n hx hb dX12_hasShort_4 rfl (lv_at hl 1 rfl) ?_
  obtain ⟨g1, h⟩ := gd_some h
  refine h_iald O hH ly_296 g1 dX12_hasShort_5 ?_
  refine lv_aload_n hx hb dX12_hasShort_6 rfl (lv_at hl 0 rfl) ?_
  refine h_geti O hH ly_281 rfl fl_X12_313 dX12_hasShort_7 ?_
  refine lv_icmp_ge (tgt := 50) hx hb dX12_hasShort_10 (by decide) (fun c2 => ?_) (fun c2 => ?_)
  · have h := it_pos h c2
    exact w_X12_hasShort_50 O hr hlk _ _ h _ _ _ hH (lv_sub hl [0, 1] rfl)
  · have h := it_neg h c2
    refine lv_aload_n hx hb dX12_hasShort_13 rfl (lv_at hl 0 rfl) ?_
    refine lv_iload_n hx hb dX12_hasShort_14 rfl (lv_at hl 1 rfl) ?_
    obtain ⟨D3, hc4, h⟩ := bV_some h
    refine h_callVv (As := [.int x1]) (rest := []) O hH (c_X12_takesShort hc4) ml_X12_322 ly_281 rfl rfl hl.1 rfl ⟨Nat.le_of_ble_eq_true rfl, Nat.le_of_ble_eq_true rfl⟩ (Nat.le_of_ble_eq_true rfl) dX12_hasShort_15 (fun H locs hH => ?_)
    refine lv_aload_n hx hb dX12_hasShort_18 rfl (lv_at hl 0 rfl) ?_
    refine h_getr O hH ly_281 rfl fl_X12_57 dX12_hasShort_19 ?_
    refine lv_iload_n hx hb dX12_hasShort_22 rfl (lv_at hl 1 rfl) ?_
    refine lv_aload_n hx hb dX12_hasShort_23 rfl (lv_at hl 0 rfl) ?_
    refine lv_aload_n hx hb dX12_hasShort_24 rfl (lv_at hl 0 rfl) ?_
    refine h_getr O hH ly_281 rfl fl_X12_57 dX12_hasShort_25 ?_
    refine lv_iload_n hx hb dX12_hasShort_28 rfl (lv_at hl 1 rfl) ?_
    obtain ⟨g5, h⟩ := gd_some h
    refine h_iald O hH ly_295 g5 dX12_hasShort_29 ?_
    refine lv_aload_n hx hb dX12_hasShort_30 rfl (lv_at hl 0 rfl) ?_
    refine h_getr O hH ly_281 rfl fl_X12_60 dX12_hasShort_31 ?_
    refine lv_iload_n hx hb dX12_hasShort_34 rfl (lv_at hl 1 rfl) ?_
    obtain ⟨g6, h⟩ := gd_some h
    refine h_iald O hH ly_296 g6 dX12_hasShort_35 ?_
    obtain ⟨y9, D7, hc8, h⟩ := bI_some h
    refine h_callVi (As := [.int (D3 295 (Int32.toNatClampNeg x1)), .int (D3 296 (Int32.toNatClampNeg x1))]) (rest := [.int x1, .ref (z + 295)]) O hH (c_X12_remembers hc8) ml_X12_375 ly_281 rfl rfl hl.1 rfl ⟨Nat.le_of_ble_eq_true rfl, Nat.le_of_ble_eq_true rfl⟩ (Nat.le_of_ble_eq_true rfl) dX12_hasShort_36 (fun H locs hH => ?_)
    obtain ⟨g10, h⟩ := gd_some h
    obtain ⟨D11, e12, h⟩ := lt_some h
    refine h_iast O hH ly_295 g10 e12 dX12_hasShort_39 (fun H locs hH => ?_)
    refine lv_aload_n hx hb dX12_hasShort_40 rfl (lv_at hl 0 rfl) ?_
    refine h_getr O hH ly_281 rfl fl_X12_60 dX12_hasShort_41 ?_
    refine lv_iload_n hx hb dX12_hasShort_44 rfl (lv_at hl 1 rfl) ?_
    refine lv_aload_n hx hb dX12_hasShort_45 rfl (lv_at hl 0 rfl) ?_
    refine h_geti O hH ly_281 rfl fl_X12_313 dX12_hasShort_46 ?_
    obtain ⟨g13, h⟩ := gd_some h
    obtain ⟨D14, e15, h⟩ := lt_some h
    refine h_iast O hH ly_296 g13 e15 dX12_hasShort_49 (fun H locs hH => ?_)
    exact w_X12_hasShort_50 O hr hlk _ _ h _ _ _ hH (lv_sub hl [0, 1] rfl)
set_option maxHeartbeats 4000000 in
theorem c_X12_hasShort {l : Launch} {G : va_G} {tA : Nat → ClassId} {z : Nat} {E : Ex} {x1 : Int32} {D D' : Dm} {r : Int32} (h : f_X12_hasShort x1 D = some (r, D')) : CtI l yX12_hasShort cX12_hasShort 2 (some .int) G tA z E 25 0 0 [.ref (z + 281), .int x1] LAY D r LAY D' :=
  ct_BI (by decide +kernel) (Nat.le_of_ble_eq_true rfl) (fun _ _ _ _ _ _ _ _ O hr hlk => w_X12_hasShort O hr hlk _ _ h)
set_option maxHeartbeats 4000000 in
theorem w_X12_longAt {G : va_G} {tA : Nat → ClassId} {z : Nat} {E : Ex} {p : Program} {l : Launch} {e : Env} {s : State} {m : MethodId} {args : Array Value} {below : List Frame} {meth : Method} {c : Code} {r : Int32} {D' : Dm} (O : Ok G tA z E cX12_longAt RX12 3 p s m args c) (hr : meth.sig.returnType = some .int) (hlk : meth.locks = false) (x0 : Int32) (x1 : Int32) (x2 : Int32) (D : Dm) (h : f_X12_longAt x0 x1 x2 D = some (r, D')) : BI G tA z E p l e (rmC 1 0 0) s m args below meth c LAY D r D' 3 0 [(0, .int x0), (1, .int x1), (2, .int x2)] [] := by
  obtain ⟨hx, hb, -, hown, hts, -⟩ := id O
  unfold f_X12_longAt at h
  intro H locs ls hH hl
  refine lv_bipush (v := 8) hx hb dX12_longAt_0 (by decide) ?_
  refine lv_iload_n hx hb dX12_longAt_2 rfl (lv_at hl 0 rfl) ?_
  refine lv_imul hx hb dX12_longAt_3 ?_
  refine lv_iconst (v := 4) hx hb dX12_longAt_4 (by decide) ?_
  refine lv_iload_n hx hb dX12_longAt_5 rfl (lv_at hl 1 rfl) ?_
  refine lv_imul hx hb dX12_longAt_6 ?_
  refine lv_iadd hx hb dX12_longAt_7 ?_
  refine lv_iload_n hx hb dX12_longAt_8 rfl (lv_at hl 2 rfl) ?_
  refine lv_iadd hx hb dX12_longAt_9 ?_
  obtain ⟨rfl, rfl⟩ := ret_i h
  exact h_iret O hr hlk hH dX12_longAt_10
set_option maxHeartbeats 4000000 in
theorem c_X12_longAt {l : Launch} {G : va_G} {tA : Nat → ClassId} {z : Nat} {E : Ex} {x0 : Int32} {x1 : Int32} {x2 : Int32} {D D' : Dm} {r : Int32} (h : f_X12_longAt x0 x1 x2 D = some (r, D')) : CtI l yX12_longAt cX12_longAt 3 (some .int) G tA z E 1 0 0 [.int x0, .int x1, .int x2] LAY D r LAY D' :=
  ct_BI (by decide +kernel) (Nat.le_of_ble_eq_true rfl) (fun _ _ _ _ _ _ _ _ O hr hlk => w_X12_longAt O hr hlk _ _ _ _ h)
set_option maxHeartbeats 4000000 in
theorem w_X12_hasLong_65 {G : va_G} {tA : Nat → ClassId} {z : Nat} {E : Ex} {p : Program} {l : Launch} {e : Env} {s : State} {m : MethodId} {args : Array Value} {below : List Frame} {meth : Method} {c : Code} {r : Int32} {D' : Dm} (O : Ok G tA z E cX12_hasLong RX12 5 p s m args c) (hr : meth.sig.returnType = some .int) (hlk : meth.locks = false) (x4 : Int32) (D : Dm) (h : f_X12_hasLong_65 x4 D = some (r, D')) : BI G tA z E p l e (rmC 25 0 0) s m args below meth c LAY D r D' 5 65 [(0, .ref (z + 281)), (4, .int x4)] [] := by
  obtain ⟨hx, hb, -, hown, hts, -⟩ := id O
  unfold f_X12_hasLong_65 at h
  intro H locs ls hH hl
  refine lv_aload_n hx hb dX12_hasLong_65 rfl (lv_at hl 0 rfl) ?_
  refine h_getr O hH ly_281 rfl fl_X12_63 dX12_hasLong_66 ?_
  refine lv_iload hx hb dX12_hasLong_69 (lv_at hl 1 rfl) ?_
  obtain ⟨g1, h⟩ := gd_some h
  refine h_iald O hH ly_297 g1 dX12_hasLong_71 ?_
  obtain ⟨rfl, rfl⟩ := ret_i h
  exact h_iret O hr hlk hH dX12_hasLong_72
set_option maxHeartbeats 4000000 in
theorem w_X12_hasLong {G : va_G} {tA : Nat → ClassId} {z : Nat} {E : Ex} {p : Program} {l : Launch} {e : Env} {s : State} {m : MethodId} {args : Array Value} {below : List Frame} {meth : Method} {c : Code} {r : Int32} {D' : Dm} (O : Ok G tA z E cX12_hasLong RX12 5 p s m args c) (hr : meth.sig.returnType = some .int) (hlk : meth.locks = false) (x1 : Int32) (x2 : Int32) (x3 : Int32) (D : Dm) (h : f_X12_hasLong x1 x2 x3 D = some (r, D')) : BI G tA z E p l e (rmC 25 0 0) s m args below meth c LAY D r D' 5 0 [(0, .ref (z + 281)), (1, .int x1), (2, .int x2), (3, .int x3)] [] := by
  obtain ⟨hx, hb, -, hown, hts, -⟩ := id O
  unfold f_X12_hasLong at h
  intro H locs ls hH hl
  refine lv_iload_n hx hb dX12_hasLong_0 rfl (lv_at hl 1 rfl) ?_
  refine lv_iload_n hx hb dX12_hasLong_1 rfl (lv_at hl 2 rfl) ?_
  refine lv_iload_n hx hb dX12_hasLong_2 rfl (lv_at hl 3 rfl) ?_
  obtain ⟨y3, D1, hc2, h⟩ := bI_some h
  refine h_callSi (As := [.int x1, .int x2, .int x3]) (rest := []) O hH (c_X12_longAt hc2) ml_X12_378 rfl hl.1 rfl ⟨Nat.le_of_ble_eq_true rfl, Nat.le_of_ble_eq_true rfl⟩ (Nat.le_of_ble_eq_true rfl) dX12_hasLong_3 (fun H locs hH => ?_)
  refine lv_istore (lv' := [(4, .int y3), (0, .ref (z + 281)), (1, .int x1), (2, .int x2), (3, .int x3)]) hx hb dX12_hasLong_6 hl (by decide) rfl (fun ls hl => ?_)
  refine lv_aload_n hx hb dX12_hasLong_8 rfl (lv_at hl 1 rfl) ?_
  refine h_getr O hH ly_281 rfl fl_X12_66 dX12_hasLong_9 ?_
  refine lv_iload hx hb dX12_hasLong_12 (lv_at hl 0 rfl) ?_
  obtain ⟨g4, h⟩ := gd_some h
  refine h_iald O hH ly_298 g4 dX12_hasLong_14 ?_
  refine lv_aload_n hx hb dX12_hasLong_15 rfl (lv_at hl 1 rfl) ?_
  refine h_geti O hH ly_281 rfl fl_X12_313 dX12_hasLong_16 ?_
  refine lv_icmp_ge (tgt := 65) hx hb dX12_hasLong_19 (by decide) (fun c5 => ?_) (fun c5 => ?_)
  · have h := it_pos h c5
    exact w_X12_hasLong_65 O hr hlk _ _ h _ _ _ hH (lv_sub hl [1, 0] rfl)
  · have h := it_neg h c5
    refine lv_aload_n hx hb dX12_hasLong_22 rfl (lv_at hl 1 rfl) ?_
    refine lv_iload_n hx hb dX12_hasLong_23 rfl (lv_at hl 2 rfl) ?_
    refine lv_iload_n hx hb dX12_hasLong_24 rfl (lv_at hl 3 rfl) ?_
    refine lv_iload_n hx hb dX12_hasLong_25 rfl (lv_at hl 4 rfl) ?_
    obtain ⟨D6, hc7, h⟩ := bV_some h
    refine h_callVv (As := [.int x1, .int x2, .int x3]) (rest := []) O hH (c_X12_takesLong hc7) ml_X12_381 ly_281 rfl rfl hl.1 rfl ⟨Nat.le_of_ble_eq_true rfl, Nat.le_of_ble_eq_true rfl⟩ (Nat.le_of_ble_eq_true rfl) dX12_hasLong_26 (fun H locs hH => ?_)
    refine lv_aload_n hx hb dX12_hasLong_29 rfl (lv_at hl 1 rfl) ?_
    refine h_getr O hH ly_281 rfl fl_X12_63 dX12_hasLong_30 ?_
    refine lv_iload hx hb dX12_hasLong_33 (lv_at hl 0 rfl) ?_
    refine lv_aload_n hx hb dX12_hasLong_35 rfl (lv_at hl 1 rfl) ?_
    refine lv_aload_n hx hb dX12_hasLong_36 rfl (lv_at hl 1 rfl) ?_
    refine h_getr O hH ly_281 rfl fl_X12_63 dX12_hasLong_37 ?_
    refine lv_iload hx hb dX12_hasLong_40 (lv_at hl 0 rfl) ?_
    obtain ⟨g8, h⟩ := gd_some h
    refine h_iald O hH ly_297 g8 dX12_hasLong_42 ?_
    refine lv_aload_n hx hb dX12_hasLong_43 rfl (lv_at hl 1 rfl) ?_
    refine h_getr O hH ly_281 rfl fl_X12_66 dX12_hasLong_44 ?_
    refine lv_iload hx hb dX12_hasLong_47 (lv_at hl 0 rfl) ?_
    obtain ⟨g9, h⟩ := gd_some h
    refine h_iald O hH ly_298 g9 dX12_hasLong_49 ?_
    obtain ⟨y12, D10, hc11, h⟩ := bI_some h
    refine h_callVi (As := [.int (D6 297 (Int32.toNatClampNeg y3)), .int (D6 298 (Int32.toNatClampNeg y3))]) (rest := [.int y3, .ref (z + 297)]) O hH (c_X12_remembers hc11) ml_X12_375 ly_281 rfl rfl hl.1 rfl ⟨Nat.le_of_ble_eq_true rfl, Nat.le_of_ble_eq_true rfl⟩ (Nat.le_of_ble_eq_true rfl) dX12_hasLong_50 (fun H locs hH => ?_)
    obtain ⟨g13, h⟩ := gd_some h
    obtain ⟨D14, e15, h⟩ := lt_some h
    refine h_iast O hH ly_297 g13 e15 dX12_hasLong_53 (fun H locs hH => ?_)
    refine lv_aload_n hx hb dX12_hasLong_54 rfl (lv_at hl 1 rfl) ?_
    refine h_getr O hH ly_281 rfl fl_X12_66 dX12_hasLong_55 ?_
    refine lv_iload hx hb dX12_hasLong_58 (lv_at hl 0 rfl) ?_
    refine lv_aload_n hx hb dX12_hasLong_60 rfl (lv_at hl 1 rfl) ?_
    refine h_geti O hH ly_281 rfl fl_X12_313 dX12_hasLong_61 ?_
    obtain ⟨g16, h⟩ := gd_some h
    obtain ⟨D17, e18, h⟩ := lt_some h
    refine h_iast O hH ly_298 g16 e18 dX12_hasLong_64 (fun H locs hH => ?_)
    exact w_X12_hasLong_65 O hr hlk _ _ h _ _ _ hH (lv_sub hl [1, 0] rfl)
set_option maxHeartbeats 4000000 in
theorem c_X12_hasLong {l : Launch} {G : va_G} {tA : Nat → ClassId} {z : Nat} {E : Ex} {x1 : Int32} {x2 : Int32} {x3 : Int32} {D D' : Dm} {r : Int32} (h : f_X12_hasLong x1 x2 x3 D = some (r, D')) : CtI l yX12_hasLong cX12_hasLong 5 (some .int) G tA z E 25 0 0 [.ref (z + 281), .int x1, .int x2, .int x3] LAY D r LAY D' :=
  ct_BI (by decide +kernel) (Nat.le_of_ble_eq_true rfl) (fun _ _ _ _ _ _ _ _ O hr hlk => w_X12_hasLong O hr hlk _ _ _ _ h)
set_option maxHeartbeats 4000000 in
theorem w_X12_bits {G : va_G} {tA : Nat → ClassId} {z : Nat} {E : Ex} {p : Program} {l : Launch} {e : Env} {s : State} {m : MethodId} {args : Array Value} {below : List Frame} {meth : Method} {c : Code} {r : Int32} {D' : Dm} (O : Ok G tA z E cX12_bits RX12 1 p s m args c) (hr : meth.sig.returnType = some .int) (hlk : meth.locks = false) (x0 : Int32) (D : Dm) (h : f_X12_bits x0 D = some (r, D')) : BI G tA z E p l e (rmC 2 0 0) s m args below meth c LAY D r D' 1 0 [(0, .int x0)] [] := by
  obtain ⟨hx, hb, -, hown, hts, -⟩ := id O
  unfold f_X12_bits at h
  intro H locs ls hH hl
  refine lv_iload_n hx hb dX12_bits_0 rfl (lv_at hl 0 rfl) ?_
  obtain ⟨y3, D1, hc2, h⟩ := bI_some h
  refine h_callSi (As := [.int x0]) (rest := []) O hH (c_J6_bitCount_0f7a4 hc2) ml_X12_384 rfl hl.1 rfl ⟨Nat.le_of_ble_eq_true rfl, Nat.le_of_ble_eq_true rfl⟩ (Nat.le_of_ble_eq_true rfl) dX12_bits_1 (fun H locs hH => ?_)
  obtain ⟨rfl, rfl⟩ := ret_i h
  exact h_iret O hr hlk hH dX12_bits_4
set_option maxHeartbeats 4000000 in
theorem c_X12_bits {l : Launch} {G : va_G} {tA : Nat → ClassId} {z : Nat} {E : Ex} {x0 : Int32} {D D' : Dm} {r : Int32} (h : f_X12_bits x0 D = some (r, D')) : CtI l yX12_bits cX12_bits 1 (some .int) G tA z E 2 0 0 [.int x0] LAY D r LAY D' :=
  ct_BI (by decide +kernel) (Nat.le_of_ble_eq_true rfl) (fun _ _ _ _ _ _ _ _ O hr hlk => w_X12_bits O hr hlk _ _ h)
set_option maxHeartbeats 4000000 in
theorem w_X12_nameAt_31 {G : va_G} {tA : Nat → ClassId} {z : Nat} {E : Ex} {p : Program} {l : Launch} {e : Env} {s : State} {m : MethodId} {args : Array Value} {below : List Frame} {meth : Method} {c : Code} {r : Int32} {D' : Dm} (O : Ok G tA z E cX12_nameAt RX12 4 p s m args c) (hr : meth.sig.returnType = some .int) (hlk : meth.locks = false) {k4 : Int32 → Int32 → Int32 → Int32 → Dm → Option (Int32 × Dm)} (hk4 : ∀ (x0 : Int32) (x1 : Int32) (x2 : Int32) (x3 : Int32) (D : Dm), k4 x0 x1 x2 x3 D = some (r, D') → BI G tA z E p l e (rmC 1 0 0) s m args below meth c LAY D r D' 4 4 [(0, .int x0), (1, .int x1), (2, .int x2), (3, .int x3)] []) (x0 : Int32) (x1 : Int32) (x2 : Int32) (x3 : Int32) (D : Dm) (h : f_X12_nameAt_31 k4 x0 x1 x2 x3 D = some (r, D')) : BI G tA z E p l e (rmC 1 0 0) s m args below meth c LAY D r D' 4 31 [(0, .int x0), (1, .int x1), (2, .int x2), (3, .int x3)] [] := by
  obtain ⟨hx, hb, -, hown, hts, -⟩ := id O
  unfold f_X12_nameAt_31 at h
  intro H locs ls hH hl
  obtain ⟨y1, e2, h⟩ := lt_some h
  refine lv_iinc (v := y1) (lv' := [(3, .int y1), (0, .int x0), (1, .int x1), (2, .int x2)]) hx hb dX12_nameAt_31 hl (k := 3) rfl (by rw [e2]; rfl) (by decide) rfl (fun ls hl => ?_)
  refine lv_goto (tgt := 4) hx hb dX12_nameAt_34 (by decide) ?_
  exact hk4 _ _ _ _ _ h _ _ _ hH (lv_sub hl [1, 2, 3, 0] rfl)
set_option maxHeartbeats 4000000 in
theorem w_X12_nameAt_4_b {G : va_G} {tA : Nat → ClassId} {z : Nat} {E : Ex} {p : Program} {l : Launch} {e : Env} {s : State} {m : MethodId} {args : Array Value} {below : List Frame} {meth : Method} {c : Code} {r : Int32} {D' : Dm} (O : Ok G tA z E cX12_nameAt RX12 4 p s m args c) (hr : meth.sig.returnType = some .int) (hlk : meth.locks = false) {k4 : Int32 → Int32 → Int32 → Int32 → Dm → Option (Int32 × Dm)} (hk4 : ∀ (x0 : Int32) (x1 : Int32) (x2 : Int32) (x3 : Int32) (D : Dm), k4 x0 x1 x2 x3 D = some (r, D') → BI G tA z E p l e (rmC 1 0 0) s m args below meth c LAY D r D' 4 4 [(0, .int x0), (1, .int x1), (2, .int x2), (3, .int x3)] []) (x0 : Int32) (x1 : Int32) (x2 : Int32) (x3 : Int32) (D : Dm) (h : f_X12_nameAt_4_b k4 x0 x1 x2 x3 D = some (r, D')) : BI G tA z E p l e (rmC 1 0 0) s m args below meth c LAY D r D' 4 4 [(0, .int x0), (1, .int x1), (2, .int x2), (3, .int x3)] [] := by
  obtain ⟨hx, hb, -, hown, hts, -⟩ := id O
  unfold f_X12_nameAt_4_b at h
  intro H locs ls hH hl
  refine lv_iload_n hx hb dX12_nameAt_4 rfl (lv_at hl 3 rfl) ?_
  refine lv_bipush (v := 31) hx hb dX12_nameAt_5 (by decide) ?_
  refine lv_icmp_ge (tgt := 37) hx hb dX12_nameAt_7 (by decide) (fun c1 => ?_) (fun c1 => ?_)
  · have h := it_pos h c1
    refine lv_iconst (v := (-1)) hx hb dX12_nameAt_37 (by decide) ?_
    obtain ⟨rfl, rfl⟩ := ret_i h
    exact h_iret O hr hlk hH dX12_nameAt_38
  · have h := it_neg h c1
    refine lv_iload_n hx hb dX12_nameAt_10 rfl (lv_at hl 0 rfl) ?_
    refine lv_iload_n hx hb dX12_nameAt_11 rfl (lv_at hl 3 rfl) ?_
    refine lv_ishr hx hb dX12_nameAt_12 ?_
    refine lv_iconst (v := 1) hx hb dX12_nameAt_13 (by decide) ?_
    refine lv_iand hx hb dX12_nameAt_14 ?_
    refine lv_if_ne (tgt := 21) hx hb dX12_nameAt_15 (by decide) (fun c2 => ?_) (fun c2 => ?_)
    · have h := it_neg h c2
      refine lv_iload_n hx hb dX12_nameAt_21 rfl (lv_at hl 2 rfl) ?_
      refine lv_iload_n hx hb dX12_nameAt_22 rfl (lv_at hl 1 rfl) ?_
      refine lv_icmp_ne (tgt := 28) hx hb dX12_nameAt_23 (by decide) (fun c3 => ?_) (fun c3 => ?_)
      · have h := it_neg h c3
        obtain ⟨y4, e5, h⟩ := lt_some h
        refine lv_iinc (v := y4) (lv' := [(2, .int y4), (0, .int x0), (1, .int x1), (3, .int x3)]) hx hb dX12_nameAt_28 hl (k := 2) rfl (by rw [e5]; rfl) (by decide) rfl (fun ls hl => ?_)
        exact w_X12_nameAt_31 O hr hlk hk4 _ _ _ _ _ h _ _ _ hH (lv_sub hl [1, 2, 0, 3] rfl)
      · have h := it_pos h c3
        refine lv_iload_n hx hb dX12_nameAt_26 rfl (lv_at hl 3 rfl) ?_
        obtain ⟨rfl, rfl⟩ := ret_i h
        exact h_iret O hr hlk hH dX12_nameAt_27
    · have h := it_pos h c2
      refine lv_goto (tgt := 31) hx hb dX12_nameAt_18 (by decide) ?_
      exact w_X12_nameAt_31 O hr hlk hk4 _ _ _ _ _ h _ _ _ hH (lv_sub hl [0, 1, 2, 3] rfl)
set_option maxHeartbeats 4000000 in
theorem w_X12_nameAt_4 {G : va_G} {tA : Nat → ClassId} {z : Nat} {E : Ex} {p : Program} {l : Launch} {e : Env} {s : State} {m : MethodId} {args : Array Value} {below : List Frame} {meth : Method} {c : Code} {r : Int32} {D' : Dm} (O : Ok G tA z E cX12_nameAt RX12 4 p s m args c) (hr : meth.sig.returnType = some .int) (hlk : meth.locks = false) : ∀ (n : Nat) (x0 : Int32) (x1 : Int32) (x2 : Int32) (x3 : Int32) (D : Dm) (h : f_X12_nameAt_4 n x0 x1 x2 x3 D = some (r, D')), BI G tA z E p l e (rmC 1 0 0) s m args below meth c LAY D r D' 4 4 [(0, .int x0), (1, .int x1), (2, .int x2), (3, .int x3)] [] := by
  intro n
  induction n with
  | zero => intro x0 x1 x2 x3 D h; exact no_some h
  | succ n ih => intro x0 x1 x2 x3 D h; exact w_X12_nameAt_4_b O hr hlk (fun x0 x1 x2 x3 D h => ih x0 x1 x2 x3 D h) x0 x1 x2 x3 D h
set_option maxHeartbeats 4000000 in
theorem w_X12_nameAt {G : va_G} {tA : Nat → ClassId} {z : Nat} {E : Ex} {p : Program} {l : Launch} {e : Env} {s : State} {m : MethodId} {args : Array Value} {below : List Frame} {meth : Method} {c : Code} {r : Int32} {D' : Dm} (O : Ok G tA z E cX12_nameAt RX12 4 p s m args c) (hr : meth.sig.returnType = some .int) (hlk : meth.locks = false) (x0 : Int32) (x1 : Int32) (D : Dm) (h : f_X12_nameAt x0 x1 D = some (r, D')) : BI G tA z E p l e (rmC 1 0 0) s m args below meth c LAY D r D' 4 0 [(0, .int x0), (1, .int x1)] [] := by
  obtain ⟨hx, hb, -, hown, hts, -⟩ := id O
  unfold f_X12_nameAt at h
  intro H locs ls hH hl
  refine lv_iconst (v := 0) hx hb dX12_nameAt_0 (by decide) ?_
  refine lv_istore_n (lv' := [(2, .int 0), (0, .int x0), (1, .int x1)]) hx hb dX12_nameAt_1 rfl hl (by decide) rfl (fun ls hl => ?_)
  refine lv_iconst (v := 0) hx hb dX12_nameAt_2 (by decide) ?_
  refine lv_istore_n (lv' := [(3, .int 0), (2, .int 0), (0, .int x0), (1, .int x1)]) hx hb dX12_nameAt_3 rfl hl (by decide) rfl (fun ls hl => ?_)
  exact w_X12_nameAt_4 O hr hlk FU _ _ _ _ _ h _ _ _ hH (lv_sub hl [2, 3, 1, 0] rfl)
set_option maxHeartbeats 4000000 in
theorem c_X12_nameAt {l : Launch} {G : va_G} {tA : Nat → ClassId} {z : Nat} {E : Ex} {x0 : Int32} {x1 : Int32} {D D' : Dm} {r : Int32} (h : f_X12_nameAt x0 x1 D = some (r, D')) : CtI l yX12_nameAt cX12_nameAt 4 (some .int) G tA z E 1 0 0 [.int x0, .int x1] LAY D r LAY D' :=
  ct_BI (by decide +kernel) (Nat.le_of_ble_eq_true rfl) (fun _ _ _ _ _ _ _ _ O hr hlk => w_X12_nameAt O hr hlk _ _ _ h)
set_option maxHeartbeats 4000000 in
theorem w_X12_setBy_35 {G : va_G} {tA : Nat → ClassId} {z : Nat} {E : Ex} {p : Program} {l : Launch} {e : Env} {s : State} {m : MethodId} {args : Array Value} {below : List Frame} {meth : Method} {c : Code} {r : Int32} {D' : Dm} (O : Ok G tA z E cX12_setBy RX12 4 p s m args c) (hr : meth.sig.returnType = some .int) (hlk : meth.locks = false) (xs0 : Int32) (xs1 : Int32) (D : Dm) (h : f_X12_setBy_35 xs0 xs1 D = some (r, D')) : BI G tA z E p l e (rmC 2 0 0) s m args below meth c LAY D r D' 4 35 [] [.int xs0, .int xs1] := by
  obtain ⟨hx, hb, -, hown, hts, -⟩ := id O
  unfold f_X12_setBy_35 at h
  intro H locs ls hH hl
  obtain ⟨y3, D1, hc2, h⟩ := bI_some h
  refine h_callSi (As := [.int xs1, .int xs0]) (rest := []) O hH (c_X12_nameAt hc2) ml_X12_392 rfl hl.1 rfl ⟨Nat.le_of_ble_eq_true rfl, Nat.le_of_ble_eq_true rfl⟩ (Nat.le_of_ble_eq_true rfl) dX12_setBy_35 (fun H locs hH => ?_)
  obtain ⟨rfl, rfl⟩ := ret_i h
  exact h_iret O hr hlk hH dX12_setBy_38
set_option maxHeartbeats 4000000 in
theorem w_X12_setBy_2_b {G : va_G} {tA : Nat → ClassId} {z : Nat} {E : Ex} {p : Program} {l : Launch} {e : Env} {s : State} {m : MethodId} {args : Array Value} {below : List Frame} {meth : Method} {c : Code} {r : Int32} {D' : Dm} (O : Ok G tA z E cX12_setBy RX12 4 p s m args c) (hr : meth.sig.returnType = some .int) (hlk : meth.locks = false) {k2 : Int32 → Int32 → Int32 → Dm → Option (Int32 × Dm)} (hk2 : ∀ (x1 : Int32) (x2 : Int32) (x3 : Int32) (D : Dm), k2 x1 x2 x3 D = some (r, D') → BI G tA z E p l e (rmC 2 0 0) s m args below meth c LAY D r D' 4 2 [(0, .ref (z + 281)), (1, .int x1), (2, .int x2), (3, .int x3)] []) (x1 : Int32) (x2 : Int32) (x3 : Int32) (D : Dm) (h : f_X12_setBy_2_b k2 x1 x2 x3 D = some (r, D')) : BI G tA z E p l e (rmC 2 0 0) s m args below meth c LAY D r D' 4 2 [(0, .ref (z + 281)), (1, .int x1), (2, .int x2), (3, .int x3)] [] := by
  obtain ⟨hx, hb, -, hown, hts, -⟩ := id O
  unfold f_X12_setBy_2_b at h
  intro H locs ls hH hl
  refine lv_aload_n hx hb dX12_setBy_2 rfl (lv_at hl 0 rfl) ?_
  refine h_geti O hH ly_281 rfl fl_X12_389 dX12_setBy_3 ?_
  refine lv_iload_n hx hb dX12_setBy_6 rfl (lv_at hl 3 rfl) ?_
  obtain ⟨y3, D1, hc2, h⟩ := bI_some h
  refine h_callSi (As := [.int (D 281 47), .int x3]) (rest := []) O hH (c_X12_nameAt hc2) ml_X12_392 rfl hl.1 rfl ⟨Nat.le_of_ble_eq_true rfl, Nat.le_of_ble_eq_true rfl⟩ (Nat.le_of_ble_eq_true rfl) dX12_setBy_7 (fun H locs hH => ?_)
  refine lv_iload_n hx hb dX12_setBy_10 rfl (lv_at hl 1 rfl) ?_
  refine lv_icmp_eq (tgt := 20) hx hb dX12_setBy_11 (by decide) (fun c4 => ?_) (fun c4 => ?_)
  · have h := it_pos h c4
    refine lv_aload_n hx hb dX12_setBy_20 rfl (lv_at hl 0 rfl) ?_
    refine h_geti O hH ly_281 rfl fl_X12_395 dX12_setBy_21 ?_
    refine lv_iload_n hx hb dX12_setBy_24 rfl (lv_at hl 2 rfl) ?_
    refine lv_if_ne (tgt := 32) hx hb dX12_setBy_25 (by decide) (fun c5 => ?_) (fun c5 => ?_)
    · have h := it_neg h c5
      refine lv_iconst (v := 1) hx hb dX12_setBy_32 (by decide) ?_
      refine lv_iload_n hx hb dX12_setBy_33 rfl (lv_at hl 3 rfl) ?_
      refine lv_isub hx hb dX12_setBy_34 ?_
      exact w_X12_setBy_35 O hr hlk _ _ _ h _ _ _ hH (lv_sub hl [] rfl)
    · have h := it_pos h c5
      refine lv_iload_n hx hb dX12_setBy_28 rfl (lv_at hl 3 rfl) ?_
      refine lv_goto (tgt := 35) hx hb dX12_setBy_29 (by decide) ?_
      exact w_X12_setBy_35 O hr hlk _ _ _ h _ _ _ hH (lv_sub hl [] rfl)
  · have h := it_neg h c4
    obtain ⟨y6, e7, h⟩ := lt_some h
    refine lv_iinc (v := y6) (lv' := [(3, .int y6), (0, .ref (z + 281)), (1, .int x1), (2, .int x2)]) hx hb dX12_setBy_14 hl (k := 3) rfl (by rw [e7]; rfl) (by decide) rfl (fun ls hl => ?_)
    refine lv_goto (tgt := 2) hx hb dX12_setBy_17 (by decide) ?_
    exact hk2 _ _ _ _ h _ _ _ hH (lv_sub hl [1, 2, 3, 0] rfl)
set_option maxHeartbeats 4000000 in
theorem w_X12_setBy_2 {G : va_G} {tA : Nat → ClassId} {z : Nat} {E : Ex} {p : Program} {l : Launch} {e : Env} {s : State} {m : MethodId} {args : Array Value} {below : List Frame} {meth : Method} {c : Code} {r : Int32} {D' : Dm} (O : Ok G tA z E cX12_setBy RX12 4 p s m args c) (hr : meth.sig.returnType = some .int) (hlk : meth.locks = false) : ∀ (n : Nat) (x1 : Int32) (x2 : Int32) (x3 : Int32) (D : Dm) (h : f_X12_setBy_2 n x1 x2 x3 D = some (r, D')), BI G tA z E p l e (rmC 2 0 0) s m args below meth c LAY D r D' 4 2 [(0, .ref (z + 281)), (1, .int x1), (2, .int x2), (3, .int x3)] [] := by
  intro n
  induction n with
  | zero => intro x1 x2 x3 D h; exact no_some h
  | succ n ih => intro x1 x2 x3 D h; exact w_X12_setBy_2_b O hr hlk (fun x1 x2 x3 D h => ih x1 x2 x3 D h) x1 x2 x3 D h
set_option maxHeartbeats 4000000 in
theorem w_X12_setBy {G : va_G} {tA : Nat → ClassId} {z : Nat} {E : Ex} {p : Program} {l : Launch} {e : Env} {s : State} {m : MethodId} {args : Array Value} {below : List Frame} {meth : Method} {c : Code} {r : Int32} {D' : Dm} (O : Ok G tA z E cX12_setBy RX12 4 p s m args c) (hr : meth.sig.returnType = some .int) (hlk : meth.locks = false) (x1 : Int32) (x2 : Int32) (D : Dm) (h : f_X12_setBy x1 x2 D = some (r, D')) : BI G tA z E p l e (rmC 2 0 0) s m args below meth c LAY D r D' 4 0 [(0, .ref (z + 281)), (1, .int x1), (2, .int x2)] [] := by
  obtain ⟨hx, hb, -, hown, hts, -⟩ := id O
  unfold f_X12_setBy at h
  intro H locs ls hH hl
  refine lv_iconst (v := 0) hx hb dX12_setBy_0 (by decide) ?_
  refine lv_istore_n (lv' := [(3, .int 0), (0, .ref (z + 281)), (1, .int x1), (2, .int x2)]) hx hb dX12_setBy_1 rfl hl (by decide) rfl (fun ls hl => ?_)
  exact w_X12_setBy_2 O hr hlk FU _ _ _ _ h _ _ _ hH (lv_sub hl [1, 2, 3, 0] rfl)
set_option maxHeartbeats 4000000 in
theorem c_X12_setBy {l : Launch} {G : va_G} {tA : Nat → ClassId} {z : Nat} {E : Ex} {x1 : Int32} {x2 : Int32} {D D' : Dm} {r : Int32} (h : f_X12_setBy x1 x2 D = some (r, D')) : CtI l yX12_setBy cX12_setBy 4 (some .int) G tA z E 2 0 0 [.ref (z + 281), .int x1, .int x2] LAY D r LAY D' :=
  ct_BI (by decide +kernel) (Nat.le_of_ble_eq_true rfl) (fun _ _ _ _ _ _ _ _ O hr hlk => w_X12_setBy O hr hlk _ _ _ h)
set_option maxHeartbeats 4000000 in
theorem w_X12_areAlike_189 {G : va_G} {tA : Nat → ClassId} {z : Nat} {E : Ex} {p : Program} {l : Launch} {e : Env} {s : State} {m : MethodId} {args : Array Value} {below : List Frame} {meth : Method} {c : Code} {r : Int32} {D' : Dm} {dd : Nat} (hdd : 6 ≤ dd) (O : Ok G tA z E cX12_areAlike RX12 10 p s m args c) (hr : meth.sig.returnType = some .boolean) (hlk : meth.locks = false) {self : Int32 → Int32 → Int32 → Int32 → Dm → Option (Int32 × Dm)} (hself : ∀ (x1 : Int32) (x2 : Int32) (x3 : Int32) (x4 : Int32) (D1 D2 : Dm) (r1 : Int32), self x1 x2 x3 x4 D1 = some (r1, D2) → CtI l yX12_areAlike cX12_areAlike 10 (some .boolean) G tA z E dd 0 0 [.ref (z + 281), .int x1, .int x2, .int x3, .int x4] LAY D1 r1 LAY D2) {k76 : Int32 → Int32 → Int32 → Int32 → Int32 → Int32 → Dm → Option (Int32 × Dm)} (hk76 : ∀ (x1 : Int32) (x2 : Int32) (x3 : Int32) (x4 : Int32) (x5 : Int32) (x6 : Int32) (D : Dm), k76 x1 x2 x3 x4 x5 x6 D = some (r, D') → BI G tA z E p l e (rmC (dd + 1) 0 0) s m args below meth c LAY D r D' 10 76 [(0, .ref (z + 281)), (1, .int x1), (2, .int x2), (3, .int x3), (4, .int x4), (5, .int x5), (6, .int x6)] []) (x1 : Int32) (x2 : Int32) (x3 : Int32) (x4 : Int32) (x5 : Int32) (x6 : Int32) (D : Dm) (h : f_X12_areAlike_189 self k76 x1 x2 x3 x4 x5 x6 D = some (r, D')) : BI G tA z E p l e (rmC (dd + 1) 0 0) s m args below meth c LAY D r D' 10 189 [(0, .ref (z + 281)), (1, .int x1), (2, .int x2), (3, .int x3), (4, .int x4), (5, .int x5), (6, .int x6)] [] := by
  obtain ⟨hx, hb, -, hown, hts, -⟩ := id O
  unfold f_X12_areAlike_189 at h
  intro H locs ls hH hl
  obtain ⟨y1, e2, h⟩ := lt_some h
  refine lv_iinc (v := y1) (lv' := [(6, .int y1), (0, .ref (z + 281)), (1, .int x1), (2, .int x2), (3, .int x3), (4, .int x4), (5, .int x5)]) hx hb dX12_areAlike_189 hl (k := 6) rfl (by rw [e2]; rfl) (by decide) rfl (fun ls hl => ?_)
  refine lv_goto (tgt := 76) hx hb dX12_areAlike_192 (by decide) ?_
  exact hk76 _ _ _ _ _ _ _ h _ _ _ hH (lv_sub hl [1, 2, 3, 4, 5, 6, 0] rfl)
set_option maxHeartbeats 4000000 in
theorem w_X12_areAlike_138 {G : va_G} {tA : Nat → ClassId} {z : Nat} {E : Ex} {p : Program} {l : Launch} {e : Env} {s : State} {m : MethodId} {args : Array Value} {below : List Frame} {meth : Method} {c : Code} {r : Int32} {D' : Dm} {dd : Nat} (hdd : 6 ≤ dd) (O : Ok G tA z E cX12_areAlike RX12 10 p s m args c) (hr : meth.sig.returnType = some .boolean) (hlk : meth.locks = false) {self : Int32 → Int32 → Int32 → Int32 → Dm → Option (Int32 × Dm)} (hself : ∀ (x1 : Int32) (x2 : Int32) (x3 : Int32) (x4 : Int32) (D1 D2 : Dm) (r1 : Int32), self x1 x2 x3 x4 D1 = some (r1, D2) → CtI l yX12_areAlike cX12_areAlike 10 (some .boolean) G tA z E dd 0 0 [.ref (z + 281), .int x1, .int x2, .int x3, .int x4] LAY D1 r1 LAY D2) {k76 : Int32 → Int32 → Int32 → Int32 → Int32 → Int32 → Dm → Option (Int32 × Dm)} (hk76 : ∀ (x1 : Int32) (x2 : Int32) (x3 : Int32) (x4 : Int32) (x5 : Int32) (x6 : Int32) (D : Dm), k76 x1 x2 x3 x4 x5 x6 D = some (r, D') → BI G tA z E p l e (rmC (dd + 1) 0 0) s m args below meth c LAY D r D' 10 76 [(0, .ref (z + 281)), (1, .int x1), (2, .int x2), (3, .int x3), (4, .int x4), (5, .int x5), (6, .int x6)] []) {k110 : Int32 → Int32 → Int32 → Int32 → Int32 → Int32 → Int32 → Int32 → Int32 → Dm → Option (Int32 × Dm)} (hk110 : ∀ (x1 : Int32) (x2 : Int32) (x3 : Int32) (x4 : Int32) (x5 : Int32) (x6 : Int32) (x7 : Int32) (x8 : Int32) (x9 : Int32) (D : Dm), k110 x1 x2 x3 x4 x5 x6 x7 x8 x9 D = some (r, D') → BI G tA z E p l e (rmC (dd + 1) 0 0) s m args below meth c LAY D r D' 10 110 [(0, .ref (z + 281)), (1, .int x1), (2, .int x2), (3, .int x3), (4, .int x4), (5, .int x5), (6, .int x6), (7, .int x7), (8, .int x8), (9, .int x9)] []) (x1 : Int32) (x2 : Int32) (x3 : Int32) (x4 : Int32) (x5 : Int32) (x6 : Int32) (x7 : Int32) (x9 : Int32) (xs0 : Int32) (D : Dm) (h : f_X12_areAlike_138 self k76 k110 x1 x2 x3 x4 x5 x6 x7 x9 xs0 D = some (r, D')) : BI G tA z E p l e (rmC (dd + 1) 0 0) s m args below meth c LAY D r D' 10 138 [(0, .ref (z + 281)), (1, .int x1), (2, .int x2), (3, .int x3), (4, .int x4), (5, .int x5), (6, .int x6), (7, .int x7), (9, .int x9)] [.int xs0] := by
  obtain ⟨hx, hb, -, hown, hts, -⟩ := id O
  unfold f_X12_areAlike_138 at h
  intro H locs ls hH hl
  refine lv_istore (lv' := [(8, .int xs0), (0, .ref (z + 281)), (1, .int x1), (2, .int x2), (3, .int x3), (4, .int x4), (5, .int x5), (6, .int x6), (7, .int x7), (9, .int x9)]) hx hb dX12_areAlike_138 hl (by decide) rfl (fun ls hl => ?_)
  obtain ⟨y1, e2, h⟩ := lt_some h
  refine lv_iinc (v := y1) (lv' := [(9, .int y1), (8, .int xs0), (0, .ref (z + 281)), (1, .int x1), (2, .int x2), (3, .int x3), (4, .int x4), (5, .int x5), (6, .int x6), (7, .int x7)]) hx hb dX12_areAlike_140 hl (k := 9) rfl (by rw [e2]; rfl) (by decide) rfl (fun ls hl => ?_)
  refine lv_goto (tgt := 110) hx hb dX12_areAlike_143 (by decide) ?_
  exact hk110 _ _ _ _ _ _ _ _ _ _ h _ _ _ hH (lv_sub hl [2, 3, 4, 5, 6, 7, 8, 9, 1, 0] rfl)
set_option maxHeartbeats 4000000 in
theorem w_X12_areAlike_133 {G : va_G} {tA : Nat → ClassId} {z : Nat} {E : Ex} {p : Program} {l : Launch} {e : Env} {s : State} {m : MethodId} {args : Array Value} {below : List Frame} {meth : Method} {c : Code} {r : Int32} {D' : Dm} {dd : Nat} (hdd : 6 ≤ dd) (O : Ok G tA z E cX12_areAlike RX12 10 p s m args c) (hr : meth.sig.returnType = some .boolean) (hlk : meth.locks = false) {self : Int32 → Int32 → Int32 → Int32 → Dm → Option (Int32 × Dm)} (hself : ∀ (x1 : Int32) (x2 : Int32) (x3 : Int32) (x4 : Int32) (D1 D2 : Dm) (r1 : Int32), self x1 x2 x3 x4 D1 = some (r1, D2) → CtI l yX12_areAlike cX12_areAlike 10 (some .boolean) G tA z E dd 0 0 [.ref (z + 281), .int x1, .int x2, .int x3, .int x4] LAY D1 r1 LAY D2) {k76 : Int32 → Int32 → Int32 → Int32 → Int32 → Int32 → Dm → Option (Int32 × Dm)} (hk76 : ∀ (x1 : Int32) (x2 : Int32) (x3 : Int32) (x4 : Int32) (x5 : Int32) (x6 : Int32) (D : Dm), k76 x1 x2 x3 x4 x5 x6 D = some (r, D') → BI G tA z E p l e (rmC (dd + 1) 0 0) s m args below meth c LAY D r D' 10 76 [(0, .ref (z + 281)), (1, .int x1), (2, .int x2), (3, .int x3), (4, .int x4), (5, .int x5), (6, .int x6)] []) {k110 : Int32 → Int32 → Int32 → Int32 → Int32 → Int32 → Int32 → Int32 → Int32 → Dm → Option (Int32 × Dm)} (hk110 : ∀ (x1 : Int32) (x2 : Int32) (x3 : Int32) (x4 : Int32) (x5 : Int32) (x6 : Int32) (x7 : Int32) (x8 : Int32) (x9 : Int32) (D : Dm), k110 x1 x2 x3 x4 x5 x6 x7 x8 x9 D = some (r, D') → BI G tA z E p l e (rmC (dd + 1) 0 0) s m args below meth c LAY D r D' 10 110 [(0, .ref (z + 281)), (1, .int x1), (2, .int x2), (3, .int x3), (4, .int x4), (5, .int x5), (6, .int x6), (7, .int x7), (8, .int x8), (9, .int x9)] []) (x1 : Int32) (x2 : Int32) (x3 : Int32) (x4 : Int32) (x5 : Int32) (x6 : Int32) (x7 : Int32) (x9 : Int32) (D : Dm) (h : f_X12_areAlike_133 self k76 k110 x1 x2 x3 x4 x5 x6 x7 x9 D = some (r, D')) : BI G tA z E p l e (rmC (dd + 1) 0 0) s m args below meth c LAY D r D' 10 133 [(0, .ref (z + 281)), (1, .int x1), (2, .int x2), (3, .int x3), (4, .int x4), (5, .int x5), (6, .int x6), (7, .int x7), (9, .int x9)] [] := by
  obtain ⟨hx, hb, -, hown, hts, -⟩ := id O
  unfold f_X12_areAlike_133 at h
  intro H locs ls hH hl
  refine lv_iconst (v := 1) hx hb dX12_areAlike_133 (by decide) ?_
  refine lv_goto (tgt := 138) hx hb dX12_areAlike_134 (by decide) ?_
  exact w_X12_areAlike_138 hdd O hr hlk hself hk76 hk110 _ _ _ _ _ _ _ _ _ _ h _ _ _ hH (lv_sub hl [0, 1, 2, 3, 4, 5, 6, 7, 8] rfl)
set_option maxHeartbeats 4000000 in
theorem w_X12_areAlike_110_b {G : va_G} {tA : Nat → ClassId} {z : Nat} {E : Ex} {p : Program} {l : Launch} {e : Env} {s : State} {m : MethodId} {args : Array Value} {below : List Frame} {meth : Method} {c : Code} {r : Int32} {D' : Dm} {dd : Nat} (hdd : 6 ≤ dd) (O : Ok G tA z E cX12_areAlike RX12 10 p s m args c) (hr : meth.sig.returnType = some .boolean) (hlk : meth.locks = false) {self : Int32 → Int32 → Int32 → Int32 → Dm → Option (Int32 × Dm)} (hself : ∀ (x1 : Int32) (x2 : Int32) (x3 : Int32) (x4 : Int32) (D1 D2 : Dm) (r1 : Int32), self x1 x2 x3 x4 D1 = some (r1, D2) → CtI l yX12_areAlike cX12_areAlike 10 (some .boolean) G tA z E dd 0 0 [.ref (z + 281), .int x1, .int x2, .int x3, .int x4] LAY D1 r1 LAY D2) {k76 : Int32 → Int32 → Int32 → Int32 → Int32 → Int32 → Dm → Option (Int32 × Dm)} (hk76 : ∀ (x1 : Int32) (x2 : Int32) (x3 : Int32) (x4 : Int32) (x5 : Int32) (x6 : Int32) (D : Dm), k76 x1 x2 x3 x4 x5 x6 D = some (r, D') → BI G tA z E p l e (rmC (dd + 1) 0 0) s m args below meth c LAY D r D' 10 76 [(0, .ref (z + 281)), (1, .int x1), (2, .int x2), (3, .int x3), (4, .int x4), (5, .int x5), (6, .int x6)] []) {k110 : Int32 → Int32 → Int32 → Int32 → Int32 → Int32 → Int32 → Int32 → Int32 → Dm → Option (Int32 × Dm)} (hk110 : ∀ (x1 : Int32) (x2 : Int32) (x3 : Int32) (x4 : Int32) (x5 : Int32) (x6 : Int32) (x7 : Int32) (x8 : Int32) (x9 : Int32) (D : Dm), k110 x1 x2 x3 x4 x5 x6 x7 x8 x9 D = some (r, D') → BI G tA z E p l e (rmC (dd + 1) 0 0) s m args below meth c LAY D r D' 10 110 [(0, .ref (z + 281)), (1, .int x1), (2, .int x2), (3, .int x3), (4, .int x4), (5, .int x5), (6, .int x6), (7, .int x7), (8, .int x8), (9, .int x9)] []) (x1 : Int32) (x2 : Int32) (x3 : Int32) (x4 : Int32) (x5 : Int32) (x6 : Int32) (x7 : Int32) (x8 : Int32) (x9 : Int32) (D : Dm) (h : f_X12_areAlike_110_b self k76 k110 x1 x2 x3 x4 x5 x6 x7 x8 x9 D = some (r, D')) : BI G tA z E p l e (rmC (dd + 1) 0 0) s m args below meth c LAY D r D' 10 110 [(0, .ref (z + 281)), (1, .int x1), (2, .int x2), (3, .int x3), (4, .int x4), (5, .int x5), (6, .int x6), (7, .int x7), (8, .int x8), (9, .int x9)] [] := by
  obtain ⟨hx, hb, -, hown, hts, -⟩ := id O
  unfold f_X12_areAlike_110_b at h
  intro H locs ls hH hl
  refine lv_iload hx hb dX12_areAlike_110 (lv_at hl 9 rfl) ?_
  refine lv_iload_n hx hb dX12_areAlike_112 rfl (lv_at hl 2 rfl) ?_
  refine lv_icmp_ge (tgt := 146) hx hb dX12_areAlike_113 (by decide) (fun c1 => ?_) (fun c1 => ?_)
  · have h := it_pos h c1
    refine lv_iload hx hb dX12_areAlike_146 (lv_at hl 8 rfl) ?_
    refine lv_if_eq (tgt := 154) hx hb dX12_areAlike_148 (by decide) (fun c2 => ?_) (fun c2 => ?_)
    · have h := it_pos h c2
      refine lv_aload_n hx hb dX12_areAlike_154 rfl (lv_at hl 0 rfl) ?_
      refine h_getr O hH ly_281 rfl fl_X12_75 dX12_areAlike_155 ?_
      refine lv_iload_n hx hb dX12_areAlike_158 rfl (lv_at hl 2 rfl) ?_
      refine lv_iload hx hb dX12_areAlike_159 (lv_at hl 7 rfl) ?_
      obtain ⟨g3, h⟩ := gd_some h
      obtain ⟨D4, e5, h⟩ := lt_some h
      refine h_iast O hH ly_301 g3 e5 dX12_areAlike_161 (fun H locs hH => ?_)
      refine lv_aload_n hx hb dX12_areAlike_162 rfl (lv_at hl 0 rfl) ?_
      refine h_getr O hH ly_281 rfl fl_X12_78 dX12_areAlike_163 ?_
      refine lv_iload_n hx hb dX12_areAlike_166 rfl (lv_at hl 2 rfl) ?_
      refine lv_aload_n hx hb dX12_areAlike_167 rfl (lv_at hl 0 rfl) ?_
      refine lv_iload hx hb dX12_areAlike_168 (lv_at hl 7 rfl) ?_
      refine lv_iload hx hb dX12_areAlike_170 (lv_at hl 4 rfl) ?_
      obtain ⟨y8, D6, hc7, h⟩ := bI_some h
      refine h_callVi (As := [.int x7, .int x4]) (rest := [.int x2, .ref (z + 302)]) O hH (c_X12_setBy hc7) ml_X12_413 ly_281 rfl rfl hl.1 rfl ⟨by show _ ≤ dd + 1; omega, by show _ ≤ 64 * (dd + 1); omega⟩ (Nat.le_of_ble_eq_true rfl) dX12_areAlike_172 (fun H locs hH => ?_)
      obtain ⟨g9, h⟩ := gd_some h
      obtain ⟨D10, e11, h⟩ := lt_some h
      refine h_iast O hH ly_302 g9 e11 dX12_areAlike_175 (fun H locs hH => ?_)
      refine lv_aload_n hx hb dX12_areAlike_176 rfl (lv_at hl 0 rfl) ?_
      refine lv_iload_n hx hb dX12_areAlike_177 rfl (lv_at hl 1 rfl) ?_
      refine lv_iload_n hx hb dX12_areAlike_178 rfl (lv_at hl 2 rfl) ?_
      refine lv_iconst (v := 1) hx hb dX12_areAlike_179 (by decide) ?_
      refine lv_iadd hx hb dX12_areAlike_180 ?_
      refine lv_iload_n hx hb dX12_areAlike_181 rfl (lv_at hl 3 rfl) ?_
      refine lv_iload hx hb dX12_areAlike_182 (lv_at hl 4 rfl) ?_
      obtain ⟨y14, D12, hc13, h⟩ := bI_some h
      refine h_callVi (As := [.int x1, .int (x2 + 1), .int x3, .int x4]) (rest := []) O hH (hself _ _ _ _ _ _ _ hc13) ml_X12_407 ly_281 rfl rfl hl.1 rfl ⟨by show _ ≤ dd + 1; omega, by show _ ≤ 64 * (dd + 1); omega⟩ (Nat.le_of_ble_eq_true rfl) dX12_areAlike_184 (fun H locs hH => ?_)
      refine lv_istore (lv' := [(5, .int y14), (0, .ref (z + 281)), (1, .int x1), (2, .int x2), (3, .int x3), (4, .int x4), (6, .int x6), (7, .int x7), (8, .int x8), (9, .int x9)]) hx hb dX12_areAlike_187 hl (by decide) rfl (fun ls hl => ?_)
      exact w_X12_areAlike_189 hdd O hr hlk hself hk76 _ _ _ _ _ _ _ h _ _ _ hH (lv_sub hl [1, 2, 3, 4, 5, 0, 6] rfl)
    · have h := it_neg h c2
      refine lv_goto (tgt := 189) hx hb dX12_areAlike_151 (by decide) ?_
      exact w_X12_areAlike_189 hdd O hr hlk hself hk76 _ _ _ _ _ _ _ h _ _ _ hH (lv_sub hl [0, 1, 2, 3, 4, 5, 6] rfl)
  · have h := it_neg h c1
    refine lv_iload hx hb dX12_areAlike_116 (lv_at hl 8 rfl) ?_
    refine lv_if_ne (tgt := 133) hx hb dX12_areAlike_118 (by decide) (fun c15 => ?_) (fun c15 => ?_)
    · have h := it_neg h c15
      exact w_X12_areAlike_133 hdd O hr hlk hself hk76 hk110 _ _ _ _ _ _ _ _ _ h _ _ _ hH (lv_sub hl [0, 1, 2, 3, 4, 5, 6, 7, 9] rfl)
    · have h := it_pos h c15
      refine lv_aload_n hx hb dX12_areAlike_121 rfl (lv_at hl 0 rfl) ?_
      refine h_getr O hH ly_281 rfl fl_X12_75 dX12_areAlike_122 ?_
      refine lv_iload hx hb dX12_areAlike_125 (lv_at hl 9 rfl) ?_
      obtain ⟨g16, h⟩ := gd_some h
      refine h_iald O hH ly_301 g16 dX12_areAlike_127 ?_
      refine lv_iload hx hb dX12_areAlike_128 (lv_at hl 7 rfl) ?_
      refine lv_icmp_ne (tgt := 137) hx hb dX12_areAlike_130 (by decide) (fun c17 => ?_) (fun c17 => ?_)
      · have h := it_neg h c17
        refine lv_iconst (v := 0) hx hb dX12_areAlike_137 (by decide) ?_
        exact w_X12_areAlike_138 hdd O hr hlk hself hk76 hk110 _ _ _ _ _ _ _ _ _ _ h _ _ _ hH (lv_sub hl [0, 1, 2, 3, 4, 5, 6, 7, 9] rfl)
      · have h := it_pos h c17
        exact w_X12_areAlike_133 hdd O hr hlk hself hk76 hk110 _ _ _ _ _ _ _ _ _ h _ _ _ hH (lv_sub hl [0, 1, 2, 3, 4, 5, 6, 7, 9] rfl)
set_option maxHeartbeats 4000000 in
theorem w_X12_areAlike_110 {G : va_G} {tA : Nat → ClassId} {z : Nat} {E : Ex} {p : Program} {l : Launch} {e : Env} {s : State} {m : MethodId} {args : Array Value} {below : List Frame} {meth : Method} {c : Code} {r : Int32} {D' : Dm} {dd : Nat} (hdd : 6 ≤ dd) (O : Ok G tA z E cX12_areAlike RX12 10 p s m args c) (hr : meth.sig.returnType = some .boolean) (hlk : meth.locks = false) {self : Int32 → Int32 → Int32 → Int32 → Dm → Option (Int32 × Dm)} (hself : ∀ (x1 : Int32) (x2 : Int32) (x3 : Int32) (x4 : Int32) (D1 D2 : Dm) (r1 : Int32), self x1 x2 x3 x4 D1 = some (r1, D2) → CtI l yX12_areAlike cX12_areAlike 10 (some .boolean) G tA z E dd 0 0 [.ref (z + 281), .int x1, .int x2, .int x3, .int x4] LAY D1 r1 LAY D2) {k76 : Int32 → Int32 → Int32 → Int32 → Int32 → Int32 → Dm → Option (Int32 × Dm)} (hk76 : ∀ (x1 : Int32) (x2 : Int32) (x3 : Int32) (x4 : Int32) (x5 : Int32) (x6 : Int32) (D : Dm), k76 x1 x2 x3 x4 x5 x6 D = some (r, D') → BI G tA z E p l e (rmC (dd + 1) 0 0) s m args below meth c LAY D r D' 10 76 [(0, .ref (z + 281)), (1, .int x1), (2, .int x2), (3, .int x3), (4, .int x4), (5, .int x5), (6, .int x6)] []) : ∀ (n : Nat) (x1 : Int32) (x2 : Int32) (x3 : Int32) (x4 : Int32) (x5 : Int32) (x6 : Int32) (x7 : Int32) (x8 : Int32) (x9 : Int32) (D : Dm) (h : f_X12_areAlike_110 self k76 n x1 x2 x3 x4 x5 x6 x7 x8 x9 D = some (r, D')), BI G tA z E p l e (rmC (dd + 1) 0 0) s m args below meth c LAY D r D' 10 110 [(0, .ref (z + 281)), (1, .int x1), (2, .int x2), (3, .int x3), (4, .int x4), (5, .int x5), (6, .int x6), (7, .int x7), (8, .int x8), (9, .int x9)] [] := by
  intro n
  induction n with
  | zero => intro x1 x2 x3 x4 x5 x6 x7 x8 x9 D h; exact no_some h
  | succ n ih => intro x1 x2 x3 x4 x5 x6 x7 x8 x9 D h; exact w_X12_areAlike_110_b hdd O hr hlk hself hk76 (fun x1 x2 x3 x4 x5 x6 x7 x8 x9 D h => ih x1 x2 x3 x4 x5 x6 x7 x8 x9 D h) x1 x2 x3 x4 x5 x6 x7 x8 x9 D h
set_option maxHeartbeats 4000000 in
theorem w_X12_areAlike_76_b {G : va_G} {tA : Nat → ClassId} {z : Nat} {E : Ex} {p : Program} {l : Launch} {e : Env} {s : State} {m : MethodId} {args : Array Value} {below : List Frame} {meth : Method} {c : Code} {r : Int32} {D' : Dm} {dd : Nat} (hdd : 6 ≤ dd) (O : Ok G tA z E cX12_areAlike RX12 10 p s m args c) (hr : meth.sig.returnType = some .boolean) (hlk : meth.locks = false) {self : Int32 → Int32 → Int32 → Int32 → Dm → Option (Int32 × Dm)} (hself : ∀ (x1 : Int32) (x2 : Int32) (x3 : Int32) (x4 : Int32) (D1 D2 : Dm) (r1 : Int32), self x1 x2 x3 x4 D1 = some (r1, D2) → CtI l yX12_areAlike cX12_areAlike 10 (some .boolean) G tA z E dd 0 0 [.ref (z + 281), .int x1, .int x2, .int x3, .int x4] LAY D1 r1 LAY D2) {k76 : Int32 → Int32 → Int32 → Int32 → Int32 → Int32 → Dm → Option (Int32 × Dm)} (hk76 : ∀ (x1 : Int32) (x2 : Int32) (x3 : Int32) (x4 : Int32) (x5 : Int32) (x6 : Int32) (D : Dm), k76 x1 x2 x3 x4 x5 x6 D = some (r, D') → BI G tA z E p l e (rmC (dd + 1) 0 0) s m args below meth c LAY D r D' 10 76 [(0, .ref (z + 281)), (1, .int x1), (2, .int x2), (3, .int x3), (4, .int x4), (5, .int x5), (6, .int x6)] []) (x1 : Int32) (x2 : Int32) (x3 : Int32) (x4 : Int32) (x5 : Int32) (x6 : Int32) (D : Dm) (h : f_X12_areAlike_76_b self k76 x1 x2 x3 x4 x5 x6 D = some (r, D')) : BI G tA z E p l e (rmC (dd + 1) 0 0) s m args below meth c LAY D r D' 10 76 [(0, .ref (z + 281)), (1, .int x1), (2, .int x2), (3, .int x3), (4, .int x4), (5, .int x5), (6, .int x6)] [] := by
  obtain ⟨hx, hb, -, hown, hts, -⟩ := id O
  unfold f_X12_areAlike_76_b at h
  intro H locs ls hH hl
  refine lv_iload hx hb dX12_areAlike_76 (lv_at hl 6 rfl) ?_
  refine lv_aload_n hx hb dX12_areAlike_78 rfl (lv_at hl 0 rfl) ?_
  refine h_geti O hH ly_281 rfl fl_X12_389 dX12_areAlike_79 ?_
  obtain ⟨y3, D1, hc2, h⟩ := bI_some h
  refine h_callSi (As := [.int (D 281 47)]) (rest := [.int x6]) O hH (c_X12_bits hc2) ml_X12_410 rfl hl.1 rfl ⟨by show _ ≤ dd + 1; omega, by show _ ≤ 64 * (dd + 1); omega⟩ (Nat.le_of_ble_eq_true rfl) dX12_areAlike_82 (fun H locs hH => ?_)
  refine lv_icmp_ge (tgt := 195) hx hb dX12_areAlike_85 (by decide) (fun c4 => ?_) (fun c4 => ?_)
  · have h := it_pos h c4
    refine lv_iload hx hb dX12_areAlike_195 (lv_at hl 5 rfl) ?_
    obtain ⟨g5, h⟩ := gd_some h
    obtain ⟨rfl, rfl⟩ := ret_i h
    exact h_zret O hr hlk (zbB_ok g5) hH dX12_areAlike_197
  · have h := it_neg h c4
    refine lv_iload hx hb dX12_areAlike_88 (lv_at hl 5 rfl) ?_
    refine lv_if_eq (tgt := 195) hx hb dX12_areAlike_90 (by decide) (fun c6 => ?_) (fun c6 => ?_)
    · have h := it_pos h c6
      refine lv_iload hx hb dX12_areAlike_195 (lv_at hl 5 rfl) ?_
      obtain ⟨g7, h⟩ := gd_some h
      obtain ⟨rfl, rfl⟩ := ret_i h
      exact h_zret O hr hlk (zbB_ok g7) hH dX12_areAlike_197
    · have h := it_neg h c6
      refine lv_aload_n hx hb dX12_areAlike_93 rfl (lv_at hl 0 rfl) ?_
      refine h_geti O hH ly_281 rfl fl_X12_389 dX12_areAlike_94 ?_
      refine lv_iload hx hb dX12_areAlike_97 (lv_at hl 6 rfl) ?_
      obtain ⟨y10, D8, hc9, h⟩ := bI_some h
      refine h_callSi (As := [.int (D1 281 47), .int x6]) (rest := []) O hH (c_X12_nameAt hc9) ml_X12_392 rfl hl.1 rfl ⟨by show _ ≤ dd + 1; omega, by show _ ≤ 64 * (dd + 1); omega⟩ (Nat.le_of_ble_eq_true rfl) dX12_areAlike_99 (fun H locs hH => ?_)
      refine lv_istore (lv' := [(7, .int y10), (0, .ref (z + 281)), (1, .int x1), (2, .int x2), (3, .int x3), (4, .int x4), (5, .int x5), (6, .int x6)]) hx hb dX12_areAlike_102 hl (by decide) rfl (fun ls hl => ?_)
      refine lv_iconst (v := 0) hx hb dX12_areAlike_104 (by decide) ?_
      refine lv_istore (lv' := [(8, .int 0), (7, .int y10), (0, .ref (z + 281)), (1, .int x1), (2, .int x2), (3, .int x3), (4, .int x4), (5, .int x5), (6, .int x6)]) hx hb dX12_areAlike_105 hl (by decide) rfl (fun ls hl => ?_)
      refine lv_iconst (v := 0) hx hb dX12_areAlike_107 (by decide) ?_
      refine lv_istore (lv' := [(9, .int 0), (8, .int 0), (7, .int y10), (0, .ref (z + 281)), (1, .int x1), (2, .int x2), (3, .int x3), (4, .int x4), (5, .int x5), (6, .int x6)]) hx hb dX12_areAlike_108 hl (by decide) rfl (fun ls hl => ?_)
      exact w_X12_areAlike_110 hdd O hr hlk hself hk76 FU _ _ _ _ _ _ _ _ _ _ h _ _ _ hH (lv_sub hl [3, 4, 5, 6, 7, 8, 9, 2, 1, 0] rfl)
set_option maxHeartbeats 4000000 in
theorem w_X12_areAlike_76 {G : va_G} {tA : Nat → ClassId} {z : Nat} {E : Ex} {p : Program} {l : Launch} {e : Env} {s : State} {m : MethodId} {args : Array Value} {below : List Frame} {meth : Method} {c : Code} {r : Int32} {D' : Dm} {dd : Nat} (hdd : 6 ≤ dd) (O : Ok G tA z E cX12_areAlike RX12 10 p s m args c) (hr : meth.sig.returnType = some .boolean) (hlk : meth.locks = false) {self : Int32 → Int32 → Int32 → Int32 → Dm → Option (Int32 × Dm)} (hself : ∀ (x1 : Int32) (x2 : Int32) (x3 : Int32) (x4 : Int32) (D1 D2 : Dm) (r1 : Int32), self x1 x2 x3 x4 D1 = some (r1, D2) → CtI l yX12_areAlike cX12_areAlike 10 (some .boolean) G tA z E dd 0 0 [.ref (z + 281), .int x1, .int x2, .int x3, .int x4] LAY D1 r1 LAY D2) : ∀ (n : Nat) (x1 : Int32) (x2 : Int32) (x3 : Int32) (x4 : Int32) (x5 : Int32) (x6 : Int32) (D : Dm) (h : f_X12_areAlike_76 self n x1 x2 x3 x4 x5 x6 D = some (r, D')), BI G tA z E p l e (rmC (dd + 1) 0 0) s m args below meth c LAY D r D' 10 76 [(0, .ref (z + 281)), (1, .int x1), (2, .int x2), (3, .int x3), (4, .int x4), (5, .int x5), (6, .int x6)] [] := by
  intro n
  induction n with
  | zero => intro x1 x2 x3 x4 x5 x6 D h; exact no_some h
  | succ n ih => intro x1 x2 x3 x4 x5 x6 D h; exact w_X12_areAlike_76_b hdd O hr hlk hself (fun x1 x2 x3 x4 x5 x6 D h => ih x1 x2 x3 x4 x5 x6 D h) x1 x2 x3 x4 x5 x6 D h
set_option maxHeartbeats 4000000 in
theorem w_X12_areAlike {G : va_G} {tA : Nat → ClassId} {z : Nat} {E : Ex} {p : Program} {l : Launch} {e : Env} {s : State} {m : MethodId} {args : Array Value} {below : List Frame} {meth : Method} {c : Code} {r : Int32} {D' : Dm} {dd : Nat} (hdd : 6 ≤ dd) (O : Ok G tA z E cX12_areAlike RX12 10 p s m args c) (hr : meth.sig.returnType = some .boolean) (hlk : meth.locks = false) {self : Int32 → Int32 → Int32 → Int32 → Dm → Option (Int32 × Dm)} (hself : ∀ (x1 : Int32) (x2 : Int32) (x3 : Int32) (x4 : Int32) (D1 D2 : Dm) (r1 : Int32), self x1 x2 x3 x4 D1 = some (r1, D2) → CtI l yX12_areAlike cX12_areAlike 10 (some .boolean) G tA z E dd 0 0 [.ref (z + 281), .int x1, .int x2, .int x3, .int x4] LAY D1 r1 LAY D2) (x1 : Int32) (x2 : Int32) (x3 : Int32) (x4 : Int32) (D : Dm) (h : f_X12_areAlike_e self x1 x2 x3 x4 D = some (r, D')) : BI G tA z E p l e (rmC (dd + 1) 0 0) s m args below meth c LAY D r D' 10 0 [(0, .ref (z + 281)), (1, .int x1), (2, .int x2), (3, .int x3), (4, .int x4)] [] := by
  obtain ⟨hx, hb, -, hown, hts, -⟩ := id O
  unfold f_X12_areAlike_e at h
  intro H locs ls hH hl
  refine lv_iload_n hx hb dX12_areAlike_0 rfl (lv_at hl 2 rfl) ?_
  refine lv_iload_n hx hb dX12_areAlike_1 rfl (lv_at hl 3 rfl) ?_
  refine lv_icmp_ne (tgt := 40) hx hb dX12_areAlike_2 (by decide) (fun c1 => ?_) (fun c1 => ?_)
  · have h := it_neg h c1
    refine lv_aload_n hx hb dX12_areAlike_40 rfl (lv_at hl 0 rfl) ?_
    refine h_getr O hH ly_281 rfl fl_X12_75 dX12_areAlike_41 ?_
    refine lv_iload_n hx hb dX12_areAlike_44 rfl (lv_at hl 2 rfl) ?_
    refine lv_bipush (v := 100) hx hb dX12_areAlike_45 (by decide) ?_
    refine lv_iload_n hx hb dX12_areAlike_47 rfl (lv_at hl 2 rfl) ?_
    refine lv_iadd hx hb dX12_areAlike_48 ?_
    obtain ⟨g2, h⟩ := gd_some h
    obtain ⟨D3, e4, h⟩ := lt_some h
    refine h_iast O hH ly_301 g2 e4 dX12_areAlike_49 (fun H locs hH => ?_)
    refine lv_aload_n hx hb dX12_areAlike_50 rfl (lv_at hl 0 rfl) ?_
    refine h_getr O hH ly_281 rfl fl_X12_78 dX12_areAlike_51 ?_
    refine lv_iload_n hx hb dX12_areAlike_54 rfl (lv_at hl 2 rfl) ?_
    refine lv_bipush (v := 100) hx hb dX12_areAlike_55 (by decide) ?_
    refine lv_iload_n hx hb dX12_areAlike_57 rfl (lv_at hl 2 rfl) ?_
    refine lv_iadd hx hb dX12_areAlike_58 ?_
    obtain ⟨g5, h⟩ := gd_some h
    obtain ⟨D6, e7, h⟩ := lt_some h
    refine h_iast O hH ly_302 g5 e7 dX12_areAlike_59 (fun H locs hH => ?_)
    refine lv_aload_n hx hb dX12_areAlike_60 rfl (lv_at hl 0 rfl) ?_
    refine lv_iload_n hx hb dX12_areAlike_61 rfl (lv_at hl 1 rfl) ?_
    refine lv_iload_n hx hb dX12_areAlike_62 rfl (lv_at hl 2 rfl) ?_
    refine lv_iconst (v := 1) hx hb dX12_areAlike_63 (by decide) ?_
    refine lv_iadd hx hb dX12_areAlike_64 ?_
    refine lv_iload_n hx hb dX12_areAlike_65 rfl (lv_at hl 3 rfl) ?_
    refine lv_iload hx hb dX12_areAlike_66 (lv_at hl 4 rfl) ?_
    obtain ⟨y10, D8, hc9, h⟩ := bI_some h
    refine h_callVi (As := [.int x1, .int (x2 + 1), .int x3, .int x4]) (rest := []) O hH (hself _ _ _ _ _ _ _ hc9) ml_X12_407 ly_281 rfl rfl hl.1 rfl ⟨by show _ ≤ dd + 1; omega, by show _ ≤ 64 * (dd + 1); omega⟩ (Nat.le_of_ble_eq_true rfl) dX12_areAlike_68 (fun H locs hH => ?_)
    refine lv_istore (lv' := [(5, .int y10), (0, .ref (z + 281)), (1, .int x1), (2, .int x2), (3, .int x3), (4, .int x4)]) hx hb dX12_areAlike_71 hl (by decide) rfl (fun ls hl => ?_)
    refine lv_iconst (v := 0) hx hb dX12_areAlike_73 (by decide) ?_
    refine lv_istore (lv' := [(6, .int 0), (5, .int y10), (0, .ref (z + 281)), (1, .int x1), (2, .int x2), (3, .int x3), (4, .int x4)]) hx hb dX12_areAlike_74 hl (by decide) rfl (fun ls hl => ?_)
    exact w_X12_areAlike_76 hdd O hr hlk hself FU _ _ _ _ _ _ _ h _ _ _ hH (lv_sub hl [2, 3, 4, 5, 6, 1, 0] rfl)
  · have h := it_pos h c1
    refine lv_aload_n hx hb dX12_areAlike_5 rfl (lv_at hl 0 rfl) ?_
    refine lv_iload_n hx hb dX12_areAlike_6 rfl (lv_at hl 1 rfl) ?_
    obtain ⟨y13, D11, hc12, h⟩ := bI_some h
    refine h_callVi (As := [.int x1]) (rest := []) O hH (c_X12_answersOne hc12) ml_X12_357 ly_281 rfl rfl hl.1 rfl ⟨by show _ ≤ dd + 1; omega, by show _ ≤ 64 * (dd + 1); omega⟩ (Nat.le_of_ble_eq_true rfl) dX12_areAlike_7 (fun H locs hH => ?_)
    refine lv_aload_n hx hb dX12_areAlike_10 rfl (lv_at hl 0 rfl) ?_
    refine lv_iload_n hx hb dX12_areAlike_11 rfl (lv_at hl 1 rfl) ?_
    refine lv_aload_n hx hb dX12_areAlike_12 rfl (lv_at hl 0 rfl) ?_
    refine h_geti O hH ly_281 rfl fl_X12_398 dX12_areAlike_13 ?_
    refine lv_aload_n hx hb dX12_areAlike_16 rfl (lv_at hl 0 rfl) ?_
    refine h_geti O hH ly_281 rfl fl_X12_401 dX12_areAlike_17 ?_
    refine lv_aload_n hx hb dX12_areAlike_20 rfl (lv_at hl 0 rfl) ?_
    refine h_geti O hH ly_281 rfl fl_X12_404 dX12_areAlike_21 ?_
    refine lv_aload_n hx hb dX12_areAlike_24 rfl (lv_at hl 0 rfl) ?_
    refine h_getr O hH ly_281 rfl fl_X12_78 dX12_areAlike_25 ?_
    obtain ⟨y16, D14, hc15, h⟩ := bI_some h
    refine h_callVi (As := [.int x1, .int (D11 281 49), .int (D11 281 50), .int (D11 281 51), .ref (z + 302)]) (rest := [.int y13]) O hH (c_X12_answers ly_302 hc15) ml_X12_344 ly_281 rfl rfl hl.1 rfl ⟨by show _ ≤ dd + 1; omega, by show _ ≤ 64 * (dd + 1); omega⟩ (Nat.le_of_ble_eq_true rfl) dX12_areAlike_28 (fun H locs hH => ?_)
    refine lv_icmp_ne (tgt := 38) hx hb dX12_areAlike_31 (by decide) (fun c17 => ?_) (fun c17 => ?_)
    · have h := it_neg h c17
      refine lv_iconst (v := 0) hx hb dX12_areAlike_38 (by decide) ?_
      obtain ⟨rfl, rfl⟩ := ret_i h
      exact h_zret O hr hlk zb_0 hH dX12_areAlike_39
    · have h := it_pos h c17
      refine lv_iconst (v := 1) hx hb dX12_areAlike_34 (by decide) ?_
      refine lv_goto (tgt := 39) hx hb dX12_areAlike_35 (by decide) ?_
      obtain ⟨rfl, rfl⟩ := ret_i h
      exact h_zret O hr hlk zb_1 hH dX12_areAlike_39
set_option maxHeartbeats 4000000 in
theorem c_X12_areAlike_n {l : Launch} {G : va_G} {tA : Nat → ClassId} {z : Nat} {E : Ex} : ∀ (n : Nat) (x1 : Int32) (x2 : Int32) (x3 : Int32) (x4 : Int32) (D D' : Dm) (r : Int32) , f_X12_areAlike n x1 x2 x3 x4 D = some (r, D') → CtI l yX12_areAlike cX12_areAlike 10 (some .boolean) G tA z E (6 + n) 0 0 [.ref (z + 281), .int x1, .int x2, .int x3, .int x4] LAY D r LAY D' := by
  intro n
  induction n with
  | zero => intro x1 x2 x3 x4 D D' r h; exact no_some h
  | succ n ih => intro x1 x2 x3 x4 D D' r h; exact ct_BI (by decide +kernel) (Nat.le_of_ble_eq_true rfl) (fun _ _ _ _ _ _ _ _ O hr hlk => w_X12_areAlike (dd := 6 + n) (by omega) O hr hlk ih x1 x2 x3 x4 _ h)
set_option maxHeartbeats 4000000 in
theorem c_X12_areAlike {l : Launch} {G : va_G} {tA : Nat → ClassId} {z : Nat} {E : Ex} {x1 : Int32} {x2 : Int32} {x3 : Int32} {x4 : Int32} {D D' : Dm} {r : Int32} (h : f_X12_areAlike RF x1 x2 x3 x4 D = some (r, D')) : CtI l yX12_areAlike cX12_areAlike 10 (some .boolean) G tA z E (6 + RF) 0 0 [.ref (z + 281), .int x1, .int x2, .int x3, .int x4] LAY D r LAY D' := c_X12_areAlike_n RF _ _ _ _ _ _ _ h
set_option maxHeartbeats 4000000 in
theorem w_X12_hasOf_76_b {G : va_G} {tA : Nat → ClassId} {z : Nat} {E : Ex} {p : Program} {l : Launch} {e : Env} {s : State} {m : MethodId} {args : Array Value} {below : List Frame} {meth : Method} {c : Code} {r : Int32} {D' : Dm} (O : Ok G tA z E cX12_hasOf RX12 5 p s m args c) (hr : meth.sig.returnType = some .int) (hlk : meth.locks = false) {k76 : Int32 → Int32 → Int32 → Dm → Option (Int32 × Dm)} (hk76 : ∀ (x2 : Int32) (x3 : Int32) (x4 : Int32) (D : Dm), k76 x2 x3 x4 D = some (r, D') → BI G tA z E p l e (rmC 26 0 0) s m args below meth c LAY D r D' 5 76 [(0, .ref (z + 281)), (2, .int x2), (3, .int x3), (4, .int x4)] []) (x2 : Int32) (x3 : Int32) (x4 : Int32) (D : Dm) (h : f_X12_hasOf_76_b k76 x2 x3 x4 D = some (r, D')) : BI G tA z E p l e (rmC 26 0 0) s m args below meth c LAY D r D' 5 76 [(0, .ref (z + 281)), (2, .int x2), (3, .int x3), (4, .int x4)] [] := by
  obtain ⟨hx, hb, -, hown, hts, -⟩ := id O
  unfold f_X12_hasOf_76_b at h
  intro H locs ls hH hl
  refine lv_iload hx hb dX12_hasOf_76 (lv_at hl 3 rfl) ?_
  refine lv_iload_n hx hb dX12_hasOf_78 rfl (lv_at hl 1 rfl) ?_
  refine lv_icmp_ge (tgt := 116) hx hb dX12_hasOf_79 (by decide) (fun c1 => ?_) (fun c1 => ?_)
  · have h := it_pos h c1
    refine lv_iload_n hx hb dX12_hasOf_116 rfl (lv_at hl 2 rfl) ?_
    obtain ⟨rfl, rfl⟩ := ret_i h
    exact h_iret O hr hlk hH dX12_hasOf_117
  · have h := it_neg h c1
    refine lv_aload_n hx hb dX12_hasOf_82 rfl (lv_at hl 0 rfl) ?_
    refine h_getr O hH ly_281 rfl fl_X12_69 dX12_hasOf_83 ?_
    refine lv_iload hx hb dX12_hasOf_86 (lv_at hl 3 rfl) ?_
    refine lv_aload_n hx hb dX12_hasOf_88 rfl (lv_at hl 0 rfl) ?_
    refine h_getr O hH ly_281 rfl fl_X12_84 dX12_hasOf_89 ?_
    refine lv_iload hx hb dX12_hasOf_92 (lv_at hl 3 rfl) ?_
    obtain ⟨g2, h⟩ := gd_some h
    refine h_iald O hH ly_304 g2 dX12_hasOf_94 ?_
    obtain ⟨g3, h⟩ := gd_some h
    obtain ⟨D4, e5, h⟩ := lt_some h
    refine h_iast O hH ly_299 g3 e5 dX12_hasOf_95 (fun H locs hH => ?_)
    refine lv_aload_n hx hb dX12_hasOf_96 rfl (lv_at hl 0 rfl) ?_
    refine h_getr O hH ly_281 rfl fl_X12_72 dX12_hasOf_97 ?_
    refine lv_iload hx hb dX12_hasOf_100 (lv_at hl 3 rfl) ?_
    refine lv_aload_n hx hb dX12_hasOf_102 rfl (lv_at hl 0 rfl) ?_
    refine h_getr O hH ly_281 rfl fl_X12_87 dX12_hasOf_103 ?_
    refine lv_iload hx hb dX12_hasOf_106 (lv_at hl 3 rfl) ?_
    obtain ⟨g6, h⟩ := gd_some h
    refine h_iald O hH ly_305 g6 dX12_hasOf_108 ?_
    obtain ⟨g7, h⟩ := gd_some h
    obtain ⟨D8, e9, h⟩ := lt_some h
    refine h_iast O hH ly_300 g7 e9 dX12_hasOf_109 (fun H locs hH => ?_)
    obtain ⟨y10, e11, h⟩ := lt_some h
    refine lv_iinc (v := y10) (lv' := [(4, .int y10), (0, .ref (z + 281)), (2, .int x2), (3, .int x3)]) hx hb dX12_hasOf_110 hl (k := 3) rfl (by rw [e11]; rfl) (by decide) rfl (fun ls hl => ?_)
    refine lv_goto (tgt := 76) hx hb dX12_hasOf_113 (by decide) ?_
    exact hk76 _ _ _ _ h _ _ _ hH (lv_sub hl [1, 2, 3, 0] rfl)
set_option maxHeartbeats 4000000 in
theorem w_X12_hasOf_76 {G : va_G} {tA : Nat → ClassId} {z : Nat} {E : Ex} {p : Program} {l : Launch} {e : Env} {s : State} {m : MethodId} {args : Array Value} {below : List Frame} {meth : Method} {c : Code} {r : Int32} {D' : Dm} (O : Ok G tA z E cX12_hasOf RX12 5 p s m args c) (hr : meth.sig.returnType = some .int) (hlk : meth.locks = false) : ∀ (n : Nat) (x2 : Int32) (x3 : Int32) (x4 : Int32) (D : Dm) (h : f_X12_hasOf_76 n x2 x3 x4 D = some (r, D')), BI G tA z E p l e (rmC 26 0 0) s m args below meth c LAY D r D' 5 76 [(0, .ref (z + 281)), (2, .int x2), (3, .int x3), (4, .int x4)] [] := by
  intro n
  induction n with
  | zero => intro x2 x3 x4 D h; exact no_some h
  | succ n ih => intro x2 x3 x4 D h; exact w_X12_hasOf_76_b O hr hlk (fun x2 x3 x4 D h => ih x2 x3 x4 D h) x2 x3 x4 D h
set_option maxHeartbeats 4000000 in
theorem w_X12_hasOf_27_b {G : va_G} {tA : Nat → ClassId} {z : Nat} {E : Ex} {p : Program} {l : Launch} {e : Env} {s : State} {m : MethodId} {args : Array Value} {below : List Frame} {meth : Method} {c : Code} {r : Int32} {D' : Dm} (O : Ok G tA z E cX12_hasOf RX12 5 p s m args c) (hr : meth.sig.returnType = some .int) (hlk : meth.locks = false) {k27 : Int32 → Int32 → Int32 → Dm → Option (Int32 × Dm)} (hk27 : ∀ (x1 : Int32) (x2 : Int32) (x3 : Int32) (D : Dm), k27 x1 x2 x3 D = some (r, D') → BI G tA z E p l e (rmC 26 0 0) s m args below meth c LAY D r D' 5 27 [(0, .ref (z + 281)), (1, .int x1), (2, .int x2), (3, .int x3)] []) (x1 : Int32) (x2 : Int32) (x3 : Int32) (D : Dm) (h : f_X12_hasOf_27_b k27 x1 x2 x3 D = some (r, D')) : BI G tA z E p l e (rmC 26 0 0) s m args below meth c LAY D r D' 5 27 [(0, .ref (z + 281)), (1, .int x1), (2, .int x2), (3, .int x3)] [] := by
  obtain ⟨hx, hb, -, hown, hts, -⟩ := id O
  unfold f_X12_hasOf_27_b at h
  intro H locs ls hH hl
  refine lv_iload_n hx hb dX12_hasOf_27 rfl (lv_at hl 3 rfl) ?_
  refine lv_iload_n hx hb dX12_hasOf_28 rfl (lv_at hl 2 rfl) ?_
  refine lv_icmp_ge (tgt := 62) hx hb dX12_hasOf_29 (by decide) (fun c1 => ?_) (fun c1 => ?_)
  · have h := it_pos h c1
    refine lv_aload_n hx hb dX12_hasOf_62 rfl (lv_at hl 0 rfl) ?_
    refine lv_iload_n hx hb dX12_hasOf_63 rfl (lv_at hl 1 rfl) ?_
    obtain ⟨y4, D2, hc3, h⟩ := bI_some h
    refine h_callVi (As := [.int x1]) (rest := []) O hH (c_X12_hasShort hc3) ml_X12_422 ly_281 rfl rfl hl.1 rfl ⟨Nat.le_of_ble_eq_true rfl, Nat.le_of_ble_eq_true rfl⟩ (Nat.le_of_ble_eq_true rfl) dX12_hasOf_64 (fun H locs hH => ?_)
    refine lv_istore_n (lv' := [(3, .int y4), (0, .ref (z + 281)), (1, .int x1), (2, .int x2)]) hx hb dX12_hasOf_67 rfl hl (by decide) rfl (fun ls hl => ?_)
    refine lv_aload_n hx hb dX12_hasOf_68 rfl (lv_at hl 1 rfl) ?_
    refine lv_iload_n hx hb dX12_hasOf_69 rfl (lv_at hl 3 rfl) ?_
    obtain ⟨D5, e6, h⟩ := lt_some h
    refine h_puti O hH ly_281 rfl fl_X12_319 e6 dX12_hasOf_70 (fun H locs hH => ?_)
    refine lv_iconst (v := 0) hx hb dX12_hasOf_73 (by decide) ?_
    refine lv_istore (lv' := [(4, .int 0), (3, .int y4), (0, .ref (z + 281)), (1, .int x1), (2, .int x2)]) hx hb dX12_hasOf_74 hl (by decide) rfl (fun ls hl => ?_)
    exact w_X12_hasOf_76 O hr hlk FU _ _ _ _ h _ _ _ hH (lv_sub hl [2, 4, 1, 0] rfl)
  · have h := it_neg h c1
    refine lv_aload_n hx hb dX12_hasOf_32 rfl (lv_at hl 0 rfl) ?_
    refine h_getr O hH ly_281 rfl fl_X12_84 dX12_hasOf_33 ?_
    refine lv_iload_n hx hb dX12_hasOf_36 rfl (lv_at hl 3 rfl) ?_
    refine lv_aload_n hx hb dX12_hasOf_37 rfl (lv_at hl 0 rfl) ?_
    refine h_getr O hH ly_281 rfl fl_X12_69 dX12_hasOf_38 ?_
    refine lv_iload_n hx hb dX12_hasOf_41 rfl (lv_at hl 3 rfl) ?_
    obtain ⟨g7, h⟩ := gd_some h
    refine h_iald O hH ly_299 g7 dX12_hasOf_42 ?_
    obtain ⟨g8, h⟩ := gd_some h
    obtain ⟨D9, e10, h⟩ := lt_some h
    refine h_iast O hH ly_304 g8 e10 dX12_hasOf_43 (fun H locs hH => ?_)
    refine lv_aload_n hx hb dX12_hasOf_44 rfl (lv_at hl 0 rfl) ?_
    refine h_getr O hH ly_281 rfl fl_X12_87 dX12_hasOf_45 ?_
    refine lv_iload_n hx hb dX12_hasOf_48 rfl (lv_at hl 3 rfl) ?_
    refine lv_aload_n hx hb dX12_hasOf_49 rfl (lv_at hl 0 rfl) ?_
    refine h_getr O hH ly_281 rfl fl_X12_72 dX12_hasOf_50 ?_
    refine lv_iload_n hx hb dX12_hasOf_53 rfl (lv_at hl 3 rfl) ?_
    obtain ⟨g11, h⟩ := gd_some h
    refine h_iald O hH ly_300 g11 dX12_hasOf_54 ?_
    obtain ⟨g12, h⟩ := gd_some h
    obtain ⟨D13, e14, h⟩ := lt_some h
    refine h_iast O hH ly_305 g12 e14 dX12_hasOf_55 (fun H locs hH => ?_)
    obtain ⟨y15, e16, h⟩ := lt_some h
    refine lv_iinc (v := y15) (lv' := [(3, .int y15), (0, .ref (z + 281)), (1, .int x1), (2, .int x2)]) hx hb dX12_hasOf_56 hl (k := 3) rfl (by rw [e16]; rfl) (by decide) rfl (fun ls hl => ?_)
    refine lv_goto (tgt := 27) hx hb dX12_hasOf_59 (by decide) ?_
    exact hk27 _ _ _ _ h _ _ _ hH (lv_sub hl [1, 2, 3, 0] rfl)
set_option maxHeartbeats 4000000 in
theorem w_X12_hasOf_27 {G : va_G} {tA : Nat → ClassId} {z : Nat} {E : Ex} {p : Program} {l : Launch} {e : Env} {s : State} {m : MethodId} {args : Array Value} {below : List Frame} {meth : Method} {c : Code} {r : Int32} {D' : Dm} (O : Ok G tA z E cX12_hasOf RX12 5 p s m args c) (hr : meth.sig.returnType = some .int) (hlk : meth.locks = false) : ∀ (n : Nat) (x1 : Int32) (x2 : Int32) (x3 : Int32) (D : Dm) (h : f_X12_hasOf_27 n x1 x2 x3 D = some (r, D')), BI G tA z E p l e (rmC 26 0 0) s m args below meth c LAY D r D' 5 27 [(0, .ref (z + 281)), (1, .int x1), (2, .int x2), (3, .int x3)] [] := by
  intro n
  induction n with
  | zero => intro x1 x2 x3 D h; exact no_some h
  | succ n ih => intro x1 x2 x3 D h; exact w_X12_hasOf_27_b O hr hlk (fun x1 x2 x3 D h => ih x1 x2 x3 D h) x1 x2 x3 D h
set_option maxHeartbeats 4000000 in
theorem w_X12_hasOf {G : va_G} {tA : Nat → ClassId} {z : Nat} {E : Ex} {p : Program} {l : Launch} {e : Env} {s : State} {m : MethodId} {args : Array Value} {below : List Frame} {meth : Method} {c : Code} {r : Int32} {D' : Dm} (O : Ok G tA z E cX12_hasOf RX12 5 p s m args c) (hr : meth.sig.returnType = some .int) (hlk : meth.locks = false) (x1 : Int32) (D : Dm) (h : f_X12_hasOf x1 D = some (r, D')) : BI G tA z E p l e (rmC 26 0 0) s m args below meth c LAY D r D' 5 0 [(0, .ref (z + 281)), (1, .int x1)] [] := by
  obtain ⟨hx, hb, -, hown, hts, -⟩ := id O
  unfold f_X12_hasOf at h
  intro H locs ls hH hl
  refine lv_aload_n hx hb dX12_hasOf_0 rfl (lv_at hl 0 rfl) ?_
  refine h_getr O hH ly_281 rfl fl_X12_60 dX12_hasOf_1 ?_
  refine lv_iload_n hx hb dX12_hasOf_4 rfl (lv_at hl 1 rfl) ?_
  obtain ⟨g1, h⟩ := gd_some h
  refine h_iald O hH ly_296 g1 dX12_hasOf_5 ?_
  refine lv_aload_n hx hb dX12_hasOf_6 rfl (lv_at hl 0 rfl) ?_
  refine h_geti O hH ly_281 rfl fl_X12_313 dX12_hasOf_7 ?_
  refine lv_icmp_ne (tgt := 20) hx hb dX12_hasOf_10 (by decide) (fun c2 => ?_) (fun c2 => ?_)
  · have h := it_neg h c2
    refine lv_aload_n hx hb dX12_hasOf_20 rfl (lv_at hl 0 rfl) ?_
    refine h_geti O hH ly_281 rfl fl_X12_319 dX12_hasOf_21 ?_
    refine lv_topi (fun y3 e4 => ?_)
    have h := lt_at e4 h
    refine lv_istore_n (lv' := [(2, .int y3), (0, .ref (z + 281)), (1, .int x1)]) hx hb dX12_hasOf_24 rfl hl (by decide) rfl (fun ls hl => ?_)
    refine lv_iconst (v := 0) hx hb dX12_hasOf_25 (by decide) ?_
    refine lv_istore_n (lv' := [(3, .int 0), (2, .int y3), (0, .ref (z + 281)), (1, .int x1)]) hx hb dX12_hasOf_26 rfl hl (by decide) rfl (fun ls hl => ?_)
    exact w_X12_hasOf_27 O hr hlk FU _ _ _ _ h _ _ _ hH (lv_sub hl [2, 3, 1, 0] rfl)
  · have h := it_pos h c2
    refine lv_aload_n hx hb dX12_hasOf_13 rfl (lv_at hl 0 rfl) ?_
    refine h_getr O hH ly_281 rfl fl_X12_57 dX12_hasOf_14 ?_
    refine lv_iload_n hx hb dX12_hasOf_17 rfl (lv_at hl 1 rfl) ?_
    obtain ⟨g5, h⟩ := gd_some h
    refine h_iald O hH ly_295 g5 dX12_hasOf_18 ?_
    obtain ⟨rfl, rfl⟩ := ret_i h
    exact h_iret O hr hlk hH dX12_hasOf_19
set_option maxHeartbeats 4000000 in
theorem c_X12_hasOf {l : Launch} {G : va_G} {tA : Nat → ClassId} {z : Nat} {E : Ex} {x1 : Int32} {D D' : Dm} {r : Int32} (h : f_X12_hasOf x1 D = some (r, D')) : CtI l yX12_hasOf cX12_hasOf 5 (some .int) G tA z E 26 0 0 [.ref (z + 281), .int x1] LAY D r LAY D' :=
  ct_BI (by decide +kernel) (Nat.le_of_ble_eq_true rfl) (fun _ _ _ _ _ _ _ _ O hr hlk => w_X12_hasOf O hr hlk _ _ h)
set_option maxHeartbeats 4000000 in
theorem w_X12_runsShort_6_b {G : va_G} {tA : Nat → ClassId} {z : Nat} {E : Ex} {p : Program} {l : Launch} {e : Env} {s : State} {m : MethodId} {args : Array Value} {below : List Frame} {meth : Method} {c : Code} {D' : Dm} (O : Ok G tA z E cX12_runsShort RX12 3 p s m args c) (hr : meth.sig.returnType = none) (hlk : meth.locks = false) {k6 : Int32 → Int32 → Dm → Option Dm} (hk6 : ∀ (x1 : Int32) (x2 : Int32) (D : Dm), k6 x1 x2 D = some D' → BV G tA z E p l e (rmC 4 0 0) s m args below meth c LAY D D' 3 6 [(0, .ref (z + 281)), (1, .int x1), (2, .int x2)] []) (x1 : Int32) (x2 : Int32) (D : Dm) (h : f_X12_runsShort_6_b k6 x1 x2 D = some D') : BV G tA z E p l e (rmC 4 0 0) s m args below meth c LAY D D' 3 6 [(0, .ref (z + 281)), (1, .int x1), (2, .int x2)] [] := by
  obtain ⟨hx, hb, -, hown, hts, -⟩ := id O
  unfold f_X12_runsShort_6_b at h
  intro H locs ls hH hl
  refine lv_iload_n hx hb dX12_runsShort_6 rfl (lv_at hl 2 rfl) ?_
  refine lv_aload_n hx hb dX12_runsShort_7 rfl (lv_at hl 0 rfl) ?_
  refine h_getr O hH ly_281 rfl fl_X12_39 dX12_runsShort_8 ?_
  refine lv_iload_n hx hb dX12_runsShort_11 rfl (lv_at hl 1 rfl) ?_
  obtain ⟨g1, h⟩ := gd_some h
  refine h_iald O hH ly_289 g1 dX12_runsShort_12 ?_
  refine lv_icmp_ge (tgt := 49) hx hb dX12_runsShort_13 (by decide) (fun c2 => ?_) (fun c2 => ?_)
  · have h := it_pos h c2
    refine lv_aload_n hx hb dX12_runsShort_49 rfl (lv_at hl 0 rfl) ?_
    refine lv_aload_n hx hb dX12_runsShort_50 rfl (lv_at hl 0 rfl) ?_
    refine h_geti O hH ly_281 rfl fl_X12_135 dX12_runsShort_51 ?_
    obtain ⟨D3, e4, h⟩ := lt_some h
    refine h_puti O hH ly_281 rfl fl_X12_398 e4 dX12_runsShort_54 (fun H locs hH => ?_)
    refine lv_aload_n hx hb dX12_runsShort_57 rfl (lv_at hl 0 rfl) ?_
    refine lv_aload_n hx hb dX12_runsShort_58 rfl (lv_at hl 0 rfl) ?_
    refine h_geti O hH ly_281 rfl fl_X12_138 dX12_runsShort_59 ?_
    obtain ⟨D5, e6, h⟩ := lt_some h
    refine h_puti O hH ly_281 rfl fl_X12_401 e6 dX12_runsShort_62 (fun H locs hH => ?_)
    refine lv_aload_n hx hb dX12_runsShort_65 rfl (lv_at hl 0 rfl) ?_
    refine lv_aload_n hx hb dX12_runsShort_66 rfl (lv_at hl 0 rfl) ?_
    refine h_geti O hH ly_281 rfl fl_X12_141 dX12_runsShort_67 ?_
    obtain ⟨D7, e8, h⟩ := lt_some h
    refine h_puti O hH ly_281 rfl fl_X12_404 e8 dX12_runsShort_70 (fun H locs hH => ?_)
    obtain rfl := ret_v h
    exact h_vret O hr hlk hH dX12_runsShort_73
  · have h := it_neg h c2
    refine lv_aload_n hx hb dX12_runsShort_16 rfl (lv_at hl 0 rfl) ?_
    refine lv_iconst (v := 0) hx hb dX12_runsShort_17 (by decide) ?_
    refine lv_aload_n hx hb dX12_runsShort_18 rfl (lv_at hl 0 rfl) ?_
    refine h_getr O hH ly_281 rfl fl_X12_42 dX12_runsShort_19 ?_
    refine lv_bipush (v := 6) hx hb dX12_runsShort_22 (by decide) ?_
    refine lv_iload_n hx hb dX12_runsShort_24 rfl (lv_at hl 1 rfl) ?_
    refine lv_imul hx hb dX12_runsShort_25 ?_
    refine lv_iload_n hx hb dX12_runsShort_26 rfl (lv_at hl 2 rfl) ?_
    refine lv_iadd hx hb dX12_runsShort_27 ?_
    obtain ⟨g9, h⟩ := gd_some h
    refine h_iald O hH ly_290 g9 dX12_runsShort_28 ?_
    refine lv_aload_n hx hb dX12_runsShort_29 rfl (lv_at hl 0 rfl) ?_
    refine h_getr O hH ly_281 rfl fl_X12_45 dX12_runsShort_30 ?_
    refine lv_bipush (v := 6) hx hb dX12_runsShort_33 (by decide) ?_
    refine lv_iload_n hx hb dX12_runsShort_35 rfl (lv_at hl 1 rfl) ?_
    refine lv_imul hx hb dX12_runsShort_36 ?_
    refine lv_iload_n hx hb dX12_runsShort_37 rfl (lv_at hl 2 rfl) ?_
    refine lv_iadd hx hb dX12_runsShort_38 ?_
    obtain ⟨g10, h⟩ := gd_some h
    refine h_iald O hH ly_291 g10 dX12_runsShort_39 ?_
    obtain ⟨D11, hc12, h⟩ := bV_some h
    refine h_callVv (As := [.int 0, .int (D 290 (Int32.toNatClampNeg ((6 * x1) + x2))), .int (D 291 (Int32.toNatClampNeg ((6 * x1) + x2)))]) (rest := []) O hH (c_X12_goesBy hc12) ml_X12_279 ly_281 rfl rfl hl.1 rfl ⟨Nat.le_of_ble_eq_true rfl, Nat.le_of_ble_eq_true rfl⟩ (Nat.le_of_ble_eq_true rfl) dX12_runsShort_40 (fun H locs hH => ?_)
    obtain ⟨y13, e14, h⟩ := lt_some h
    refine lv_iinc (v := y13) (lv' := [(2, .int y13), (0, .ref (z + 281)), (1, .int x1)]) hx hb dX12_runsShort_43 hl (k := 2) rfl (by rw [e14]; rfl) (by decide) rfl (fun ls hl => ?_)
    refine lv_goto (tgt := 6) hx hb dX12_runsShort_46 (by decide) ?_
    exact hk6 _ _ _ h _ _ _ hH (lv_sub hl [1, 2, 0] rfl)
set_option maxHeartbeats 4000000 in
theorem w_X12_runsShort_6 {G : va_G} {tA : Nat → ClassId} {z : Nat} {E : Ex} {p : Program} {l : Launch} {e : Env} {s : State} {m : MethodId} {args : Array Value} {below : List Frame} {meth : Method} {c : Code} {D' : Dm} (O : Ok G tA z E cX12_runsShort RX12 3 p s m args c) (hr : meth.sig.returnType = none) (hlk : meth.locks = false) : ∀ (n : Nat) (x1 : Int32) (x2 : Int32) (D : Dm) (h : f_X12_runsShort_6 n x1 x2 D = some D'), BV G tA z E p l e (rmC 4 0 0) s m args below meth c LAY D D' 3 6 [(0, .ref (z + 281)), (1, .int x1), (2, .int x2)] [] := by
  intro n
  induction n with
  | zero => intro x1 x2 D h; exact no_some h
  | succ n ih => intro x1 x2 D h; exact w_X12_runsShort_6_b O hr hlk (fun x1 x2 D h => ih x1 x2 D h) x1 x2 D h
set_option maxHeartbeats 4000000 in
theorem w_X12_runsShort {G : va_G} {tA : Nat → ClassId} {z : Nat} {E : Ex} {p : Program} {l : Launch} {e : Env} {s : State} {m : MethodId} {args : Array Value} {below : List Frame} {meth : Method} {c : Code} {D' : Dm} (O : Ok G tA z E cX12_runsShort RX12 3 p s m args c) (hr : meth.sig.returnType = none) (hlk : meth.locks = false) (x1 : Int32) (D : Dm) (h : f_X12_runsShort x1 D = some D') : BV G tA z E p l e (rmC 4 0 0) s m args below meth c LAY D D' 3 0 [(0, .ref (z + 281)), (1, .int x1)] [] := by
  obtain ⟨hx, hb, -, hown, hts, -⟩ := id O
  unfold f_X12_runsShort at h
  intro H locs ls hH hl
  refine lv_aload_n hx hb dX12_runsShort_0 rfl (lv_at hl 0 rfl) ?_
  obtain ⟨D1, hc2, h⟩ := bV_some h
  refine h_callVv (As := []) (rest := []) O hH (c_X12_starts hc2) ml_X12_276 ly_281 rfl rfl hl.1 rfl ⟨Nat.le_of_ble_eq_true rfl, Nat.le_of_ble_eq_true rfl⟩ (Nat.le_of_ble_eq_true rfl) dX12_runsShort_1 (fun H locs hH => ?_)
  refine lv_iconst (v := 0) hx hb dX12_runsShort_4 (by decide) ?_
  refine lv_istore_n (lv' := [(2, .int 0), (0, .ref (z + 281)), (1, .int x1)]) hx hb dX12_runsShort_5 rfl hl (by decide) rfl (fun ls hl => ?_)
  exact w_X12_runsShort_6 O hr hlk FU _ _ _ h _ _ _ hH (lv_sub hl [1, 2, 0] rfl)
set_option maxHeartbeats 4000000 in
theorem c_X12_runsShort {l : Launch} {G : va_G} {tA : Nat → ClassId} {z : Nat} {E : Ex} {x1 : Int32} {D D' : Dm} (h : f_X12_runsShort x1 D = some D') : CtV l yX12_runsShort cX12_runsShort 3 G tA z E 4 0 0 [.ref (z + 281), .int x1] LAY D LAY D' :=
  ct_BV (by decide +kernel) (Nat.le_of_ble_eq_true rfl) (fun _ _ _ _ _ _ _ _ O hr hlk => w_X12_runsShort O hr hlk _ _ h)
set_option maxHeartbeats 4000000 in
theorem w_X12_wayTo_102 {G : va_G} {tA : Nat → ClassId} {z : Nat} {E : Ex} {p : Program} {l : Launch} {e : Env} {s : State} {m : MethodId} {args : Array Value} {below : List Frame} {meth : Method} {c : Code} {r : Int32} {D' : Dm} (O : Ok G tA z E cX12_wayTo RX12 7 p s m args c) (hr : meth.sig.returnType = some .int) (hlk : meth.locks = false) {k41 : Int32 → Int32 → Dm → Option (Int32 × Dm)} (hk41 : ∀ (x1 : Int32) (x4 : Int32) (D : Dm), k41 x1 x4 D = some (r, D') → BI G tA z E p l e (rmC 27 0 0) s m args below meth c LAY D r D' 7 41 [(0, .ref (z + 281)), (1, .int x1), (4, .int x4)] []) (x1 : Int32) (x4 : Int32) (x5 : Int32) (D : Dm) (h : f_X12_wayTo_102 k41 x1 x4 x5 D = some (r, D')) : BI G tA z E p l e (rmC 27 0 0) s m args below meth c LAY D r D' 7 102 [(0, .ref (z + 281)), (1, .int x1), (4, .int x4), (5, .int x5)] [] := by
  obtain ⟨hx, hb, -, hown, hts, -⟩ := id O
  unfold f_X12_wayTo_102 at h
  intro H locs ls hH hl
  refine lv_iload hx hb dX12_wayTo_102 (lv_at hl 3 rfl) ?_
  refine lv_if_eq (tgt := 110) hx hb dX12_wayTo_104 (by decide) (fun c1 => ?_) (fun c1 => ?_)
  · have h := it_pos h c1
    obtain ⟨y2, e3, h⟩ := lt_some h
    refine lv_iinc (v := y2) (lv' := [(4, .int y2), (0, .ref (z + 281)), (1, .int x1), (5, .int x5)]) hx hb dX12_wayTo_110 hl (k := 2) rfl (by rw [e3]; rfl) (by decide) rfl (fun ls hl => ?_)
    refine lv_goto (tgt := 41) hx hb dX12_wayTo_113 (by decide) ?_
    exact hk41 _ _ _ h _ _ _ hH (lv_sub hl [1, 2, 0] rfl)
  · have h := it_neg h c1
    refine lv_iload hx hb dX12_wayTo_107 (lv_at hl 2 rfl) ?_
    obtain ⟨rfl, rfl⟩ := ret_i h
    exact h_iret O hr hlk hH dX12_wayTo_109
set_option maxHeartbeats 4000000 in
theorem w_X12_wayTo_65_b {G : va_G} {tA : Nat → ClassId} {z : Nat} {E : Ex} {p : Program} {l : Launch} {e : Env} {s : State} {m : MethodId} {args : Array Value} {below : List Frame} {meth : Method} {c : Code} {r : Int32} {D' : Dm} (O : Ok G tA z E cX12_wayTo RX12 7 p s m args c) (hr : meth.sig.returnType = some .int) (hlk : meth.locks = false) {k41 : Int32 → Int32 → Dm → Option (Int32 × Dm)} (hk41 : ∀ (x1 : Int32) (x4 : Int32) (D : Dm), k41 x1 x4 D = some (r, D') → BI G tA z E p l e (rmC 27 0 0) s m args below meth c LAY D r D' 7 41 [(0, .ref (z + 281)), (1, .int x1), (4, .int x4)] []) {k65 : Int32 → Int32 → Int32 → Int32 → Dm → Option (Int32 × Dm)} (hk65 : ∀ (x1 : Int32) (x4 : Int32) (x5 : Int32) (x6 : Int32) (D : Dm), k65 x1 x4 x5 x6 D = some (r, D') → BI G tA z E p l e (rmC 27 0 0) s m args below meth c LAY D r D' 7 65 [(0, .ref (z + 281)), (1, .int x1), (4, .int x4), (5, .int x5), (6, .int x6)] []) (x1 : Int32) (x4 : Int32) (x5 : Int32) (x6 : Int32) (D : Dm) (h : f_X12_wayTo_65_b k41 k65 x1 x4 x5 x6 D = some (r, D')) : BI G tA z E p l e (rmC 27 0 0) s m args below meth c LAY D r D' 7 65 [(0, .ref (z + 281)), (1, .int x1), (4, .int x4), (5, .int x5), (6, .int x6)] [] := by
  obtain ⟨hx, hb, -, hown, hts, -⟩ := id O
  unfold f_X12_wayTo_65_b at h
  intro H locs ls hH hl
  refine lv_iload hx hb dX12_wayTo_65 (lv_at hl 4 rfl) ?_
  refine lv_aload_n hx hb dX12_wayTo_67 rfl (lv_at hl 0 rfl) ?_
  refine h_geti O hH ly_281 rfl fl_X12_313 dX12_wayTo_68 ?_
  refine lv_icmp_ge (tgt := 102) hx hb dX12_wayTo_71 (by decide) (fun c1 => ?_) (fun c1 => ?_)
  · have h := it_pos h c1
    exact w_X12_wayTo_102 O hr hlk hk41 _ _ _ _ h _ _ _ hH (lv_sub hl [0, 1, 2, 3] rfl)
  · have h := it_neg h c1
    refine lv_iload hx hb dX12_wayTo_74 (lv_at hl 3 rfl) ?_
    refine lv_if_eq (tgt := 102) hx hb dX12_wayTo_76 (by decide) (fun c2 => ?_) (fun c2 => ?_)
    · have h := it_pos h c2
      exact w_X12_wayTo_102 O hr hlk hk41 _ _ _ _ h _ _ _ hH (lv_sub hl [0, 1, 2, 3] rfl)
    · have h := it_neg h c2
      refine lv_aload_n hx hb dX12_wayTo_79 rfl (lv_at hl 0 rfl) ?_
      refine lv_iload hx hb dX12_wayTo_80 (lv_at hl 4 rfl) ?_
      refine lv_iconst (v := 0) hx hb dX12_wayTo_82 (by decide) ?_
      refine lv_aload_n hx hb dX12_wayTo_83 rfl (lv_at hl 0 rfl) ?_
      refine lv_iload hx hb dX12_wayTo_84 (lv_at hl 4 rfl) ?_
      obtain ⟨y5, D3, hc4, h⟩ := bI_some h
      refine h_callVi (As := [.int x6]) (rest := [.int 0, .int x6, .ref (z + 281)]) O hH (c_X12_ownOf hc4) ml_X12_372 ly_281 rfl rfl hl.1 rfl ⟨Nat.le_of_ble_eq_true rfl, Nat.le_of_ble_eq_true rfl⟩ (Nat.le_of_ble_eq_true rfl) dX12_wayTo_86 (fun H locs hH => ?_)
      refine lv_iload hx hb dX12_wayTo_89 (lv_at hl 2 rfl) ?_
      obtain ⟨y8, D6, hc7, h⟩ := bI_some h
      refine h_callVi (As := [.int x6, .int 0, .int y5, .int x4]) (rest := []) O hH (c_X12_areAlike hc7) ml_X12_407 ly_281 rfl rfl hl.1 rfl ⟨Nat.le_of_ble_eq_true rfl, Nat.le_of_ble_eq_true rfl⟩ (Nat.le_of_ble_eq_true rfl) dX12_wayTo_91 (fun H locs hH => ?_)
      refine lv_istore (lv' := [(5, .int y8), (0, .ref (z + 281)), (1, .int x1), (4, .int x4), (6, .int x6)]) hx hb dX12_wayTo_94 hl (by decide) rfl (fun ls hl => ?_)
      obtain ⟨y9, e10, h⟩ := lt_some h
      refine lv_iinc (v := y9) (lv' := [(6, .int y9), (5, .int y8), (0, .ref (z + 281)), (1, .int x1), (4, .int x4)]) hx hb dX12_wayTo_96 hl (k := 4) rfl (by rw [e10]; rfl) (by decide) rfl (fun ls hl => ?_)
      refine lv_goto (tgt := 65) hx hb dX12_wayTo_99 (by decide) ?_
      exact hk65 _ _ _ _ _ h _ _ _ hH (lv_sub hl [2, 3, 4, 1, 0] rfl)
set_option maxHeartbeats 4000000 in
theorem w_X12_wayTo_65 {G : va_G} {tA : Nat → ClassId} {z : Nat} {E : Ex} {p : Program} {l : Launch} {e : Env} {s : State} {m : MethodId} {args : Array Value} {below : List Frame} {meth : Method} {c : Code} {r : Int32} {D' : Dm} (O : Ok G tA z E cX12_wayTo RX12 7 p s m args c) (hr : meth.sig.returnType = some .int) (hlk : meth.locks = false) {k41 : Int32 → Int32 → Dm → Option (Int32 × Dm)} (hk41 : ∀ (x1 : Int32) (x4 : Int32) (D : Dm), k41 x1 x4 D = some (r, D') → BI G tA z E p l e (rmC 27 0 0) s m args below meth c LAY D r D' 7 41 [(0, .ref (z + 281)), (1, .int x1), (4, .int x4)] []) : ∀ (n : Nat) (x1 : Int32) (x4 : Int32) (x5 : Int32) (x6 : Int32) (D : Dm) (h : f_X12_wayTo_65 k41 n x1 x4 x5 x6 D = some (r, D')), BI G tA z E p l e (rmC 27 0 0) s m args below meth c LAY D r D' 7 65 [(0, .ref (z + 281)), (1, .int x1), (4, .int x4), (5, .int x5), (6, .int x6)] [] := by
  intro n
  induction n with
  | zero => intro x1 x4 x5 x6 D h; exact no_some h
  | succ n ih => intro x1 x4 x5 x6 D h; exact w_X12_wayTo_65_b O hr hlk hk41 (fun x1 x4 x5 x6 D h => ih x1 x4 x5 x6 D h) x1 x4 x5 x6 D h
set_option maxHeartbeats 4000000 in
theorem w_X12_wayTo_56 {G : va_G} {tA : Nat → ClassId} {z : Nat} {E : Ex} {p : Program} {l : Launch} {e : Env} {s : State} {m : MethodId} {args : Array Value} {below : List Frame} {meth : Method} {c : Code} {r : Int32} {D' : Dm} (O : Ok G tA z E cX12_wayTo RX12 7 p s m args c) (hr : meth.sig.returnType = some .int) (hlk : meth.locks = false) {k41 : Int32 → Int32 → Dm → Option (Int32 × Dm)} (hk41 : ∀ (x1 : Int32) (x4 : Int32) (D : Dm), k41 x1 x4 D = some (r, D') → BI G tA z E p l e (rmC 27 0 0) s m args below meth c LAY D r D' 7 41 [(0, .ref (z + 281)), (1, .int x1), (4, .int x4)] []) (x1 : Int32) (x4 : Int32) (xs0 : Int32) (xs1 : Int32) (D : Dm) (h : f_X12_wayTo_56 k41 x1 x4 xs0 xs1 D = some (r, D')) : BI G tA z E p l e (rmC 27 0 0) s m args below meth c LAY D r D' 7 56 [(0, .ref (z + 281)), (1, .int x1), (4, .int x4)] [.int xs0, .int xs1] := by
  obtain ⟨hx, hb, -, hown, hts, -⟩ := id O
  unfold f_X12_wayTo_56 at h
  intro H locs ls hH hl
  refine lv_icmp_ge (tgt := 116) hx hb dX12_wayTo_56 (by decide) (fun c1 => ?_) (fun c1 => ?_)
  · have h := it_pos h c1
    refine lv_iconst (v := (-1)) hx hb dX12_wayTo_116 (by decide) ?_
    obtain ⟨rfl, rfl⟩ := ret_i h
    exact h_iret O hr hlk hH dX12_wayTo_117
  · have h := it_neg h c1
    refine lv_iconst (v := 1) hx hb dX12_wayTo_59 (by decide) ?_
    refine lv_istore (lv' := [(5, .int 1), (0, .ref (z + 281)), (1, .int x1), (4, .int x4)]) hx hb dX12_wayTo_60 hl (by decide) rfl (fun ls hl => ?_)
    refine lv_iconst (v := 0) hx hb dX12_wayTo_62 (by decide) ?_
    refine lv_istore (lv' := [(6, .int 0), (5, .int 1), (0, .ref (z + 281)), (1, .int x1), (4, .int x4)]) hx hb dX12_wayTo_63 hl (by decide) rfl (fun ls hl => ?_)
    exact w_X12_wayTo_65 O hr hlk hk41 FU _ _ _ _ _ h _ _ _ hH (lv_sub hl [2, 3, 4, 1, 0] rfl)
set_option maxHeartbeats 4000000 in
theorem w_X12_wayTo_41_b {G : va_G} {tA : Nat → ClassId} {z : Nat} {E : Ex} {p : Program} {l : Launch} {e : Env} {s : State} {m : MethodId} {args : Array Value} {below : List Frame} {meth : Method} {c : Code} {r : Int32} {D' : Dm} (O : Ok G tA z E cX12_wayTo RX12 7 p s m args c) (hr : meth.sig.returnType = some .int) (hlk : meth.locks = false) {k41 : Int32 → Int32 → Dm → Option (Int32 × Dm)} (hk41 : ∀ (x1 : Int32) (x4 : Int32) (D : Dm), k41 x1 x4 D = some (r, D') → BI G tA z E p l e (rmC 27 0 0) s m args below meth c LAY D r D' 7 41 [(0, .ref (z + 281)), (1, .int x1), (4, .int x4)] []) (x1 : Int32) (x4 : Int32) (D : Dm) (h : f_X12_wayTo_41_b k41 x1 x4 D = some (r, D')) : BI G tA z E p l e (rmC 27 0 0) s m args below meth c LAY D r D' 7 41 [(0, .ref (z + 281)), (1, .int x1), (4, .int x4)] [] := by
  obtain ⟨hx, hb, -, hown, hts, -⟩ := id O
  unfold f_X12_wayTo_41_b at h
  intro H locs ls hH hl
  refine lv_iload hx hb dX12_wayTo_41 (lv_at hl 2 rfl) ?_
  refine lv_iload_n hx hb dX12_wayTo_43 rfl (lv_at hl 1 rfl) ?_
  obtain ⟨y3, D1, hc2, h⟩ := bI_some h
  refine h_callSi (As := [.int x1]) (rest := [.int x4]) O hH (c_X12_bits hc2) ml_X12_410 rfl hl.1 rfl ⟨Nat.le_of_ble_eq_true rfl, Nat.le_of_ble_eq_true rfl⟩ (Nat.le_of_ble_eq_true rfl) dX12_wayTo_44 (fun H locs hH => ?_)
  refine lv_iconst (v := 1) hx hb dX12_wayTo_47 (by decide) ?_
  refine lv_icmp_le (tgt := 55) hx hb dX12_wayTo_48 (by decide) (fun c4 => ?_) (fun c4 => ?_)
  · have h := it_pos h c4
    refine lv_iconst (v := 1) hx hb dX12_wayTo_55 (by decide) ?_
    exact w_X12_wayTo_56 O hr hlk hk41 _ _ _ _ _ h _ _ _ hH (lv_sub hl [0, 1, 2] rfl)
  · have h := it_neg h c4
    refine lv_iconst (v := 2) hx hb dX12_wayTo_51 (by decide) ?_
    refine lv_goto (tgt := 56) hx hb dX12_wayTo_52 (by decide) ?_
    exact w_X12_wayTo_56 O hr hlk hk41 _ _ _ _ _ h _ _ _ hH (lv_sub hl [0, 1, 2] rfl)
set_option maxHeartbeats 4000000 in
theorem w_X12_wayTo_41 {G : va_G} {tA : Nat → ClassId} {z : Nat} {E : Ex} {p : Program} {l : Launch} {e : Env} {s : State} {m : MethodId} {args : Array Value} {below : List Frame} {meth : Method} {c : Code} {r : Int32} {D' : Dm} (O : Ok G tA z E cX12_wayTo RX12 7 p s m args c) (hr : meth.sig.returnType = some .int) (hlk : meth.locks = false) : ∀ (n : Nat) (x1 : Int32) (x4 : Int32) (D : Dm) (h : f_X12_wayTo_41 n x1 x4 D = some (r, D')), BI G tA z E p l e (rmC 27 0 0) s m args below meth c LAY D r D' 7 41 [(0, .ref (z + 281)), (1, .int x1), (4, .int x4)] [] := by
  intro n
  induction n with
  | zero => intro x1 x4 D h; exact no_some h
  | succ n ih => intro x1 x4 D h; exact w_X12_wayTo_41_b O hr hlk (fun x1 x4 D h => ih x1 x4 D h) x1 x4 D h
set_option maxHeartbeats 4000000 in
theorem w_X12_wayTo {G : va_G} {tA : Nat → ClassId} {z : Nat} {E : Ex} {p : Program} {l : Launch} {e : Env} {s : State} {m : MethodId} {args : Array Value} {below : List Frame} {meth : Method} {c : Code} {r : Int32} {D' : Dm} (O : Ok G tA z E cX12_wayTo RX12 7 p s m args c) (hr : meth.sig.returnType = some .int) (hlk : meth.locks = false) (x1 : Int32) (x2 : Int32) (D : Dm) (h : f_X12_wayTo x1 x2 D = some (r, D')) : BI G tA z E p l e (rmC 27 0 0) s m args below meth c LAY D r D' 7 0 [(0, .ref (z + 281)), (1, .int x1), (2, .int x2)] [] := by
  obtain ⟨hx, hb, -, hown, hts, -⟩ := id O
  unfold f_X12_wayTo at h
  intro H locs ls hH hl
  refine lv_aload_n hx hb dX12_wayTo_0 rfl (lv_at hl 0 rfl) ?_
  refine lv_iload_n hx hb dX12_wayTo_1 rfl (lv_at hl 2 rfl) ?_
  obtain ⟨y3, D1, hc2, h⟩ := bI_some h
  refine h_callVi (As := [.int x2]) (rest := []) O hH (c_X12_hasOf hc2) ml_X12_416 ly_281 rfl rfl hl.1 rfl ⟨Nat.le_of_ble_eq_true rfl, Nat.le_of_ble_eq_true rfl⟩ (Nat.le_of_ble_eq_true rfl) dX12_wayTo_2 (fun H locs hH => ?_)
  refine lv_istore_n (lv' := [(3, .int y3), (0, .ref (z + 281)), (1, .int x1), (2, .int x2)]) hx hb dX12_wayTo_5 rfl hl (by decide) rfl (fun ls hl => ?_)
  refine lv_iload_n hx hb dX12_wayTo_6 rfl (lv_at hl 2 rfl) ?_
  obtain ⟨y6, D4, hc5, h⟩ := bI_some h
  refine h_callSi (As := [.int x1]) (rest := []) O hH (c_X12_bits hc5) ml_X12_410 rfl hl.1 rfl ⟨Nat.le_of_ble_eq_true rfl, Nat.le_of_ble_eq_true rfl⟩ (Nat.le_of_ble_eq_true rfl) dX12_wayTo_7 (fun H locs hH => ?_)
  refine lv_iload_n hx hb dX12_wayTo_10 rfl (lv_at hl 0 rfl) ?_
  obtain ⟨y9, D7, hc8, h⟩ := bI_some h
  refine h_callSi (As := [.int y3]) (rest := [.int y6]) O hH (c_X12_bits hc8) ml_X12_410 rfl hl.1 rfl ⟨Nat.le_of_ble_eq_true rfl, Nat.le_of_ble_eq_true rfl⟩ (Nat.le_of_ble_eq_true rfl) dX12_wayTo_11 (fun H locs hH => ?_)
  refine lv_icmp_eq (tgt := 19) hx hb dX12_wayTo_14 (by decide) (fun c10 => ?_) (fun c10 => ?_)
  · have h := it_pos h c10
    refine lv_aload_n hx hb dX12_wayTo_19 rfl (lv_at hl 1 rfl) ?_
    refine lv_iload_n hx hb dX12_wayTo_20 rfl (lv_at hl 2 rfl) ?_
    obtain ⟨D11, e12, h⟩ := lt_some h
    refine h_puti O hH ly_281 rfl fl_X12_389 e12 dX12_wayTo_21 (fun H locs hH => ?_)
    refine lv_aload_n hx hb dX12_wayTo_24 rfl (lv_at hl 1 rfl) ?_
    refine lv_iload_n hx hb dX12_wayTo_25 rfl (lv_at hl 0 rfl) ?_
    obtain ⟨D13, e14, h⟩ := lt_some h
    refine h_puti O hH ly_281 rfl fl_X12_395 e14 dX12_wayTo_26 (fun H locs hH => ?_)
    refine lv_aload_n hx hb dX12_wayTo_29 rfl (lv_at hl 1 rfl) ?_
    obtain ⟨D15, hc16, h⟩ := bV_some h
    refine h_callVv (As := []) (rest := []) O hH (c_X12_keepsOne hc16) ml_X12_369 ly_281 rfl rfl hl.1 rfl ⟨Nat.le_of_ble_eq_true rfl, Nat.le_of_ble_eq_true rfl⟩ (Nat.le_of_ble_eq_true rfl) dX12_wayTo_30 (fun H locs hH => ?_)
    refine lv_aload_n hx hb dX12_wayTo_33 rfl (lv_at hl 1 rfl) ?_
    refine lv_iload_n hx hb dX12_wayTo_34 rfl (lv_at hl 3 rfl) ?_
    obtain ⟨D17, hc18, h⟩ := bV_some h
    refine h_callVv (As := [.int x2]) (rest := []) O hH (c_X12_runsShort hc18) ml_X12_419 ly_281 rfl rfl hl.1 rfl ⟨Nat.le_of_ble_eq_true rfl, Nat.le_of_ble_eq_true rfl⟩ (Nat.le_of_ble_eq_true rfl) dX12_wayTo_35 (fun H locs hH => ?_)
    refine lv_iconst (v := 0) hx hb dX12_wayTo_38 (by decide) ?_
    refine lv_istore (lv' := [(4, .int 0), (3, .int y3), (0, .ref (z + 281)), (1, .int x1), (2, .int x2)]) hx hb dX12_wayTo_39 hl (by decide) rfl (fun ls hl => ?_)
    exact w_X12_wayTo_41 O hr hlk FU _ _ _ h _ _ _ hH (lv_sub hl [2, 3, 0] rfl)
  · have h := it_neg h c10
    refine lv_iconst (v := (-1)) hx hb dX12_wayTo_17 (by decide) ?_
    obtain ⟨rfl, rfl⟩ := ret_i h
    exact h_iret O hr hlk hH dX12_wayTo_18
set_option maxHeartbeats 4000000 in
theorem c_X12_wayTo {l : Launch} {G : va_G} {tA : Nat → ClassId} {z : Nat} {E : Ex} {x1 : Int32} {x2 : Int32} {D D' : Dm} {r : Int32} (h : f_X12_wayTo x1 x2 D = some (r, D')) : CtI l yX12_wayTo cX12_wayTo 7 (some .int) G tA z E 27 0 0 [.ref (z + 281), .int x1, .int x2] LAY D r LAY D' :=
  ct_BI (by decide +kernel) (Nat.le_of_ble_eq_true rfl) (fun _ _ _ _ _ _ _ _ O hr hlk => w_X12_wayTo O hr hlk _ _ _ h)
set_option maxHeartbeats 4000000 in
theorem w_X12_likeOf_2_b {G : va_G} {tA : Nat → ClassId} {z : Nat} {E : Ex} {p : Program} {l : Launch} {e : Env} {s : State} {m : MethodId} {args : Array Value} {below : List Frame} {meth : Method} {c : Code} {r : Int32} {D' : Dm} (O : Ok G tA z E cX12_likeOf RX12 3 p s m args c) (hr : meth.sig.returnType = some .int) (hlk : meth.locks = false) {k2 : Int32 → Int32 → Dm → Option (Int32 × Dm)} (hk2 : ∀ (x1 : Int32) (x2 : Int32) (D : Dm), k2 x1 x2 D = some (r, D') → BI G tA z E p l e (rmC 28 0 0) s m args below meth c LAY D r D' 3 2 [(0, .ref (z + 281)), (1, .int x1), (2, .int x2)] []) (x1 : Int32) (x2 : Int32) (D : Dm) (h : f_X12_likeOf_2_b k2 x1 x2 D = some (r, D')) : BI G tA z E p l e (rmC 28 0 0) s m args below meth c LAY D r D' 3 2 [(0, .ref (z + 281)), (1, .int x1), (2, .int x2)] [] := by
  obtain ⟨hx, hb, -, hown, hts, -⟩ := id O
  unfold f_X12_likeOf_2_b at h
  intro H locs ls hH hl
  refine lv_iload_n hx hb dX12_likeOf_2 rfl (lv_at hl 2 rfl) ?_
  refine lv_aload_n hx hb dX12_likeOf_3 rfl (lv_at hl 0 rfl) ?_
  refine h_geti O hH ly_281 rfl fl_X12_310 dX12_likeOf_4 ?_
  refine lv_icmp_ge (tgt := 36) hx hb dX12_likeOf_7 (by decide) (fun c1 => ?_) (fun c1 => ?_)
  · have h := it_pos h c1
    refine lv_iconst (v := (-1)) hx hb dX12_likeOf_36 (by decide) ?_
    obtain ⟨rfl, rfl⟩ := ret_i h
    exact h_iret O hr hlk hH dX12_likeOf_37
  · have h := it_neg h c1
    refine lv_aload_n hx hb dX12_likeOf_10 rfl (lv_at hl 0 rfl) ?_
    refine lv_aload_n hx hb dX12_likeOf_11 rfl (lv_at hl 0 rfl) ?_
    refine lv_iload_n hx hb dX12_likeOf_12 rfl (lv_at hl 1 rfl) ?_
    refine lv_iload_n hx hb dX12_likeOf_13 rfl (lv_at hl 2 rfl) ?_
    obtain ⟨y4, D2, hc3, h⟩ := bI_some h
    refine h_callVi (As := [.int x1, .int x2]) (rest := [.ref (z + 281)]) O hH (c_X12_wayTo hc3) ml_X12_425 ly_281 rfl rfl hl.1 rfl ⟨Nat.le_of_ble_eq_true rfl, Nat.le_of_ble_eq_true rfl⟩ (Nat.le_of_ble_eq_true rfl) dX12_likeOf_14 (fun H locs hH => ?_)
    obtain ⟨D5, e6, h⟩ := lt_some h
    refine h_puti O hH ly_281 rfl fl_X12_428 e6 dX12_likeOf_17 (fun H locs hH => ?_)
    refine lv_aload_n hx hb dX12_likeOf_20 rfl (lv_at hl 0 rfl) ?_
    refine h_geti O hH ly_281 rfl fl_X12_428 dX12_likeOf_21 ?_
    refine lv_iconst (v := (-1)) hx hb dX12_likeOf_24 (by decide) ?_
    refine lv_icmp_eq (tgt := 30) hx hb dX12_likeOf_25 (by decide) (fun c7 => ?_) (fun c7 => ?_)
    · have h := it_pos h c7
      obtain ⟨y8, e9, h⟩ := lt_some h
      refine lv_iinc (v := y8) (lv' := [(2, .int y8), (0, .ref (z + 281)), (1, .int x1)]) hx hb dX12_likeOf_30 hl (k := 2) rfl (by rw [e9]; rfl) (by decide) rfl (fun ls hl => ?_)
      refine lv_goto (tgt := 2) hx hb dX12_likeOf_33 (by decide) ?_
      exact hk2 _ _ _ h _ _ _ hH (lv_sub hl [1, 2, 0] rfl)
    · have h := it_neg h c7
      refine lv_iload_n hx hb dX12_likeOf_28 rfl (lv_at hl 2 rfl) ?_
      obtain ⟨rfl, rfl⟩ := ret_i h
      exact h_iret O hr hlk hH dX12_likeOf_29
set_option maxHeartbeats 4000000 in
theorem w_X12_likeOf_2 {G : va_G} {tA : Nat → ClassId} {z : Nat} {E : Ex} {p : Program} {l : Launch} {e : Env} {s : State} {m : MethodId} {args : Array Value} {below : List Frame} {meth : Method} {c : Code} {r : Int32} {D' : Dm} (O : Ok G tA z E cX12_likeOf RX12 3 p s m args c) (hr : meth.sig.returnType = some .int) (hlk : meth.locks = false) : ∀ (n : Nat) (x1 : Int32) (x2 : Int32) (D : Dm) (h : f_X12_likeOf_2 n x1 x2 D = some (r, D')), BI G tA z E p l e (rmC 28 0 0) s m args below meth c LAY D r D' 3 2 [(0, .ref (z + 281)), (1, .int x1), (2, .int x2)] [] := by
  intro n
  induction n with
  | zero => intro x1 x2 D h; exact no_some h
  | succ n ih => intro x1 x2 D h; exact w_X12_likeOf_2_b O hr hlk (fun x1 x2 D h => ih x1 x2 D h) x1 x2 D h
set_option maxHeartbeats 4000000 in
theorem w_X12_likeOf {G : va_G} {tA : Nat → ClassId} {z : Nat} {E : Ex} {p : Program} {l : Launch} {e : Env} {s : State} {m : MethodId} {args : Array Value} {below : List Frame} {meth : Method} {c : Code} {r : Int32} {D' : Dm} (O : Ok G tA z E cX12_likeOf RX12 3 p s m args c) (hr : meth.sig.returnType = some .int) (hlk : meth.locks = false) (x1 : Int32) (D : Dm) (h : f_X12_likeOf x1 D = some (r, D')) : BI G tA z E p l e (rmC 28 0 0) s m args below meth c LAY D r D' 3 0 [(0, .ref (z + 281)), (1, .int x1)] [] := by
  obtain ⟨hx, hb, -, hown, hts, -⟩ := id O
  unfold f_X12_likeOf at h
  intro H locs ls hH hl
  refine lv_iconst (v := 0) hx hb dX12_likeOf_0 (by decide) ?_
  refine lv_istore_n (lv' := [(2, .int 0), (0, .ref (z + 281)), (1, .int x1)]) hx hb dX12_likeOf_1 rfl hl (by decide) rfl (fun ls hl => ?_)
  exact w_X12_likeOf_2 O hr hlk FU _ _ _ h _ _ _ hH (lv_sub hl [1, 2, 0] rfl)
set_option maxHeartbeats 4000000 in
theorem c_X12_likeOf {l : Launch} {G : va_G} {tA : Nat → ClassId} {z : Nat} {E : Ex} {x1 : Int32} {D D' : Dm} {r : Int32} (h : f_X12_likeOf x1 D = some (r, D')) : CtI l yX12_likeOf cX12_likeOf 3 (some .int) G tA z E 28 0 0 [.ref (z + 281), .int x1] LAY D r LAY D' :=
  ct_BI (by decide +kernel) (Nat.le_of_ble_eq_true rfl) (fun _ _ _ _ _ _ _ _ O hr hlk => w_X12_likeOf O hr hlk _ _ h)
set_option maxHeartbeats 4000000 in
theorem w_X12_longName {G : va_G} {tA : Nat → ClassId} {z : Nat} {E : Ex} {p : Program} {l : Launch} {e : Env} {s : State} {m : MethodId} {args : Array Value} {below : List Frame} {meth : Method} {c : Code} {r : Int32} {D' : Dm} (O : Ok G tA z E cX12_longName RX12 4 p s m args c) (hr : meth.sig.returnType = some .int) (hlk : meth.locks = false) (x1 : Int32) (x2 : Int32) (D : Dm) (h : f_X12_longName x1 x2 D = some (r, D')) : BI G tA z E p l e (rmC 26 0 0) s m args below meth c LAY D r D' 4 0 [(0, .ref (z + 281)), (1, .int x1), (2, .int x2)] [] := by
  obtain ⟨hx, hb, -, hown, hts, -⟩ := id O
  unfold f_X12_longName at h
  intro H locs ls hH hl
  refine lv_aload_n hx hb dX12_longName_0 rfl (lv_at hl 0 rfl) ?_
  refine lv_iload_n hx hb dX12_longName_1 rfl (lv_at hl 1 rfl) ?_
  obtain ⟨y3, D1, hc2, h⟩ := bI_some h
  refine h_callVi (As := [.int x1]) (rest := []) O hH (c_X12_hasShort hc2) ml_X12_422 ly_281 rfl rfl hl.1 rfl ⟨Nat.le_of_ble_eq_true rfl, Nat.le_of_ble_eq_true rfl⟩ (Nat.le_of_ble_eq_true rfl) dX12_longName_2 (fun H locs hH => ?_)
  refine lv_istore_n (lv' := [(3, .int y3), (0, .ref (z + 281)), (1, .int x1), (2, .int x2)]) hx hb dX12_longName_5 rfl hl (by decide) rfl (fun ls hl => ?_)
  refine lv_iload_n hx hb dX12_longName_6 rfl (lv_at hl 3 rfl) ?_
  refine lv_iload_n hx hb dX12_longName_7 rfl (lv_at hl 0 rfl) ?_
  obtain ⟨y6, D4, hc5, h⟩ := bI_some h
  refine h_callSi (As := [.int y3]) (rest := [.int x2]) O hH (c_X12_bits hc5) ml_X12_410 rfl hl.1 rfl ⟨Nat.le_of_ble_eq_true rfl, Nat.le_of_ble_eq_true rfl⟩ (Nat.le_of_ble_eq_true rfl) dX12_longName_8 (fun H locs hH => ?_)
  refine lv_icmp_ge (tgt := 22) hx hb dX12_longName_11 (by decide) (fun c7 => ?_) (fun c7 => ?_)
  · have h := it_pos h c7
    refine lv_iload_n hx hb dX12_longName_22 rfl (lv_at hl 3 rfl) ?_
    refine lv_iload_n hx hb dX12_longName_23 rfl (lv_at hl 0 rfl) ?_
    obtain ⟨y10, D8, hc9, h⟩ := bI_some h
    refine h_callSi (As := [.int y3]) (rest := [.int x2]) O hH (c_X12_bits hc9) ml_X12_410 rfl hl.1 rfl ⟨Nat.le_of_ble_eq_true rfl, Nat.le_of_ble_eq_true rfl⟩ (Nat.le_of_ble_eq_true rfl) dX12_longName_24 (fun H locs hH => ?_)
    refine lv_icmp_ne (tgt := 38) hx hb dX12_longName_27 (by decide) (fun c11 => ?_) (fun c11 => ?_)
    · have h := it_neg h c11
      refine lv_iconst (v := (-1)) hx hb dX12_longName_38 (by decide) ?_
      obtain ⟨rfl, rfl⟩ := ret_i h
      exact h_iret O hr hlk hH dX12_longName_39
    · have h := it_pos h c11
      refine lv_aload_n hx hb dX12_longName_30 rfl (lv_at hl 1 rfl) ?_
      refine lv_iload_n hx hb dX12_longName_31 rfl (lv_at hl 2 rfl) ?_
      obtain ⟨y14, D12, hc13, h⟩ := bI_some h
      refine h_callVi (As := [.int x1]) (rest := []) O hH (c_X12_namesOfShort hc13) ml_X12_431 ly_281 rfl rfl hl.1 rfl ⟨Nat.le_of_ble_eq_true rfl, Nat.le_of_ble_eq_true rfl⟩ (Nat.le_of_ble_eq_true rfl) dX12_longName_32 (fun H locs hH => ?_)
      refine lv_goto (tgt := 39) hx hb dX12_longName_35 (by decide) ?_
      obtain ⟨rfl, rfl⟩ := ret_i h
      exact h_iret O hr hlk hH dX12_longName_39
  · have h := it_neg h c7
    refine lv_iload_n hx hb dX12_longName_14 rfl (lv_at hl 0 rfl) ?_
    refine lv_iload_n hx hb dX12_longName_15 rfl (lv_at hl 3 rfl) ?_
    obtain ⟨y17, D15, hc16, h⟩ := bI_some h
    refine h_callSi (As := [.int y3, .int x2]) (rest := []) O hH (c_X12_nameAt hc16) ml_X12_392 rfl hl.1 rfl ⟨Nat.le_of_ble_eq_true rfl, Nat.le_of_ble_eq_true rfl⟩ (Nat.le_of_ble_eq_true rfl) dX12_longName_16 (fun H locs hH => ?_)
    refine lv_goto (tgt := 39) hx hb dX12_longName_19 (by decide) ?_
    obtain ⟨rfl, rfl⟩ := ret_i h
    exact h_iret O hr hlk hH dX12_longName_39
set_option maxHeartbeats 4000000 in
theorem c_X12_longName {l : Launch} {G : va_G} {tA : Nat → ClassId} {z : Nat} {E : Ex} {x1 : Int32} {x2 : Int32} {D D' : Dm} {r : Int32} (h : f_X12_longName x1 x2 D = some (r, D')) : CtI l yX12_longName cX12_longName 4 (some .int) G tA z E 26 0 0 [.ref (z + 281), .int x1, .int x2] LAY D r LAY D' :=
  ct_BI (by decide +kernel) (Nat.le_of_ble_eq_true rfl) (fun _ _ _ _ _ _ _ _ O hr hlk => w_X12_longName O hr hlk _ _ _ h)
set_option maxHeartbeats 4000000 in
theorem w_X12_forgets {G : va_G} {tA : Nat → ClassId} {z : Nat} {E : Ex} {p : Program} {l : Launch} {e : Env} {s : State} {m : MethodId} {args : Array Value} {below : List Frame} {meth : Method} {c : Code} {r : Int32} {D' : Dm} (O : Ok G tA z E cX12_forgets RX12 6 p s m args c) (hr : meth.sig.returnType = some .boolean) (hlk : meth.locks = false) (x1 : Int32) (x2 : Int32) (x3 : Int32) (D : Dm) (h : f_X12_forgets x1 x2 x3 D = some (r, D')) : BI G tA z E p l e (rmC 26 0 0) s m args below meth c LAY D r D' 6 0 [(0, .ref (z + 281)), (1, .int x1), (2, .int x2), (3, .int x3)] [] := by
  obtain ⟨hx, hb, -, hown, hts, -⟩ := id O
  unfold f_X12_forgets at h
  intro H locs ls hH hl
  refine lv_iconst (v := 1) hx hb dX12_forgets_0 (by decide) ?_
  refine lv_aload_n hx hb dX12_forgets_1 rfl (lv_at hl 0 rfl) ?_
  refine lv_iload_n hx hb dX12_forgets_2 rfl (lv_at hl 1 rfl) ?_
  obtain ⟨y3, D1, hc2, h⟩ := bI_some h
  refine h_callVi (As := [.int x1]) (rest := [.int 1]) O hH (c_X12_namesOfShort hc2) ml_X12_431 ly_281 rfl rfl hl.1 rfl ⟨Nat.le_of_ble_eq_true rfl, Nat.le_of_ble_eq_true rfl⟩ (Nat.le_of_ble_eq_true rfl) dX12_forgets_3 (fun H locs hH => ?_)
  refine lv_ishl hx hb dX12_forgets_6 ?_
  refine lv_iconst (v := 1) hx hb dX12_forgets_7 (by decide) ?_
  refine lv_isub hx hb dX12_forgets_8 ?_
  refine lv_topi (fun y4 e5 => ?_)
  have h := lt_at e5 h
  refine lv_istore (lv' := [(4, .int y4), (0, .ref (z + 281)), (1, .int x1), (2, .int x2), (3, .int x3)]) hx hb dX12_forgets_9 hl (by decide) rfl (fun ls hl => ?_)
  refine lv_aload_n hx hb dX12_forgets_11 rfl (lv_at hl 1 rfl) ?_
  refine lv_iload_n hx hb dX12_forgets_12 rfl (lv_at hl 2 rfl) ?_
  refine lv_iload_n hx hb dX12_forgets_13 rfl (lv_at hl 3 rfl) ?_
  refine lv_iload_n hx hb dX12_forgets_14 rfl (lv_at hl 4 rfl) ?_
  obtain ⟨y8, D6, hc7, h⟩ := bI_some h
  refine h_callVi (As := [.int x1, .int x2, .int x3]) (rest := []) O hH (c_X12_hasLong hc7) ml_X12_459 ly_281 rfl rfl hl.1 rfl ⟨Nat.le_of_ble_eq_true rfl, Nat.le_of_ble_eq_true rfl⟩ (Nat.le_of_ble_eq_true rfl) dX12_forgets_15 (fun H locs hH => ?_)
  refine lv_iload hx hb dX12_forgets_18 (lv_at hl 0 rfl) ?_
  refine lv_iand hx hb dX12_forgets_20 ?_
  refine lv_aload_n hx hb dX12_forgets_21 rfl (lv_at hl 1 rfl) ?_
  refine lv_iload_n hx hb dX12_forgets_22 rfl (lv_at hl 2 rfl) ?_
  obtain ⟨y11, D9, hc10, h⟩ := bI_some h
  refine h_callVi (As := [.int x1]) (rest := [.int (y8 &&& y4)]) O hH (c_X12_hasShort hc10) ml_X12_422 ly_281 rfl rfl hl.1 rfl ⟨Nat.le_of_ble_eq_true rfl, Nat.le_of_ble_eq_true rfl⟩ (Nat.le_of_ble_eq_true rfl) dX12_forgets_23 (fun H locs hH => ?_)
  refine lv_iconst (v := (-1)) hx hb dX12_forgets_26 (by decide) ?_
  refine lv_ixor hx hb dX12_forgets_27 ?_
  refine lv_iand hx hb dX12_forgets_28 ?_
  refine lv_topi (fun y12 e13 => ?_)
  have h := lt_at e13 h
  refine lv_istore (lv' := [(5, .int y12), (4, .int y4), (0, .ref (z + 281)), (1, .int x1), (2, .int x2), (3, .int x3)]) hx hb dX12_forgets_29 hl (by decide) rfl (fun ls hl => ?_)
  refine lv_aload_n hx hb dX12_forgets_31 rfl (lv_at hl 2 rfl) ?_
  refine lv_iload_n hx hb dX12_forgets_32 rfl (lv_at hl 3 rfl) ?_
  obtain ⟨D14, e15, h⟩ := lt_some h
  refine h_puti O hH ly_281 rfl fl_X12_462 e15 dX12_forgets_33 (fun H locs hH => ?_)
  refine lv_aload_n hx hb dX12_forgets_36 rfl (lv_at hl 2 rfl) ?_
  refine lv_iload_n hx hb dX12_forgets_37 rfl (lv_at hl 4 rfl) ?_
  obtain ⟨D16, e17, h⟩ := lt_some h
  refine h_puti O hH ly_281 rfl fl_X12_465 e17 dX12_forgets_38 (fun H locs hH => ?_)
  refine lv_aload_n hx hb dX12_forgets_41 rfl (lv_at hl 2 rfl) ?_
  refine lv_iload_n hx hb dX12_forgets_42 rfl (lv_at hl 5 rfl) ?_
  obtain ⟨D18, e19, h⟩ := lt_some h
  refine h_puti O hH ly_281 rfl fl_X12_468 e19 dX12_forgets_43 (fun H locs hH => ?_)
  refine lv_aload_n hx hb dX12_forgets_46 rfl (lv_at hl 2 rfl) ?_
  refine lv_iload hx hb dX12_forgets_47 (lv_at hl 0 rfl) ?_
  refine lv_iconst (v := 0) hx hb dX12_forgets_49 (by decide) ?_
  obtain ⟨y22, D20, hc21, h⟩ := bI_some h
  refine h_callSi (As := [.int y12, .int 0]) (rest := [.ref (z + 281)]) O hH (c_X12_nameAt hc21) ml_X12_392 rfl hl.1 rfl ⟨Nat.le_of_ble_eq_true rfl, Nat.le_of_ble_eq_true rfl⟩ (Nat.le_of_ble_eq_true rfl) dX12_forgets_50 (fun H locs hH => ?_)
  obtain ⟨D23, e24, h⟩ := lt_some h
  refine h_puti O hH ly_281 rfl fl_X12_471 e24 dX12_forgets_53 (fun H locs hH => ?_)
  refine lv_iload hx hb dX12_forgets_56 (lv_at hl 0 rfl) ?_
  refine lv_if_eq (tgt := 65) hx hb dX12_forgets_58 (by decide) (fun c25 => ?_) (fun c25 => ?_)
  · have h := it_pos h c25
    refine lv_iconst (v := 0) hx hb dX12_forgets_65 (by decide) ?_
    obtain ⟨rfl, rfl⟩ := ret_i h
    exact h_zret O hr hlk zb_0 hH dX12_forgets_66
  · have h := it_neg h c25
    refine lv_iconst (v := 1) hx hb dX12_forgets_61 (by decide) ?_
    refine lv_goto (tgt := 66) hx hb dX12_forgets_62 (by decide) ?_
    obtain ⟨rfl, rfl⟩ := ret_i h
    exact h_zret O hr hlk zb_1 hH dX12_forgets_66
set_option maxHeartbeats 4000000 in
theorem c_X12_forgets {l : Launch} {G : va_G} {tA : Nat → ClassId} {z : Nat} {E : Ex} {x1 : Int32} {x2 : Int32} {x3 : Int32} {D D' : Dm} {r : Int32} (h : f_X12_forgets x1 x2 x3 D = some (r, D')) : CtI l yX12_forgets cX12_forgets 6 (some .boolean) G tA z E 26 0 0 [.ref (z + 281), .int x1, .int x2, .int x3] LAY D r LAY D' :=
  ct_BI (by decide +kernel) (Nat.le_of_ble_eq_true rfl) (fun _ _ _ _ _ _ _ _ O hr hlk => w_X12_forgets O hr hlk _ _ _ _ h)
set_option maxHeartbeats 4000000 in
theorem w_X12_goesOn {G : va_G} {tA : Nat → ClassId} {z : Nat} {E : Ex} {p : Program} {l : Launch} {e : Env} {s : State} {m : MethodId} {args : Array Value} {below : List Frame} {meth : Method} {c : Code} {r : Int32} {D' : Dm} (O : Ok G tA z E cX12_goesOn RX12 6 p s m args c) (hr : meth.sig.returnType = some .boolean) (hlk : meth.locks = false) (x1 : Int32) (x2 : Int32) (x3 : Int32) (D : Dm) (h : f_X12_goesOn x1 x2 x3 D = some (r, D')) : BI G tA z E p l e (rmC 29 0 0) s m args below meth c LAY D r D' 6 0 [(0, .ref (z + 281)), (1, .int x1), (2, .int x2), (3, .int x3)] [] := by
  obtain ⟨hx, hb, -, hown, hts, -⟩ := id O
  unfold f_X12_goesOn at h
  intro H locs ls hH hl
  refine lv_aload_n hx hb dX12_goesOn_0 rfl (lv_at hl 0 rfl) ?_
  refine lv_iload_n hx hb dX12_goesOn_1 rfl (lv_at hl 1 rfl) ?_
  obtain ⟨D1, e2, h⟩ := lt_some h
  refine h_puti O hH ly_281 rfl fl_X12_462 e2 dX12_goesOn_2 (fun H locs hH => ?_)
  refine lv_aload_n hx hb dX12_goesOn_5 rfl (lv_at hl 0 rfl) ?_
  refine lv_iload_n hx hb dX12_goesOn_6 rfl (lv_at hl 2 rfl) ?_
  obtain ⟨D3, e4, h⟩ := lt_some h
  refine h_puti O hH ly_281 rfl fl_X12_465 e4 dX12_goesOn_7 (fun H locs hH => ?_)
  refine lv_aload_n hx hb dX12_goesOn_10 rfl (lv_at hl 0 rfl) ?_
  refine lv_iload_n hx hb dX12_goesOn_11 rfl (lv_at hl 3 rfl) ?_
  obtain ⟨D5, e6, h⟩ := lt_some h
  refine h_puti O hH ly_281 rfl fl_X12_468 e6 dX12_goesOn_12 (fun H locs hH => ?_)
  refine lv_aload_n hx hb dX12_goesOn_15 rfl (lv_at hl 0 rfl) ?_
  refine lv_iload_n hx hb dX12_goesOn_16 rfl (lv_at hl 1 rfl) ?_
  refine lv_iload_n hx hb dX12_goesOn_17 rfl (lv_at hl 2 rfl) ?_
  refine lv_iload_n hx hb dX12_goesOn_18 rfl (lv_at hl 3 rfl) ?_
  obtain ⟨y9, D7, hc8, h⟩ := bI_some h
  refine h_callVi (As := [.int x1, .int x2, .int x3]) (rest := []) O hH (c_X12_hasLong hc8) ml_X12_459 ly_281 rfl rfl hl.1 rfl ⟨Nat.le_of_ble_eq_true rfl, Nat.le_of_ble_eq_true rfl⟩ (Nat.le_of_ble_eq_true rfl) dX12_goesOn_19 (fun H locs hH => ?_)
  refine lv_istore (lv' := [(4, .int y9), (0, .ref (z + 281)), (1, .int x1), (2, .int x2), (3, .int x3)]) hx hb dX12_goesOn_22 hl (by decide) rfl (fun ls hl => ?_)
  refine lv_aload_n hx hb dX12_goesOn_24 rfl (lv_at hl 1 rfl) ?_
  refine lv_iload_n hx hb dX12_goesOn_25 rfl (lv_at hl 2 rfl) ?_
  refine lv_iload_n hx hb dX12_goesOn_26 rfl (lv_at hl 3 rfl) ?_
  refine lv_iload_n hx hb dX12_goesOn_27 rfl (lv_at hl 4 rfl) ?_
  obtain ⟨D10, hc11, h⟩ := bV_some h
  refine h_callVv (As := [.int x1, .int x2, .int x3]) (rest := []) O hH (c_X12_takesLong hc11) ml_X12_381 ly_281 rfl rfl hl.1 rfl ⟨Nat.le_of_ble_eq_true rfl, Nat.le_of_ble_eq_true rfl⟩ (Nat.le_of_ble_eq_true rfl) dX12_goesOn_28 (fun H locs hH => ?_)
  refine lv_iload_n hx hb dX12_goesOn_31 rfl (lv_at hl 2 rfl) ?_
  refine lv_iload_n hx hb dX12_goesOn_32 rfl (lv_at hl 3 rfl) ?_
  refine lv_iload_n hx hb dX12_goesOn_33 rfl (lv_at hl 4 rfl) ?_
  obtain ⟨y14, D12, hc13, h⟩ := bI_some h
  refine h_callSi (As := [.int x1, .int x2, .int x3]) (rest := []) O hH (c_X12_longAt hc13) ml_X12_378 rfl hl.1 rfl ⟨Nat.le_of_ble_eq_true rfl, Nat.le_of_ble_eq_true rfl⟩ (Nat.le_of_ble_eq_true rfl) dX12_goesOn_34 (fun H locs hH => ?_)
  refine lv_istore (lv' := [(5, .int y14), (4, .int y9), (0, .ref (z + 281)), (1, .int x1), (2, .int x2), (3, .int x3)]) hx hb dX12_goesOn_37 hl (by decide) rfl (fun ls hl => ?_)
  refine lv_aload_n hx hb dX12_goesOn_39 rfl (lv_at hl 2 rfl) ?_
  refine h_getr O hH ly_281 rfl fl_X12_90 dX12_goesOn_40 ?_
  refine lv_iload hx hb dX12_goesOn_43 (lv_at hl 0 rfl) ?_
  refine lv_aload_n hx hb dX12_goesOn_45 rfl (lv_at hl 2 rfl) ?_
  refine lv_iload hx hb dX12_goesOn_46 (lv_at hl 1 rfl) ?_
  obtain ⟨y17, D15, hc16, h⟩ := bI_some h
  refine h_callVi (As := [.int y9]) (rest := [.int y14, .ref (z + 306)]) O hH (c_X12_likeOf hc16) ml_X12_474 ly_281 rfl rfl hl.1 rfl ⟨Nat.le_of_ble_eq_true rfl, Nat.le_of_ble_eq_true rfl⟩ (Nat.le_of_ble_eq_true rfl) dX12_goesOn_48 (fun H locs hH => ?_)
  obtain ⟨g18, h⟩ := gd_some h
  obtain ⟨D19, e20, h⟩ := lt_some h
  refine h_iast O hH ly_306 g18 e20 dX12_goesOn_51 (fun H locs hH => ?_)
  refine lv_aload_n hx hb dX12_goesOn_52 rfl (lv_at hl 2 rfl) ?_
  refine h_getr O hH ly_281 rfl fl_X12_93 dX12_goesOn_53 ?_
  refine lv_iload hx hb dX12_goesOn_56 (lv_at hl 0 rfl) ?_
  refine lv_aload_n hx hb dX12_goesOn_58 rfl (lv_at hl 2 rfl) ?_
  refine h_geti O hH ly_281 rfl fl_X12_428 dX12_goesOn_59 ?_
  obtain ⟨g21, h⟩ := gd_some h
  obtain ⟨D22, e23, h⟩ := lt_some h
  refine h_iast O hH ly_307 g21 e23 dX12_goesOn_62 (fun H locs hH => ?_)
  refine lv_aload_n hx hb dX12_goesOn_63 rfl (lv_at hl 2 rfl) ?_
  refine h_getr O hH ly_281 rfl fl_X12_90 dX12_goesOn_64 ?_
  refine lv_iload hx hb dX12_goesOn_67 (lv_at hl 0 rfl) ?_
  obtain ⟨g24, h⟩ := gd_some h
  refine h_iald O hH ly_306 g24 dX12_goesOn_69 ?_
  refine lv_iconst (v := (-1)) hx hb dX12_goesOn_70 (by decide) ?_
  refine lv_icmp_eq (tgt := 78) hx hb dX12_goesOn_71 (by decide) (fun c25 => ?_) (fun c25 => ?_)
  · have h := it_pos h c25
    refine lv_iconst (v := 0) hx hb dX12_goesOn_78 (by decide) ?_
    obtain ⟨rfl, rfl⟩ := ret_i h
    exact h_zret O hr hlk zb_0 hH dX12_goesOn_79
  · have h := it_neg h c25
    refine lv_iconst (v := 1) hx hb dX12_goesOn_74 (by decide) ?_
    refine lv_goto (tgt := 79) hx hb dX12_goesOn_75 (by decide) ?_
    obtain ⟨rfl, rfl⟩ := ret_i h
    exact h_zret O hr hlk zb_1 hH dX12_goesOn_79
set_option maxHeartbeats 4000000 in
theorem c_X12_goesOn {l : Launch} {G : va_G} {tA : Nat → ClassId} {z : Nat} {E : Ex} {x1 : Int32} {x2 : Int32} {x3 : Int32} {D D' : Dm} {r : Int32} (h : f_X12_goesOn x1 x2 x3 D = some (r, D')) : CtI l yX12_goesOn cX12_goesOn 6 (some .boolean) G tA z E 29 0 0 [.ref (z + 281), .int x1, .int x2, .int x3] LAY D r LAY D' :=
  ct_BI (by decide +kernel) (Nat.le_of_ble_eq_true rfl) (fun _ _ _ _ _ _ _ _ O hr hlk => w_X12_goesOn O hr hlk _ _ _ _ h)
set_option maxHeartbeats 4000000 in
theorem w_X12_guesses {G : va_G} {tA : Nat → ClassId} {z : Nat} {E : Ex} {p : Program} {l : Launch} {e : Env} {s : State} {m : MethodId} {args : Array Value} {below : List Frame} {meth : Method} {c : Code} {D' : Dm} (O : Ok G tA z E cX12_guesses RX12 4 p s m args c) (hr : meth.sig.returnType = none) (hlk : meth.locks = false) (x1 : Int32) (x2 : Int32) (x3 : Int32) (D : Dm) (h : f_X12_guesses x1 x2 x3 D = some D') : BV G tA z E p l e (rmC 1 0 0) s m args below meth c LAY D D' 4 0 [(0, .ref (z + 281)), (1, .int x1), (2, .int x2), (3, .int x3)] [] := by
  obtain ⟨hx, hb, -, hown, hts, -⟩ := id O
  unfold f_X12_guesses at h
  intro H locs ls hH hl
  refine lv_aload_n hx hb dX12_guesses_0 rfl (lv_at hl 0 rfl) ?_
  refine lv_iload_n hx hb dX12_guesses_1 rfl (lv_at hl 1 rfl) ?_
  obtain ⟨D1, e2, h⟩ := lt_some h
  refine h_puti O hH ly_281 rfl fl_X12_477 e2 dX12_guesses_2 (fun H locs hH => ?_)
  refine lv_aload_n hx hb dX12_guesses_5 rfl (lv_at hl 0 rfl) ?_
  refine lv_iload_n hx hb dX12_guesses_6 rfl (lv_at hl 2 rfl) ?_
  obtain ⟨D3, e4, h⟩ := lt_some h
  refine h_puti O hH ly_281 rfl fl_X12_480 e4 dX12_guesses_7 (fun H locs hH => ?_)
  refine lv_aload_n hx hb dX12_guesses_10 rfl (lv_at hl 0 rfl) ?_
  refine lv_iload_n hx hb dX12_guesses_11 rfl (lv_at hl 3 rfl) ?_
  obtain ⟨D5, e6, h⟩ := lt_some h
  refine h_puti O hH ly_281 rfl fl_X12_483 e6 dX12_guesses_12 (fun H locs hH => ?_)
  obtain rfl := ret_v h
  exact h_vret O hr hlk hH dX12_guesses_15
set_option maxHeartbeats 4000000 in
theorem c_X12_guesses {l : Launch} {G : va_G} {tA : Nat → ClassId} {z : Nat} {E : Ex} {x1 : Int32} {x2 : Int32} {x3 : Int32} {D D' : Dm} (h : f_X12_guesses x1 x2 x3 D = some D') : CtV l yX12_guesses cX12_guesses 4 G tA z E 1 0 0 [.ref (z + 281), .int x1, .int x2, .int x3] LAY D LAY D' :=
  ct_BV (by decide +kernel) (Nat.le_of_ble_eq_true rfl) (fun _ _ _ _ _ _ _ _ O hr hlk => w_X12_guesses O hr hlk _ _ _ _ h)
set_option maxHeartbeats 4000000 in
theorem w_X12_keepsPair {G : va_G} {tA : Nat → ClassId} {z : Nat} {E : Ex} {p : Program} {l : Launch} {e : Env} {s : State} {m : MethodId} {args : Array Value} {below : List Frame} {meth : Method} {c : Code} {D' : Dm} (O : Ok G tA z E cX12_keepsPair RX12 1 p s m args c) (hr : meth.sig.returnType = none) (hlk : meth.locks = false)  (D : Dm) (h : f_X12_keepsPair  D = some D') : BV G tA z E p l e (rmC 1 0 0) s m args below meth c LAY D D' 1 0 [(0, .ref (z + 281))] [] := by
  obtain ⟨hx, hb, -, hown, hts, -⟩ := id O
  unfold f_X12_keepsPair at h
  intro H locs ls hH hl
  refine lv_aload_n hx hb dX12_keepsPair_0 rfl (lv_at hl 0 rfl) ?_
  refine lv_aload_n hx hb dX12_keepsPair_1 rfl (lv_at hl 0 rfl) ?_
  refine h_geti O hH ly_281 rfl fl_X12_135 dX12_keepsPair_2 ?_
  obtain ⟨D1, e2, h⟩ := lt_some h
  refine h_puti O hH ly_281 rfl fl_X12_496 e2 dX12_keepsPair_5 (fun H locs hH => ?_)
  refine lv_aload_n hx hb dX12_keepsPair_8 rfl (lv_at hl 0 rfl) ?_
  refine lv_aload_n hx hb dX12_keepsPair_9 rfl (lv_at hl 0 rfl) ?_
  refine h_geti O hH ly_281 rfl fl_X12_138 dX12_keepsPair_10 ?_
  obtain ⟨D3, e4, h⟩ := lt_some h
  refine h_puti O hH ly_281 rfl fl_X12_499 e4 dX12_keepsPair_13 (fun H locs hH => ?_)
  refine lv_aload_n hx hb dX12_keepsPair_16 rfl (lv_at hl 0 rfl) ?_
  refine lv_aload_n hx hb dX12_keepsPair_17 rfl (lv_at hl 0 rfl) ?_
  refine h_geti O hH ly_281 rfl fl_X12_141 dX12_keepsPair_18 ?_
  obtain ⟨D5, e6, h⟩ := lt_some h
  refine h_puti O hH ly_281 rfl fl_X12_502 e6 dX12_keepsPair_21 (fun H locs hH => ?_)
  obtain rfl := ret_v h
  exact h_vret O hr hlk hH dX12_keepsPair_24
set_option maxHeartbeats 4000000 in
theorem c_X12_keepsPair {l : Launch} {G : va_G} {tA : Nat → ClassId} {z : Nat} {E : Ex}  {D D' : Dm} (h : f_X12_keepsPair  D = some D') : CtV l yX12_keepsPair cX12_keepsPair 1 G tA z E 1 0 0 [.ref (z + 281)] LAY D LAY D' :=
  ct_BV (by decide +kernel) (Nat.le_of_ble_eq_true rfl) (fun _ _ _ _ _ _ _ _ O hr hlk => w_X12_keepsPair O hr hlk  _ h)
set_option maxHeartbeats 4000000 in
theorem w_X12_codeOf_182 {G : va_G} {tA : Nat → ClassId} {z : Nat} {E : Ex} {p : Program} {l : Launch} {e : Env} {s : State} {m : MethodId} {args : Array Value} {below : List Frame} {meth : Method} {c : Code} {r : Int32} {D' : Dm} (O : Ok G tA z E cX12_codeOf RX12 7 p s m args c) (hr : meth.sig.returnType = some .int) (hlk : meth.locks = false) {k34 : Int32 → Int32 → Int32 → Int32 → Dm → Option (Int32 × Dm)} (hk34 : ∀ (x1 : Int32) (x2 : Int32) (x3 : Int32) (x4 : Int32) (D : Dm), k34 x1 x2 x3 x4 D = some (r, D') → BI G tA z E p l e (rmC 1 0 0) s m args below meth c LAY D r D' 7 34 [(0, .ref (z + 281)), (1, .int x1), (2, .int x2), (3, .int x3), (4, .int x4)] []) (x1 : Int32) (x2 : Int32) (x3 : Int32) (x4 : Int32) (D : Dm) (h : f_X12_codeOf_182 k34 x1 x2 x3 x4 D = some (r, D')) : BI G tA z E p l e (rmC 1 0 0) s m args below meth c LAY D r D' 7 182 [(0, .ref (z + 281)), (1, .int x1), (2, .int x2), (3, .int x3), (4, .int x4)] [] := by
  obtain ⟨hx, hb, -, hown, hts, -⟩ := id O
  unfold f_X12_codeOf_182 at h
  intro H locs ls hH hl
  refine lv_iconst (v := 5) hx hb dX12_codeOf_182 (by decide) ?_
  refine lv_iload_n hx hb dX12_codeOf_183 rfl (lv_at hl 3 rfl) ?_
  refine lv_imul hx hb dX12_codeOf_184 ?_
  refine lv_aload_n hx hb dX12_codeOf_185 rfl (lv_at hl 0 rfl) ?_
  refine h_getr O hH ly_281 rfl fl_X12_120 dX12_codeOf_186 ?_
  refine lv_iload hx hb dX12_codeOf_189 (lv_at hl 4 rfl) ?_
  obtain ⟨g1, h⟩ := gd_some h
  refine h_iald O hH ly_316 g1 dX12_codeOf_191 ?_
  refine lv_iadd hx hb dX12_codeOf_192 ?_
  refine lv_topi (fun y2 e3 => ?_)
  have h := lt_at e3 h
  refine lv_istore_n (lv' := [(3, .int y2), (0, .ref (z + 281)), (1, .int x1), (2, .int x2), (4, .int x4)]) hx hb dX12_codeOf_193 rfl hl (by decide) rfl (fun ls hl => ?_)
  obtain ⟨y4, e5, h⟩ := lt_some h
  refine lv_iinc (v := y4) (lv' := [(4, .int y4), (3, .int y2), (0, .ref (z + 281)), (1, .int x1), (2, .int x2)]) hx hb dX12_codeOf_194 hl (k := 4) rfl (by rw [e5]; rfl) (by decide) rfl (fun ls hl => ?_)
  refine lv_goto (tgt := 34) hx hb dX12_codeOf_197 (by decide) ?_
  exact hk34 _ _ _ _ _ h _ _ _ hH (lv_sub hl [2, 3, 4, 1, 0] rfl)
set_option maxHeartbeats 4000000 in
theorem w_X12_codeOf_160 {G : va_G} {tA : Nat → ClassId} {z : Nat} {E : Ex} {p : Program} {l : Launch} {e : Env} {s : State} {m : MethodId} {args : Array Value} {below : List Frame} {meth : Method} {c : Code} {r : Int32} {D' : Dm} (O : Ok G tA z E cX12_codeOf RX12 7 p s m args c) (hr : meth.sig.returnType = some .int) (hlk : meth.locks = false) {k34 : Int32 → Int32 → Int32 → Int32 → Dm → Option (Int32 × Dm)} (hk34 : ∀ (x1 : Int32) (x2 : Int32) (x3 : Int32) (x4 : Int32) (D : Dm), k34 x1 x2 x3 x4 D = some (r, D') → BI G tA z E p l e (rmC 1 0 0) s m args below meth c LAY D r D' 7 34 [(0, .ref (z + 281)), (1, .int x1), (2, .int x2), (3, .int x3), (4, .int x4)] []) (x1 : Int32) (x2 : Int32) (x3 : Int32) (x4 : Int32) (D : Dm) (h : f_X12_codeOf_160 k34 x1 x2 x3 x4 D = some (r, D')) : BI G tA z E p l e (rmC 1 0 0) s m args below meth c LAY D r D' 7 160 [(0, .ref (z + 281)), (1, .int x1), (2, .int x2), (3, .int x3), (4, .int x4)] [] := by
  obtain ⟨hx, hb, -, hown, hts, -⟩ := id O
  unfold f_X12_codeOf_160 at h
  intro H locs ls hH hl
  refine lv_aload_n hx hb dX12_codeOf_160 rfl (lv_at hl 0 rfl) ?_
  refine h_getr O hH ly_281 rfl fl_X12_120 dX12_codeOf_161 ?_
  refine lv_iload hx hb dX12_codeOf_164 (lv_at hl 4 rfl) ?_
  obtain ⟨g1, h⟩ := gd_some h
  refine h_iald O hH ly_316 g1 dX12_codeOf_166 ?_
  refine lv_iconst (v := (-1)) hx hb dX12_codeOf_167 (by decide) ?_
  refine lv_icmp_ne (tgt := 182) hx hb dX12_codeOf_168 (by decide) (fun c2 => ?_) (fun c2 => ?_)
  · have h := it_neg h c2
    exact w_X12_codeOf_182 O hr hlk hk34 _ _ _ _ _ h _ _ _ hH (lv_sub hl [0, 1, 2, 3, 4] rfl)
  · have h := it_pos h c2
    refine lv_aload_n hx hb dX12_codeOf_171 rfl (lv_at hl 0 rfl) ?_
    refine h_getr O hH ly_281 rfl fl_X12_120 dX12_codeOf_172 ?_
    refine lv_iload hx hb dX12_codeOf_175 (lv_at hl 4 rfl) ?_
    refine lv_iload_n hx hb dX12_codeOf_177 rfl (lv_at hl 2 rfl) ?_
    obtain ⟨g3, h⟩ := gd_some h
    obtain ⟨D4, e5, h⟩ := lt_some h
    refine h_iast O hH ly_316 g3 e5 dX12_codeOf_178 (fun H locs hH => ?_)
    obtain ⟨y6, e7, h⟩ := lt_some h
    refine lv_iinc (v := y6) (lv' := [(2, .int y6), (0, .ref (z + 281)), (1, .int x1), (3, .int x3), (4, .int x4)]) hx hb dX12_codeOf_179 hl (k := 2) rfl (by rw [e7]; rfl) (by decide) rfl (fun ls hl => ?_)
    exact w_X12_codeOf_182 O hr hlk hk34 _ _ _ _ _ h _ _ _ hH (lv_sub hl [1, 2, 0, 3, 4] rfl)
set_option maxHeartbeats 4000000 in
theorem w_X12_codeOf_154 {G : va_G} {tA : Nat → ClassId} {z : Nat} {E : Ex} {p : Program} {l : Launch} {e : Env} {s : State} {m : MethodId} {args : Array Value} {below : List Frame} {meth : Method} {c : Code} {r : Int32} {D' : Dm} (O : Ok G tA z E cX12_codeOf RX12 7 p s m args c) (hr : meth.sig.returnType = some .int) (hlk : meth.locks = false) {k34 : Int32 → Int32 → Int32 → Int32 → Dm → Option (Int32 × Dm)} (hk34 : ∀ (x1 : Int32) (x2 : Int32) (x3 : Int32) (x4 : Int32) (D : Dm), k34 x1 x2 x3 x4 D = some (r, D') → BI G tA z E p l e (rmC 1 0 0) s m args below meth c LAY D r D' 7 34 [(0, .ref (z + 281)), (1, .int x1), (2, .int x2), (3, .int x3), (4, .int x4)] []) {k90 : Int32 → Int32 → Int32 → Int32 → Int32 → Int32 → Dm → Option (Int32 × Dm)} (hk90 : ∀ (x1 : Int32) (x2 : Int32) (x3 : Int32) (x4 : Int32) (x5 : Int32) (x6 : Int32) (D : Dm), k90 x1 x2 x3 x4 x5 x6 D = some (r, D') → BI G tA z E p l e (rmC 1 0 0) s m args below meth c LAY D r D' 7 90 [(0, .ref (z + 281)), (1, .int x1), (2, .int x2), (3, .int x3), (4, .int x4), (5, .int x5), (6, .int x6)] []) (x1 : Int32) (x2 : Int32) (x3 : Int32) (x4 : Int32) (x5 : Int32) (x6 : Int32) (D : Dm) (h : f_X12_codeOf_154 k34 k90 x1 x2 x3 x4 x5 x6 D = some (r, D')) : BI G tA z E p l e (rmC 1 0 0) s m args below meth c LAY D r D' 7 154 [(0, .ref (z + 281)), (1, .int x1), (2, .int x2), (3, .int x3), (4, .int x4), (5, .int x5), (6, .int x6)] [] := by
  obtain ⟨hx, hb, -, hown, hts, -⟩ := id O
  unfold f_X12_codeOf_154 at h
  intro H locs ls hH hl
  obtain ⟨y1, e2, h⟩ := lt_some h
  refine lv_iinc (v := y1) (lv' := [(6, .int y1), (0, .ref (z + 281)), (1, .int x1), (2, .int x2), (3, .int x3), (4, .int x4), (5, .int x5)]) hx hb dX12_codeOf_154 hl (k := 6) rfl (by rw [e2]; rfl) (by decide) rfl (fun ls hl => ?_)
  refine lv_goto (tgt := 90) hx hb dX12_codeOf_157 (by decide) ?_
  exact hk90 _ _ _ _ _ _ _ h _ _ _ hH (lv_sub hl [1, 2, 3, 4, 5, 6, 0] rfl)
set_option maxHeartbeats 4000000 in
theorem w_X12_codeOf_133 {G : va_G} {tA : Nat → ClassId} {z : Nat} {E : Ex} {p : Program} {l : Launch} {e : Env} {s : State} {m : MethodId} {args : Array Value} {below : List Frame} {meth : Method} {c : Code} {r : Int32} {D' : Dm} (O : Ok G tA z E cX12_codeOf RX12 7 p s m args c) (hr : meth.sig.returnType = some .int) (hlk : meth.locks = false) {k34 : Int32 → Int32 → Int32 → Int32 → Dm → Option (Int32 × Dm)} (hk34 : ∀ (x1 : Int32) (x2 : Int32) (x3 : Int32) (x4 : Int32) (D : Dm), k34 x1 x2 x3 x4 D = some (r, D') → BI G tA z E p l e (rmC 1 0 0) s m args below meth c LAY D r D' 7 34 [(0, .ref (z + 281)), (1, .int x1), (2, .int x2), (3, .int x3), (4, .int x4)] []) {k90 : Int32 → Int32 → Int32 → Int32 → Int32 → Int32 → Dm → Option (Int32 × Dm)} (hk90 : ∀ (x1 : Int32) (x2 : Int32) (x3 : Int32) (x4 : Int32) (x5 : Int32) (x6 : Int32) (D : Dm), k90 x1 x2 x3 x4 x5 x6 D = some (r, D') → BI G tA z E p l e (rmC 1 0 0) s m args below meth c LAY D r D' 7 90 [(0, .ref (z + 281)), (1, .int x1), (2, .int x2), (3, .int x3), (4, .int x4), (5, .int x5), (6, .int x6)] []) (x1 : Int32) (x2 : Int32) (x3 : Int32) (x4 : Int32) (x5 : Int32) (x6 : Int32) (xs0 : Int32) (xs1 : Int32) (D : Dm) (h : f_X12_codeOf_133 k34 k90 x1 x2 x3 x4 x5 x6 xs0 xs1 D = some (r, D')) : BI G tA z E p l e (rmC 1 0 0) s m args below meth c LAY D r D' 7 133 [(0, .ref (z + 281)), (1, .int x1), (2, .int x2), (3, .int x3), (4, .int x4), (5, .int x5), (6, .int x6)] [.int xs0, .int xs1, .ref (z + 315)] := by
  obtain ⟨hx, hb, -, hown, hts, -⟩ := id O
  unfold f_X12_codeOf_133 at h
  intro H locs ls hH hl
  refine lv_iadd hx hb dX12_codeOf_133 ?_
  obtain ⟨g1, h⟩ := gd_some h
  refine h_iald O hH ly_315 g1 dX12_codeOf_134 ?_
  refine lv_iload hx hb dX12_codeOf_135 (lv_at hl 5 rfl) ?_
  refine lv_icmp_ne (tgt := 154) hx hb dX12_codeOf_137 (by decide) (fun c2 => ?_) (fun c2 => ?_)
  · have h := it_neg h c2
    exact w_X12_codeOf_154 O hr hlk hk34 hk90 _ _ _ _ _ _ _ h _ _ _ hH (lv_sub hl [0, 1, 2, 3, 4, 5, 6] rfl)
  · have h := it_pos h c2
    refine lv_aload_n hx hb dX12_codeOf_140 rfl (lv_at hl 0 rfl) ?_
    refine h_getr O hH ly_281 rfl fl_X12_120 dX12_codeOf_141 ?_
    refine lv_iload hx hb dX12_codeOf_144 (lv_at hl 4 rfl) ?_
    refine lv_aload_n hx hb dX12_codeOf_146 rfl (lv_at hl 0 rfl) ?_
    refine h_getr O hH ly_281 rfl fl_X12_120 dX12_codeOf_147 ?_
    refine lv_iload hx hb dX12_codeOf_150 (lv_at hl 6 rfl) ?_
    obtain ⟨g3, h⟩ := gd_some h
    refine h_iald O hH ly_316 g3 dX12_codeOf_152 ?_
    obtain ⟨g4, h⟩ := gd_some h
    obtain ⟨D5, e6, h⟩ := lt_some h
    refine h_iast O hH ly_316 g4 e6 dX12_codeOf_153 (fun H locs hH => ?_)
    exact w_X12_codeOf_154 O hr hlk hk34 hk90 _ _ _ _ _ _ _ h _ _ _ hH (lv_sub hl [0, 1, 2, 3, 4, 5, 6] rfl)
set_option maxHeartbeats 4000000 in
theorem w_X12_codeOf_90_b {G : va_G} {tA : Nat → ClassId} {z : Nat} {E : Ex} {p : Program} {l : Launch} {e : Env} {s : State} {m : MethodId} {args : Array Value} {below : List Frame} {meth : Method} {c : Code} {r : Int32} {D' : Dm} (O : Ok G tA z E cX12_codeOf RX12 7 p s m args c) (hr : meth.sig.returnType = some .int) (hlk : meth.locks = false) {k34 : Int32 → Int32 → Int32 → Int32 → Dm → Option (Int32 × Dm)} (hk34 : ∀ (x1 : Int32) (x2 : Int32) (x3 : Int32) (x4 : Int32) (D : Dm), k34 x1 x2 x3 x4 D = some (r, D') → BI G tA z E p l e (rmC 1 0 0) s m args below meth c LAY D r D' 7 34 [(0, .ref (z + 281)), (1, .int x1), (2, .int x2), (3, .int x3), (4, .int x4)] []) {k90 : Int32 → Int32 → Int32 → Int32 → Int32 → Int32 → Dm → Option (Int32 × Dm)} (hk90 : ∀ (x1 : Int32) (x2 : Int32) (x3 : Int32) (x4 : Int32) (x5 : Int32) (x6 : Int32) (D : Dm), k90 x1 x2 x3 x4 x5 x6 D = some (r, D') → BI G tA z E p l e (rmC 1 0 0) s m args below meth c LAY D r D' 7 90 [(0, .ref (z + 281)), (1, .int x1), (2, .int x2), (3, .int x3), (4, .int x4), (5, .int x5), (6, .int x6)] []) (x1 : Int32) (x2 : Int32) (x3 : Int32) (x4 : Int32) (x5 : Int32) (x6 : Int32) (D : Dm) (h : f_X12_codeOf_90_b k34 k90 x1 x2 x3 x4 x5 x6 D = some (r, D')) : BI G tA z E p l e (rmC 1 0 0) s m args below meth c LAY D r D' 7 90 [(0, .ref (z + 281)), (1, .int x1), (2, .int x2), (3, .int x3), (4, .int x4), (5, .int x5), (6, .int x6)] [] := by
  obtain ⟨hx, hb, -, hown, hts, -⟩ := id O
  unfold f_X12_codeOf_90_b at h
  intro H locs ls hH hl
  refine lv_iload hx hb dX12_codeOf_90 (lv_at hl 6 rfl) ?_
  refine lv_iload hx hb dX12_codeOf_92 (lv_at hl 4 rfl) ?_
  refine lv_icmp_ge (tgt := 160) hx hb dX12_codeOf_94 (by decide) (fun c1 => ?_) (fun c1 => ?_)
  · have h := it_pos h c1
    exact w_X12_codeOf_160 O hr hlk hk34 _ _ _ _ _ h _ _ _ hH (lv_sub hl [0, 1, 2, 3, 4] rfl)
  · have h := it_neg h c1
    refine lv_aload_n hx hb dX12_codeOf_97 rfl (lv_at hl 0 rfl) ?_
    refine h_getr O hH ly_281 rfl fl_X12_120 dX12_codeOf_98 ?_
    refine lv_iload hx hb dX12_codeOf_101 (lv_at hl 4 rfl) ?_
    obtain ⟨g2, h⟩ := gd_some h
    refine h_iald O hH ly_316 g2 dX12_codeOf_103 ?_
    refine lv_iconst (v := (-1)) hx hb dX12_codeOf_104 (by decide) ?_
    refine lv_icmp_ne (tgt := 160) hx hb dX12_codeOf_105 (by decide) (fun c3 => ?_) (fun c3 => ?_)
    · have h := it_neg h c3
      exact w_X12_codeOf_160 O hr hlk hk34 _ _ _ _ _ h _ _ _ hH (lv_sub hl [0, 1, 2, 3, 4] rfl)
    · have h := it_pos h c3
      refine lv_aload_n hx hb dX12_codeOf_108 rfl (lv_at hl 0 rfl) ?_
      refine h_getr O hH ly_281 rfl fl_X12_117 dX12_codeOf_109 ?_
      refine lv_bipush (v := 6) hx hb dX12_codeOf_112 (by decide) ?_
      refine lv_iload_n hx hb dX12_codeOf_114 rfl (lv_at hl 1 rfl) ?_
      refine lv_imul hx hb dX12_codeOf_115 ?_
      refine lv_iload hx hb dX12_codeOf_116 (lv_at hl 6 rfl) ?_
      refine lv_iconst (v := 2) hx hb dX12_codeOf_118 (by decide) ?_
      refine lv_icmp_ge (tgt := 129) hx hb dX12_codeOf_119 (by decide) (fun c4 => ?_) (fun c4 => ?_)
      · have h := it_pos h c4
        refine lv_iconst (v := 2) hx hb dX12_codeOf_129 (by decide) ?_
        refine lv_iload hx hb dX12_codeOf_130 (lv_at hl 6 rfl) ?_
        refine lv_iadd hx hb dX12_codeOf_132 ?_
        exact w_X12_codeOf_133 O hr hlk hk34 hk90 _ _ _ _ _ _ _ _ _ h _ _ _ hH (lv_sub hl [0, 1, 2, 3, 4, 5, 6] rfl)
      · have h := it_neg h c4
        refine lv_iconst (v := 1) hx hb dX12_codeOf_122 (by decide) ?_
        refine lv_iload hx hb dX12_codeOf_123 (lv_at hl 6 rfl) ?_
        refine lv_iadd hx hb dX12_codeOf_125 ?_
        refine lv_goto (tgt := 133) hx hb dX12_codeOf_126 (by decide) ?_
        exact w_X12_codeOf_133 O hr hlk hk34 hk90 _ _ _ _ _ _ _ _ _ h _ _ _ hH (lv_sub hl [0, 1, 2, 3, 4, 5, 6] rfl)
set_option maxHeartbeats 4000000 in
theorem w_X12_codeOf_90 {G : va_G} {tA : Nat → ClassId} {z : Nat} {E : Ex} {p : Program} {l : Launch} {e : Env} {s : State} {m : MethodId} {args : Array Value} {below : List Frame} {meth : Method} {c : Code} {r : Int32} {D' : Dm} (O : Ok G tA z E cX12_codeOf RX12 7 p s m args c) (hr : meth.sig.returnType = some .int) (hlk : meth.locks = false) {k34 : Int32 → Int32 → Int32 → Int32 → Dm → Option (Int32 × Dm)} (hk34 : ∀ (x1 : Int32) (x2 : Int32) (x3 : Int32) (x4 : Int32) (D : Dm), k34 x1 x2 x3 x4 D = some (r, D') → BI G tA z E p l e (rmC 1 0 0) s m args below meth c LAY D r D' 7 34 [(0, .ref (z + 281)), (1, .int x1), (2, .int x2), (3, .int x3), (4, .int x4)] []) : ∀ (n : Nat) (x1 : Int32) (x2 : Int32) (x3 : Int32) (x4 : Int32) (x5 : Int32) (x6 : Int32) (D : Dm) (h : f_X12_codeOf_90 k34 n x1 x2 x3 x4 x5 x6 D = some (r, D')), BI G tA z E p l e (rmC 1 0 0) s m args below meth c LAY D r D' 7 90 [(0, .ref (z + 281)), (1, .int x1), (2, .int x2), (3, .int x3), (4, .int x4), (5, .int x5), (6, .int x6)] [] := by
  intro n
  induction n with
  | zero => intro x1 x2 x3 x4 x5 x6 D h; exact no_some h
  | succ n ih => intro x1 x2 x3 x4 x5 x6 D h; exact w_X12_codeOf_90_b O hr hlk hk34 (fun x1 x2 x3 x4 x5 x6 D h => ih x1 x2 x3 x4 x5 x6 D h) x1 x2 x3 x4 x5 x6 D h
set_option maxHeartbeats 4000000 in
theorem w_X12_codeOf_86 {G : va_G} {tA : Nat → ClassId} {z : Nat} {E : Ex} {p : Program} {l : Launch} {e : Env} {s : State} {m : MethodId} {args : Array Value} {below : List Frame} {meth : Method} {c : Code} {r : Int32} {D' : Dm} (O : Ok G tA z E cX12_codeOf RX12 7 p s m args c) (hr : meth.sig.returnType = some .int) (hlk : meth.locks = false) {k34 : Int32 → Int32 → Int32 → Int32 → Dm → Option (Int32 × Dm)} (hk34 : ∀ (x1 : Int32) (x2 : Int32) (x3 : Int32) (x4 : Int32) (D : Dm), k34 x1 x2 x3 x4 D = some (r, D') → BI G tA z E p l e (rmC 1 0 0) s m args below meth c LAY D r D' 7 34 [(0, .ref (z + 281)), (1, .int x1), (2, .int x2), (3, .int x3), (4, .int x4)] []) (x1 : Int32) (x2 : Int32) (x3 : Int32) (x4 : Int32) (x5 : Int32) (xs0 : Int32) (xs1 : Int32) (D : Dm) (h : f_X12_codeOf_86 k34 x1 x2 x3 x4 x5 xs0 xs1 D = some (r, D')) : BI G tA z E p l e (rmC 1 0 0) s m args below meth c LAY D r D' 7 86 [(0, .ref (z + 281)), (1, .int x1), (2, .int x2), (3, .int x3), (4, .int x4), (5, .int x5)] [.int xs0, .int xs1, .ref (z + 316)] := by
  obtain ⟨hx, hb, -, hown, hts, -⟩ := id O
  unfold f_X12_codeOf_86 at h
  intro H locs ls hH hl
  obtain ⟨g1, h⟩ := gd_some h
  obtain ⟨D2, e3, h⟩ := lt_some h
  refine h_iast O hH ly_316 g1 e3 dX12_codeOf_86 (fun H locs hH => ?_)
  refine lv_iconst (v := 0) hx hb dX12_codeOf_87 (by decide) ?_
  refine lv_istore (lv' := [(6, .int 0), (0, .ref (z + 281)), (1, .int x1), (2, .int x2), (3, .int x3), (4, .int x4), (5, .int x5)]) hx hb dX12_codeOf_88 hl (by decide) rfl (fun ls hl => ?_)
  exact w_X12_codeOf_90 O hr hlk hk34 FU _ _ _ _ _ _ _ h _ _ _ hH (lv_sub hl [1, 2, 3, 4, 5, 6, 0] rfl)
set_option maxHeartbeats 4000000 in
theorem w_X12_codeOf_65 {G : va_G} {tA : Nat → ClassId} {z : Nat} {E : Ex} {p : Program} {l : Launch} {e : Env} {s : State} {m : MethodId} {args : Array Value} {below : List Frame} {meth : Method} {c : Code} {r : Int32} {D' : Dm} (O : Ok G tA z E cX12_codeOf RX12 7 p s m args c) (hr : meth.sig.returnType = some .int) (hlk : meth.locks = false) {k34 : Int32 → Int32 → Int32 → Int32 → Dm → Option (Int32 × Dm)} (hk34 : ∀ (x1 : Int32) (x2 : Int32) (x3 : Int32) (x4 : Int32) (D : Dm), k34 x1 x2 x3 x4 D = some (r, D') → BI G tA z E p l e (rmC 1 0 0) s m args below meth c LAY D r D' 7 34 [(0, .ref (z + 281)), (1, .int x1), (2, .int x2), (3, .int x3), (4, .int x4)] []) (x1 : Int32) (x2 : Int32) (x3 : Int32) (x4 : Int32) (xs0 : Int32) (xs1 : Int32) (D : Dm) (h : f_X12_codeOf_65 k34 x1 x2 x3 x4 xs0 xs1 D = some (r, D')) : BI G tA z E p l e (rmC 1 0 0) s m args below meth c LAY D r D' 7 65 [(0, .ref (z + 281)), (1, .int x1), (2, .int x2), (3, .int x3), (4, .int x4)] [.int xs0, .int xs1, .ref (z + 315)] := by
  obtain ⟨hx, hb, -, hown, hts, -⟩ := id O
  unfold f_X12_codeOf_65 at h
  intro H locs ls hH hl
  refine lv_iadd hx hb dX12_codeOf_65 ?_
  obtain ⟨g1, h⟩ := gd_some h
  refine h_iald O hH ly_315 g1 dX12_codeOf_66 ?_
  refine lv_topi (fun y2 e3 => ?_)
  have h := lt_at e3 h
  refine lv_istore (lv' := [(5, .int y2), (0, .ref (z + 281)), (1, .int x1), (2, .int x2), (3, .int x3), (4, .int x4)]) hx hb dX12_codeOf_67 hl (by decide) rfl (fun ls hl => ?_)
  refine lv_aload_n hx hb dX12_codeOf_69 rfl (lv_at hl 1 rfl) ?_
  refine h_getr O hH ly_281 rfl fl_X12_120 dX12_codeOf_70 ?_
  refine lv_iload hx hb dX12_codeOf_73 (lv_at hl 5 rfl) ?_
  refine lv_iload hx hb dX12_codeOf_75 (lv_at hl 0 rfl) ?_
  refine lv_iconst (v := (-1)) hx hb dX12_codeOf_77 (by decide) ?_
  refine lv_icmp_ne (tgt := 85) hx hb dX12_codeOf_78 (by decide) (fun c4 => ?_) (fun c4 => ?_)
  · have h := it_neg h c4
    refine lv_iconst (v := (-1)) hx hb dX12_codeOf_85 (by decide) ?_
    exact w_X12_codeOf_86 O hr hlk hk34 _ _ _ _ _ _ _ _ h _ _ _ hH (lv_sub hl [1, 2, 3, 4, 5, 0] rfl)
  · have h := it_pos h c4
    refine lv_iconst (v := 0) hx hb dX12_codeOf_81 (by decide) ?_
    refine lv_goto (tgt := 86) hx hb dX12_codeOf_82 (by decide) ?_
    exact w_X12_codeOf_86 O hr hlk hk34 _ _ _ _ _ _ _ _ h _ _ _ hH (lv_sub hl [1, 2, 3, 4, 5, 0] rfl)
set_option maxHeartbeats 4000000 in
theorem w_X12_codeOf_34_b {G : va_G} {tA : Nat → ClassId} {z : Nat} {E : Ex} {p : Program} {l : Launch} {e : Env} {s : State} {m : MethodId} {args : Array Value} {below : List Frame} {meth : Method} {c : Code} {r : Int32} {D' : Dm} (O : Ok G tA z E cX12_codeOf RX12 7 p s m args c) (hr : meth.sig.returnType = some .int) (hlk : meth.locks = false) {k34 : Int32 → Int32 → Int32 → Int32 → Dm → Option (Int32 × Dm)} (hk34 : ∀ (x1 : Int32) (x2 : Int32) (x3 : Int32) (x4 : Int32) (D : Dm), k34 x1 x2 x3 x4 D = some (r, D') → BI G tA z E p l e (rmC 1 0 0) s m args below meth c LAY D r D' 7 34 [(0, .ref (z + 281)), (1, .int x1), (2, .int x2), (3, .int x3), (4, .int x4)] []) (x1 : Int32) (x2 : Int32) (x3 : Int32) (x4 : Int32) (D : Dm) (h : f_X12_codeOf_34_b k34 x1 x2 x3 x4 D = some (r, D')) : BI G tA z E p l e (rmC 1 0 0) s m args below meth c LAY D r D' 7 34 [(0, .ref (z + 281)), (1, .int x1), (2, .int x2), (3, .int x3), (4, .int x4)] [] := by
  obtain ⟨hx, hb, -, hown, hts, -⟩ := id O
  unfold f_X12_codeOf_34_b at h
  intro H locs ls hH hl
  refine lv_iload hx hb dX12_codeOf_34 (lv_at hl 4 rfl) ?_
  refine lv_iconst (v := 4) hx hb dX12_codeOf_36 (by decide) ?_
  refine lv_icmp_ge (tgt := 200) hx hb dX12_codeOf_37 (by decide) (fun c1 => ?_) (fun c1 => ?_)
  · have h := it_pos h c1
    refine lv_iload_n hx hb dX12_codeOf_200 rfl (lv_at hl 3 rfl) ?_
    obtain ⟨rfl, rfl⟩ := ret_i h
    exact h_iret O hr hlk hH dX12_codeOf_201
  · have h := it_neg h c1
    refine lv_aload_n hx hb dX12_codeOf_40 rfl (lv_at hl 0 rfl) ?_
    refine h_getr O hH ly_281 rfl fl_X12_117 dX12_codeOf_41 ?_
    refine lv_bipush (v := 6) hx hb dX12_codeOf_44 (by decide) ?_
    refine lv_iload_n hx hb dX12_codeOf_46 rfl (lv_at hl 1 rfl) ?_
    refine lv_imul hx hb dX12_codeOf_47 ?_
    refine lv_iload hx hb dX12_codeOf_48 (lv_at hl 4 rfl) ?_
    refine lv_iconst (v := 2) hx hb dX12_codeOf_50 (by decide) ?_
    refine lv_icmp_ge (tgt := 61) hx hb dX12_codeOf_51 (by decide) (fun c2 => ?_) (fun c2 => ?_)
    · have h := it_pos h c2
      refine lv_iconst (v := 2) hx hb dX12_codeOf_61 (by decide) ?_
      refine lv_iload hx hb dX12_codeOf_62 (lv_at hl 4 rfl) ?_
      refine lv_iadd hx hb dX12_codeOf_64 ?_
      exact w_X12_codeOf_65 O hr hlk hk34 _ _ _ _ _ _ _ h _ _ _ hH (lv_sub hl [0, 1, 2, 3, 4] rfl)
    · have h := it_neg h c2
      refine lv_iconst (v := 1) hx hb dX12_codeOf_54 (by decide) ?_
      refine lv_iload hx hb dX12_codeOf_55 (lv_at hl 4 rfl) ?_
      refine lv_iadd hx hb dX12_codeOf_57 ?_
      refine lv_goto (tgt := 65) hx hb dX12_codeOf_58 (by decide) ?_
      exact w_X12_codeOf_65 O hr hlk hk34 _ _ _ _ _ _ _ h _ _ _ hH (lv_sub hl [0, 1, 2, 3, 4] rfl)
set_option maxHeartbeats 4000000 in
theorem w_X12_codeOf_34 {G : va_G} {tA : Nat → ClassId} {z : Nat} {E : Ex} {p : Program} {l : Launch} {e : Env} {s : State} {m : MethodId} {args : Array Value} {below : List Frame} {meth : Method} {c : Code} {r : Int32} {D' : Dm} (O : Ok G tA z E cX12_codeOf RX12 7 p s m args c) (hr : meth.sig.returnType = some .int) (hlk : meth.locks = false) : ∀ (n : Nat) (x1 : Int32) (x2 : Int32) (x3 : Int32) (x4 : Int32) (D : Dm) (h : f_X12_codeOf_34 n x1 x2 x3 x4 D = some (r, D')), BI G tA z E p l e (rmC 1 0 0) s m args below meth c LAY D r D' 7 34 [(0, .ref (z + 281)), (1, .int x1), (2, .int x2), (3, .int x3), (4, .int x4)] [] := by
  intro n
  induction n with
  | zero => intro x1 x2 x3 x4 D h; exact no_some h
  | succ n ih => intro x1 x2 x3 x4 D h; exact w_X12_codeOf_34_b O hr hlk (fun x1 x2 x3 x4 D h => ih x1 x2 x3 x4 D h) x1 x2 x3 x4 D h
set_option maxHeartbeats 4000000 in
theorem w_X12_codeOf {G : va_G} {tA : Nat → ClassId} {z : Nat} {E : Ex} {p : Program} {l : Launch} {e : Env} {s : State} {m : MethodId} {args : Array Value} {below : List Frame} {meth : Method} {c : Code} {r : Int32} {D' : Dm} (O : Ok G tA z E cX12_codeOf RX12 7 p s m args c) (hr : meth.sig.returnType = some .int) (hlk : meth.locks = false) (x1 : Int32) (D : Dm) (h : f_X12_codeOf x1 D = some (r, D')) : BI G tA z E p l e (rmC 1 0 0) s m args below meth c LAY D r D' 7 0 [(0, .ref (z + 281)), (1, .int x1)] [] := by
  obtain ⟨hx, hb, -, hown, hts, -⟩ := id O
  unfold f_X12_codeOf at h
  intro H locs ls hH hl
  refine lv_iconst (v := 1) hx hb dX12_codeOf_0 (by decide) ?_
  refine lv_istore_n (lv' := [(2, .int 1), (0, .ref (z + 281)), (1, .int x1)]) hx hb dX12_codeOf_1 rfl hl (by decide) rfl (fun ls hl => ?_)
  refine lv_aload_n hx hb dX12_codeOf_2 rfl (lv_at hl 1 rfl) ?_
  refine h_getr O hH ly_281 rfl fl_X12_117 dX12_codeOf_3 ?_
  refine lv_bipush (v := 6) hx hb dX12_codeOf_6 (by decide) ?_
  refine lv_iload_n hx hb dX12_codeOf_8 rfl (lv_at hl 2 rfl) ?_
  refine lv_imul hx hb dX12_codeOf_9 ?_
  obtain ⟨g1, h⟩ := gd_some h
  refine h_iald O hH ly_315 g1 dX12_codeOf_10 ?_
  refine lv_iconst (v := 1) hx hb dX12_codeOf_11 (by decide) ?_
  refine lv_iadd hx hb dX12_codeOf_12 ?_
  refine lv_bipush (v := 11) hx hb dX12_codeOf_13 (by decide) ?_
  refine lv_imul hx hb dX12_codeOf_15 ?_
  refine lv_aload_n hx hb dX12_codeOf_16 rfl (lv_at hl 1 rfl) ?_
  refine h_getr O hH ly_281 rfl fl_X12_117 dX12_codeOf_17 ?_
  refine lv_bipush (v := 6) hx hb dX12_codeOf_20 (by decide) ?_
  refine lv_iload_n hx hb dX12_codeOf_22 rfl (lv_at hl 2 rfl) ?_
  refine lv_imul hx hb dX12_codeOf_23 ?_
  refine lv_iconst (v := 3) hx hb dX12_codeOf_24 (by decide) ?_
  refine lv_iadd hx hb dX12_codeOf_25 ?_
  obtain ⟨g2, h⟩ := gd_some h
  refine h_iald O hH ly_315 g2 dX12_codeOf_26 ?_
  refine lv_iadd hx hb dX12_codeOf_27 ?_
  refine lv_iconst (v := 1) hx hb dX12_codeOf_28 (by decide) ?_
  refine lv_iadd hx hb dX12_codeOf_29 ?_
  refine lv_topi (fun y3 e4 => ?_)
  have h := lt_at e4 h
  refine lv_istore_n (lv' := [(3, .int y3), (2, .int 1), (0, .ref (z + 281)), (1, .int x1)]) hx hb dX12_codeOf_30 rfl hl (by decide) rfl (fun ls hl => ?_)
  refine lv_iconst (v := 0) hx hb dX12_codeOf_31 (by decide) ?_
  refine lv_istore (lv' := [(4, .int 0), (3, .int y3), (2, .int 1), (0, .ref (z + 281)), (1, .int x1)]) hx hb dX12_codeOf_32 hl (by decide) rfl (fun ls hl => ?_)
  exact w_X12_codeOf_34 O hr hlk FU _ _ _ _ _ h _ _ _ hH (lv_sub hl [3, 4, 2, 1, 0] rfl)
set_option maxHeartbeats 4000000 in
theorem c_X12_codeOf {l : Launch} {G : va_G} {tA : Nat → ClassId} {z : Nat} {E : Ex} {x1 : Int32} {D D' : Dm} {r : Int32} (h : f_X12_codeOf x1 D = some (r, D')) : CtI l yX12_codeOf cX12_codeOf 7 (some .int) G tA z E 1 0 0 [.ref (z + 281), .int x1] LAY D r LAY D' :=
  ct_BI (by decide +kernel) (Nat.le_of_ble_eq_true rfl) (fun _ _ _ _ _ _ _ _ O hr hlk => w_X12_codeOf O hr hlk _ _ h)
set_option maxHeartbeats 4000000 in
theorem w_X12_comes_125 {G : va_G} {tA : Nat → ClassId} {z : Nat} {E : Ex} {p : Program} {l : Launch} {e : Env} {s : State} {m : MethodId} {args : Array Value} {below : List Frame} {meth : Method} {c : Code} {r : Int32} {D' : Dm} (O : Ok G tA z E cX12_comes RX12 4 p s m args c) (hr : meth.sig.returnType = some .boolean) (hlk : meth.locks = false) (x2 : Int32) (xs0 : Int32) (xs1 : Int32) (D : Dm) (h : f_X12_comes_125 x2 xs0 xs1 D = some (r, D')) : BI G tA z E p l e (rmC 2 0 0) s m args below meth c LAY D r D' 4 125 [(0, .ref (z + 281)), (2, .int x2)] [.int xs0, .int xs1, .ref (z + 315)] := by
  obtain ⟨hx, hb, -, hown, hts, -⟩ := id O
  unfold f_X12_comes_125 at h
  intro H locs ls hH hl
  obtain ⟨g1, h⟩ := gd_some h
  obtain ⟨D2, e3, h⟩ := lt_some h
  refine h_iast O hH ly_315 g1 e3 dX12_comes_125 (fun H locs hH => ?_)
  refine lv_aload_n hx hb dX12_comes_126 rfl (lv_at hl 0 rfl) ?_
  refine lv_iload_n hx hb dX12_comes_127 rfl (lv_at hl 1 rfl) ?_
  obtain ⟨y6, D4, hc5, h⟩ := bI_some h
  refine h_callVi (As := [.int x2]) (rest := []) O hH (c_X12_codeOf hc5) ml_X12_505 ly_281 rfl rfl hl.1 rfl ⟨Nat.le_of_ble_eq_true rfl, Nat.le_of_ble_eq_true rfl⟩ (Nat.le_of_ble_eq_true rfl) dX12_comes_128 (fun H locs hH => ?_)
  refine lv_istore_n (lv' := [(3, .int y6), (0, .ref (z + 281)), (2, .int x2)]) hx hb dX12_comes_131 rfl hl (by decide) rfl (fun ls hl => ?_)
  refine lv_aload_n hx hb dX12_comes_132 rfl (lv_at hl 1 rfl) ?_
  refine h_getr O hH ly_281 rfl fl_X12_124 dX12_comes_133 ?_
  refine lv_iload_n hx hb dX12_comes_136 rfl (lv_at hl 0 rfl) ?_
  obtain ⟨g7, h⟩ := gd_some h
  refine h_zald O hH ly_317 g7 dX12_comes_137 ?_
  refine lv_if_eq (tgt := 143) hx hb dX12_comes_138 (by decide) (fun c8 => ?_) (fun c8 => ?_)
  · have h := it_pos h c8
    refine lv_aload_n hx hb dX12_comes_143 rfl (lv_at hl 1 rfl) ?_
    refine h_getr O hH ly_281 rfl fl_X12_124 dX12_comes_144 ?_
    refine lv_iload_n hx hb dX12_comes_147 rfl (lv_at hl 0 rfl) ?_
    refine lv_iconst (v := 1) hx hb dX12_comes_148 (by decide) ?_
    obtain ⟨g9, h⟩ := gd_some h
    obtain ⟨D10, e11, h⟩ := lt_some h
    refine h_zast O hH ly_317 g9 zb_1 e11 dX12_comes_149 (fun H locs hH => ?_)
    refine lv_aload_n hx hb dX12_comes_150 rfl (lv_at hl 1 rfl) ?_
    refine lv_dup hx hb dX12_comes_151 rfl ?_
    refine h_geti O hH ly_281 rfl fl_X12_493 dX12_comes_152 ?_
    refine lv_iconst (v := 1) hx hb dX12_comes_155 (by decide) ?_
    refine lv_iadd hx hb dX12_comes_156 ?_
    obtain ⟨D12, e13, h⟩ := lt_some h
    refine h_puti O hH ly_281 rfl fl_X12_493 e13 dX12_comes_157 (fun H locs hH => ?_)
    refine lv_iconst (v := 1) hx hb dX12_comes_160 (by decide) ?_
    obtain ⟨rfl, rfl⟩ := ret_i h
    exact h_zret O hr hlk zb_1 hH dX12_comes_161
  · have h := it_neg h c8
    refine lv_iconst (v := 0) hx hb dX12_comes_141 (by decide) ?_
    obtain ⟨rfl, rfl⟩ := ret_i h
    exact h_zret O hr hlk zb_0 hH dX12_comes_142
set_option maxHeartbeats 4000000 in
theorem w_X12_comes_99 {G : va_G} {tA : Nat → ClassId} {z : Nat} {E : Ex} {p : Program} {l : Launch} {e : Env} {s : State} {m : MethodId} {args : Array Value} {below : List Frame} {meth : Method} {c : Code} {r : Int32} {D' : Dm} (O : Ok G tA z E cX12_comes RX12 4 p s m args c) (hr : meth.sig.returnType = some .boolean) (hlk : meth.locks = false) (x1 : Int32) (x2 : Int32) (xs0 : Int32) (xs1 : Int32) (D : Dm) (h : f_X12_comes_99 x1 x2 xs0 xs1 D = some (r, D')) : BI G tA z E p l e (rmC 2 0 0) s m args below meth c LAY D r D' 4 99 [(0, .ref (z + 281)), (1, .int x1), (2, .int x2)] [.int xs0, .int xs1, .ref (z + 315)] := by
  obtain ⟨hx, hb, -, hown, hts, -⟩ := id O
  unfold f_X12_comes_99 at h
  intro H locs ls hH hl
  obtain ⟨g1, h⟩ := gd_some h
  obtain ⟨D2, e3, h⟩ := lt_some h
  refine h_iast O hH ly_315 g1 e3 dX12_comes_99 (fun H locs hH => ?_)
  refine lv_aload_n hx hb dX12_comes_100 rfl (lv_at hl 0 rfl) ?_
  refine h_getr O hH ly_281 rfl fl_X12_117 dX12_comes_101 ?_
  refine lv_bipush (v := 6) hx hb dX12_comes_104 (by decide) ?_
  refine lv_iload_n hx hb dX12_comes_106 rfl (lv_at hl 2 rfl) ?_
  refine lv_imul hx hb dX12_comes_107 ?_
  refine lv_iconst (v := 5) hx hb dX12_comes_108 (by decide) ?_
  refine lv_iadd hx hb dX12_comes_109 ?_
  refine lv_iload_n hx hb dX12_comes_110 rfl (lv_at hl 1 rfl) ?_
  refine lv_if_eq (tgt := 121) hx hb dX12_comes_111 (by decide) (fun c4 => ?_) (fun c4 => ?_)
  · have h := it_pos h c4
    refine lv_aload_n hx hb dX12_comes_121 rfl (lv_at hl 0 rfl) ?_
    refine h_geti O hH ly_281 rfl fl_X12_502 dX12_comes_122 ?_
    exact w_X12_comes_125 O hr hlk _ _ _ _ h _ _ _ hH (lv_sub hl [0, 2] rfl)
  · have h := it_neg h c4
    refine lv_aload_n hx hb dX12_comes_114 rfl (lv_at hl 0 rfl) ?_
    refine h_geti O hH ly_281 rfl fl_X12_483 dX12_comes_115 ?_
    refine lv_goto (tgt := 125) hx hb dX12_comes_118 (by decide) ?_
    exact w_X12_comes_125 O hr hlk _ _ _ _ h _ _ _ hH (lv_sub hl [0, 2] rfl)
set_option maxHeartbeats 4000000 in
theorem w_X12_comes_73 {G : va_G} {tA : Nat → ClassId} {z : Nat} {E : Ex} {p : Program} {l : Launch} {e : Env} {s : State} {m : MethodId} {args : Array Value} {below : List Frame} {meth : Method} {c : Code} {r : Int32} {D' : Dm} (O : Ok G tA z E cX12_comes RX12 4 p s m args c) (hr : meth.sig.returnType = some .boolean) (hlk : meth.locks = false) (x1 : Int32) (x2 : Int32) (xs0 : Int32) (xs1 : Int32) (D : Dm) (h : f_X12_comes_73 x1 x2 xs0 xs1 D = some (r, D')) : BI G tA z E p l e (rmC 2 0 0) s m args below meth c LAY D r D' 4 73 [(0, .ref (z + 281)), (1, .int x1), (2, .int x2)] [.int xs0, .int xs1, .ref (z + 315)] := by
  obtain ⟨hx, hb, -, hown, hts, -⟩ := id O
  unfold f_X12_comes_73 at h
  intro H locs ls hH hl
  obtain ⟨g1, h⟩ := gd_some h
  obtain ⟨D2, e3, h⟩ := lt_some h
  refine h_iast O hH ly_315 g1 e3 dX12_comes_73 (fun H locs hH => ?_)
  refine lv_aload_n hx hb dX12_comes_74 rfl (lv_at hl 0 rfl) ?_
  refine h_getr O hH ly_281 rfl fl_X12_117 dX12_comes_75 ?_
  refine lv_bipush (v := 6) hx hb dX12_comes_78 (by decide) ?_
  refine lv_iload_n hx hb dX12_comes_80 rfl (lv_at hl 2 rfl) ?_
  refine lv_imul hx hb dX12_comes_81 ?_
  refine lv_iconst (v := 4) hx hb dX12_comes_82 (by decide) ?_
  refine lv_iadd hx hb dX12_comes_83 ?_
  refine lv_iload_n hx hb dX12_comes_84 rfl (lv_at hl 1 rfl) ?_
  refine lv_if_eq (tgt := 95) hx hb dX12_comes_85 (by decide) (fun c4 => ?_) (fun c4 => ?_)
  · have h := it_pos h c4
    refine lv_aload_n hx hb dX12_comes_95 rfl (lv_at hl 0 rfl) ?_
    refine h_geti O hH ly_281 rfl fl_X12_499 dX12_comes_96 ?_
    exact w_X12_comes_99 O hr hlk _ _ _ _ _ h _ _ _ hH (lv_sub hl [0, 1, 2] rfl)
  · have h := it_neg h c4
    refine lv_aload_n hx hb dX12_comes_88 rfl (lv_at hl 0 rfl) ?_
    refine h_geti O hH ly_281 rfl fl_X12_480 dX12_comes_89 ?_
    refine lv_goto (tgt := 99) hx hb dX12_comes_92 (by decide) ?_
    exact w_X12_comes_99 O hr hlk _ _ _ _ _ h _ _ _ hH (lv_sub hl [0, 1, 2] rfl)
set_option maxHeartbeats 4000000 in
theorem w_X12_comes {G : va_G} {tA : Nat → ClassId} {z : Nat} {E : Ex} {p : Program} {l : Launch} {e : Env} {s : State} {m : MethodId} {args : Array Value} {below : List Frame} {meth : Method} {c : Code} {r : Int32} {D' : Dm} (O : Ok G tA z E cX12_comes RX12 4 p s m args c) (hr : meth.sig.returnType = some .boolean) (hlk : meth.locks = false) (x1 : Int32) (D : Dm) (h : f_X12_comes x1 D = some (r, D')) : BI G tA z E p l e (rmC 2 0 0) s m args below meth c LAY D r D' 4 0 [(0, .ref (z + 281)), (1, .int x1)] [] := by
  obtain ⟨hx, hb, -, hown, hts, -⟩ := id O
  unfold f_X12_comes at h
  intro H locs ls hH hl
  refine lv_aload_n hx hb dX12_comes_0 rfl (lv_at hl 0 rfl) ?_
  refine h_geti O hH ly_281 rfl fl_X12_493 dX12_comes_1 ?_
  refine lv_topi (fun y1 e2 => ?_)
  have h := lt_at e2 h
  refine lv_istore_n (lv' := [(2, .int y1), (0, .ref (z + 281)), (1, .int x1)]) hx hb dX12_comes_4 rfl hl (by decide) rfl (fun ls hl => ?_)
  refine lv_aload_n hx hb dX12_comes_5 rfl (lv_at hl 1 rfl) ?_
  refine h_getr O hH ly_281 rfl fl_X12_117 dX12_comes_6 ?_
  refine lv_bipush (v := 6) hx hb dX12_comes_9 (by decide) ?_
  refine lv_iload_n hx hb dX12_comes_11 rfl (lv_at hl 0 rfl) ?_
  refine lv_imul hx hb dX12_comes_12 ?_
  refine lv_aload_n hx hb dX12_comes_13 rfl (lv_at hl 1 rfl) ?_
  refine h_geti O hH ly_281 rfl fl_X12_135 dX12_comes_14 ?_
  obtain ⟨g3, h⟩ := gd_some h
  obtain ⟨D4, e5, h⟩ := lt_some h
  refine h_iast O hH ly_315 g3 e5 dX12_comes_17 (fun H locs hH => ?_)
  refine lv_aload_n hx hb dX12_comes_18 rfl (lv_at hl 1 rfl) ?_
  refine h_getr O hH ly_281 rfl fl_X12_117 dX12_comes_19 ?_
  refine lv_bipush (v := 6) hx hb dX12_comes_22 (by decide) ?_
  refine lv_iload_n hx hb dX12_comes_24 rfl (lv_at hl 0 rfl) ?_
  refine lv_imul hx hb dX12_comes_25 ?_
  refine lv_iconst (v := 1) hx hb dX12_comes_26 (by decide) ?_
  refine lv_iadd hx hb dX12_comes_27 ?_
  refine lv_aload_n hx hb dX12_comes_28 rfl (lv_at hl 1 rfl) ?_
  refine h_geti O hH ly_281 rfl fl_X12_138 dX12_comes_29 ?_
  obtain ⟨g6, h⟩ := gd_some h
  obtain ⟨D7, e8, h⟩ := lt_some h
  refine h_iast O hH ly_315 g6 e8 dX12_comes_32 (fun H locs hH => ?_)
  refine lv_aload_n hx hb dX12_comes_33 rfl (lv_at hl 1 rfl) ?_
  refine h_getr O hH ly_281 rfl fl_X12_117 dX12_comes_34 ?_
  refine lv_bipush (v := 6) hx hb dX12_comes_37 (by decide) ?_
  refine lv_iload_n hx hb dX12_comes_39 rfl (lv_at hl 0 rfl) ?_
  refine lv_imul hx hb dX12_comes_40 ?_
  refine lv_iconst (v := 2) hx hb dX12_comes_41 (by decide) ?_
  refine lv_iadd hx hb dX12_comes_42 ?_
  refine lv_aload_n hx hb dX12_comes_43 rfl (lv_at hl 1 rfl) ?_
  refine h_geti O hH ly_281 rfl fl_X12_141 dX12_comes_44 ?_
  obtain ⟨g9, h⟩ := gd_some h
  obtain ⟨D10, e11, h⟩ := lt_some h
  refine h_iast O hH ly_315 g9 e11 dX12_comes_47 (fun H locs hH => ?_)
  refine lv_aload_n hx hb dX12_comes_48 rfl (lv_at hl 1 rfl) ?_
  refine h_getr O hH ly_281 rfl fl_X12_117 dX12_comes_49 ?_
  refine lv_bipush (v := 6) hx hb dX12_comes_52 (by decide) ?_
  refine lv_iload_n hx hb dX12_comes_54 rfl (lv_at hl 0 rfl) ?_
  refine lv_imul hx hb dX12_comes_55 ?_
  refine lv_iconst (v := 3) hx hb dX12_comes_56 (by decide) ?_
  refine lv_iadd hx hb dX12_comes_57 ?_
  refine lv_iload_n hx hb dX12_comes_58 rfl (lv_at hl 2 rfl) ?_
  refine lv_if_eq (tgt := 69) hx hb dX12_comes_59 (by decide) (fun c12 => ?_) (fun c12 => ?_)
  · have h := it_pos h c12
    refine lv_aload_n hx hb dX12_comes_69 rfl (lv_at hl 1 rfl) ?_
    refine h_geti O hH ly_281 rfl fl_X12_496 dX12_comes_70 ?_
    exact w_X12_comes_73 O hr hlk _ _ _ _ _ h _ _ _ hH (lv_sub hl [1, 2, 0] rfl)
  · have h := it_neg h c12
    refine lv_aload_n hx hb dX12_comes_62 rfl (lv_at hl 1 rfl) ?_
    refine h_geti O hH ly_281 rfl fl_X12_477 dX12_comes_63 ?_
    refine lv_goto (tgt := 73) hx hb dX12_comes_66 (by decide) ?_
    exact w_X12_comes_73 O hr hlk _ _ _ _ _ h _ _ _ hH (lv_sub hl [1, 2, 0] rfl)
set_option maxHeartbeats 4000000 in
theorem c_X12_comes {l : Launch} {G : va_G} {tA : Nat → ClassId} {z : Nat} {E : Ex} {x1 : Int32} {D D' : Dm} {r : Int32} (h : f_X12_comes x1 D = some (r, D')) : CtI l yX12_comes cX12_comes 4 (some .boolean) G tA z E 2 0 0 [.ref (z + 281), .int x1] LAY D r LAY D' :=
  ct_BI (by decide +kernel) (Nat.le_of_ble_eq_true rfl) (fun _ _ _ _ _ _ _ _ O hr hlk => w_X12_comes O hr hlk _ _ h)
set_option maxHeartbeats 4000000 in
theorem w_X12_isGood {G : va_G} {tA : Nat → ClassId} {z : Nat} {E : Ex} {p : Program} {l : Launch} {e : Env} {s : State} {m : MethodId} {args : Array Value} {below : List Frame} {meth : Method} {c : Code} {r : Int32} {D' : Dm} (O : Ok G tA z E cX12_isGood RX12 2 p s m args c) (hr : meth.sig.returnType = some .boolean) (hlk : meth.locks = false) (x1 : Int32) (D : Dm) (h : f_X12_isGood x1 D = some (r, D')) : BI G tA z E p l e (rmC 5 0 0) s m args below meth c LAY D r D' 2 0 [(0, .ref (z + 281)), (1, .int x1)] [] := by
  obtain ⟨hx, hb, -, hown, hts, -⟩ := id O
  unfold f_X12_isGood at h
  intro H locs ls hH hl
  refine lv_iload_n hx hb dX12_isGood_0 rfl (lv_at hl 1 rfl) ?_
  refine lv_iconst (v := (-1)) hx hb dX12_isGood_1 (by decide) ?_
  refine lv_icmp_ne (tgt := 7) hx hb dX12_isGood_2 (by decide) (fun c1 => ?_) (fun c1 => ?_)
  · have h := it_neg h c1
    refine lv_aload_n hx hb dX12_isGood_7 rfl (lv_at hl 0 rfl) ?_
    refine lv_iload_n hx hb dX12_isGood_8 rfl (lv_at hl 1 rfl) ?_
    obtain ⟨D2, hc3, h⟩ := bV_some h
    refine h_callVv (As := [.int x1]) (rest := []) O hH (c_X12_runsShort hc3) ml_X12_419 ly_281 rfl rfl hl.1 rfl ⟨Nat.le_of_ble_eq_true rfl, Nat.le_of_ble_eq_true rfl⟩ (Nat.le_of_ble_eq_true rfl) dX12_isGood_9 (fun H locs hH => ?_)
    refine lv_aload_n hx hb dX12_isGood_12 rfl (lv_at hl 0 rfl) ?_
    refine h_geti O hH ly_281 rfl fl_X12_398 dX12_isGood_13 ?_
    refine lv_iconst (v := (-1)) hx hb dX12_isGood_16 (by decide) ?_
    refine lv_icmp_eq (tgt := 41) hx hb dX12_isGood_17 (by decide) (fun c4 => ?_) (fun c4 => ?_)
    · have h := it_pos h c4
      refine lv_iconst (v := 0) hx hb dX12_isGood_41 (by decide) ?_
      obtain ⟨rfl, rfl⟩ := ret_i h
      exact h_zret O hr hlk zb_0 hH dX12_isGood_42
    · have h := it_neg h c4
      refine lv_aload_n hx hb dX12_isGood_20 rfl (lv_at hl 0 rfl) ?_
      refine lv_iconst (v := 0) hx hb dX12_isGood_21 (by decide) ?_
      refine lv_iconst (v := 3) hx hb dX12_isGood_22 (by decide) ?_
      obtain ⟨y7, D5, hc6, h⟩ := bI_some h
      refine h_callVi (As := [.int 0, .int 3]) (rest := []) O hH (c_X12_its hc6) ml_X12_155 ly_281 rfl rfl hl.1 rfl ⟨Nat.le_of_ble_eq_true rfl, Nat.le_of_ble_eq_true rfl⟩ (Nat.le_of_ble_eq_true rfl) dX12_isGood_23 (fun H locs hH => ?_)
      refine lv_aload_n hx hb dX12_isGood_26 rfl (lv_at hl 0 rfl) ?_
      refine h_geti O hH ly_281 rfl fl_X12_398 dX12_isGood_27 ?_
      refine lv_ishr hx hb dX12_isGood_30 ?_
      refine lv_iconst (v := 1) hx hb dX12_isGood_31 (by decide) ?_
      refine lv_iand hx hb dX12_isGood_32 ?_
      refine lv_iconst (v := 1) hx hb dX12_isGood_33 (by decide) ?_
      refine lv_icmp_ne (tgt := 41) hx hb dX12_isGood_34 (by decide) (fun c8 => ?_) (fun c8 => ?_)
      · have h := it_neg h c8
        refine lv_iconst (v := 0) hx hb dX12_isGood_41 (by decide) ?_
        obtain ⟨rfl, rfl⟩ := ret_i h
        exact h_zret O hr hlk zb_0 hH dX12_isGood_42
      · have h := it_pos h c8
        refine lv_iconst (v := 1) hx hb dX12_isGood_37 (by decide) ?_
        refine lv_goto (tgt := 42) hx hb dX12_isGood_38 (by decide) ?_
        obtain ⟨rfl, rfl⟩ := ret_i h
        exact h_zret O hr hlk zb_1 hH dX12_isGood_42
  · have h := it_pos h c1
    refine lv_iconst (v := 0) hx hb dX12_isGood_5 (by decide) ?_
    obtain ⟨rfl, rfl⟩ := ret_i h
    exact h_zret O hr hlk zb_0 hH dX12_isGood_6
set_option maxHeartbeats 4000000 in
theorem c_X12_isGood {l : Launch} {G : va_G} {tA : Nat → ClassId} {z : Nat} {E : Ex} {x1 : Int32} {D D' : Dm} {r : Int32} (h : f_X12_isGood x1 D = some (r, D')) : CtI l yX12_isGood cX12_isGood 2 (some .boolean) G tA z E 5 0 0 [.ref (z + 281), .int x1] LAY D r LAY D' :=
  ct_BI (by decide +kernel) (Nat.le_of_ble_eq_true rfl) (fun _ _ _ _ _ _ _ _ O hr hlk => w_X12_isGood O hr hlk _ _ h)
set_option maxHeartbeats 4000000 in
theorem w_X12_isUnlike {G : va_G} {tA : Nat → ClassId} {z : Nat} {E : Ex} {p : Program} {l : Launch} {e : Env} {s : State} {m : MethodId} {args : Array Value} {below : List Frame} {meth : Method} {c : Code} {r : Int32} {D' : Dm} (O : Ok G tA z E cX12_isUnlike RX12 4 p s m args c) (hr : meth.sig.returnType = some .boolean) (hlk : meth.locks = false) (x1 : Int32) (x2 : Int32) (D : Dm) (h : f_X12_isUnlike x1 x2 D = some (r, D')) : BI G tA z E p l e (rmC 6 0 0) s m args below meth c LAY D r D' 4 0 [(0, .ref (z + 281)), (1, .int x1), (2, .int x2)] [] := by
  obtain ⟨hx, hb, -, hown, hts, -⟩ := id O
  unfold f_X12_isUnlike at h
  intro H locs ls hH hl
  refine lv_aload_n hx hb dX12_isUnlike_0 rfl (lv_at hl 0 rfl) ?_
  refine lv_aload_n hx hb dX12_isUnlike_1 rfl (lv_at hl 0 rfl) ?_
  refine h_getr O hH ly_281 rfl fl_X12_117 dX12_isUnlike_2 ?_
  refine lv_bipush (v := 6) hx hb dX12_isUnlike_5 (by decide) ?_
  refine lv_iload_n hx hb dX12_isUnlike_7 rfl (lv_at hl 1 rfl) ?_
  refine lv_imul hx hb dX12_isUnlike_8 ?_
  obtain ⟨g1, h⟩ := gd_some h
  refine h_iald O hH ly_315 g1 dX12_isUnlike_9 ?_
  refine lv_iconst (v := (-1)) hx hb dX12_isUnlike_10 (by decide) ?_
  refine lv_iconst (v := (-1)) hx hb dX12_isUnlike_11 (by decide) ?_
  obtain ⟨D2, hc3, h⟩ := bV_some h
  refine h_callVv (As := [.int (D 315 (Int32.toNatClampNeg (6 * x1))), .int (-1), .int (-1)]) (rest := []) O hH (c_X12_stays hc3) ml_X12_144 ly_281 rfl rfl hl.1 rfl ⟨Nat.le_of_ble_eq_true rfl, Nat.le_of_ble_eq_true rfl⟩ (Nat.le_of_ble_eq_true rfl) dX12_isUnlike_12 (fun H locs hH => ?_)
  refine lv_aload_n hx hb dX12_isUnlike_15 rfl (lv_at hl 0 rfl) ?_
  refine lv_iconst (v := 0) hx hb dX12_isUnlike_16 (by decide) ?_
  obtain ⟨y6, D4, hc5, h⟩ := bI_some h
  refine h_callVi (As := [.int 0]) (rest := []) O hH (c_X12_accepts hc5) ml_X12_285 ly_281 rfl rfl hl.1 rfl ⟨Nat.le_of_ble_eq_true rfl, Nat.le_of_ble_eq_true rfl⟩ (Nat.le_of_ble_eq_true rfl) dX12_isUnlike_17 (fun H locs hH => ?_)
  refine lv_istore_n (lv' := [(3, .int y6), (0, .ref (z + 281)), (1, .int x1), (2, .int x2)]) hx hb dX12_isUnlike_20 rfl hl (by decide) rfl (fun ls hl => ?_)
  refine lv_iload_n hx hb dX12_isUnlike_21 rfl (lv_at hl 3 rfl) ?_
  refine lv_if_eq (tgt := 50) hx hb dX12_isUnlike_22 (by decide) (fun c7 => ?_) (fun c7 => ?_)
  · have h := it_pos h c7
    refine lv_aload_n hx hb dX12_isUnlike_50 rfl (lv_at hl 1 rfl) ?_
    refine lv_aload_n hx hb dX12_isUnlike_51 rfl (lv_at hl 1 rfl) ?_
    refine h_getr O hH ly_281 rfl fl_X12_117 dX12_isUnlike_52 ?_
    refine lv_bipush (v := 6) hx hb dX12_isUnlike_55 (by decide) ?_
    refine lv_iload_n hx hb dX12_isUnlike_57 rfl (lv_at hl 2 rfl) ?_
    refine lv_imul hx hb dX12_isUnlike_58 ?_
    refine lv_iconst (v := 3) hx hb dX12_isUnlike_59 (by decide) ?_
    refine lv_iadd hx hb dX12_isUnlike_60 ?_
    obtain ⟨g8, h⟩ := gd_some h
    refine h_iald O hH ly_315 g8 dX12_isUnlike_61 ?_
    refine lv_iconst (v := (-1)) hx hb dX12_isUnlike_62 (by decide) ?_
    refine lv_iconst (v := (-1)) hx hb dX12_isUnlike_63 (by decide) ?_
    obtain ⟨D9, hc10, h⟩ := bV_some h
    refine h_callVv (As := [.int (D4 315 (Int32.toNatClampNeg ((6 * x1) + 3))), .int (-1), .int (-1)]) (rest := []) O hH (c_X12_stays hc10) ml_X12_144 ly_281 rfl rfl hl.1 rfl ⟨Nat.le_of_ble_eq_true rfl, Nat.le_of_ble_eq_true rfl⟩ (Nat.le_of_ble_eq_true rfl) dX12_isUnlike_64 (fun H locs hH => ?_)
    refine lv_iload_n hx hb dX12_isUnlike_67 rfl (lv_at hl 0 rfl) ?_
    refine lv_aload_n hx hb dX12_isUnlike_68 rfl (lv_at hl 1 rfl) ?_
    refine lv_iconst (v := 1) hx hb dX12_isUnlike_69 (by decide) ?_
    obtain ⟨y13, D11, hc12, h⟩ := bI_some h
    refine h_callVi (As := [.int 1]) (rest := [.int y6]) O hH (c_X12_accepts hc12) ml_X12_285 ly_281 rfl rfl hl.1 rfl ⟨Nat.le_of_ble_eq_true rfl, Nat.le_of_ble_eq_true rfl⟩ (Nat.le_of_ble_eq_true rfl) dX12_isUnlike_70 (fun H locs hH => ?_)
    refine lv_icmp_eq (tgt := 80) hx hb dX12_isUnlike_73 (by decide) (fun c14 => ?_) (fun c14 => ?_)
    · have h := it_pos h c14
      refine lv_iconst (v := 0) hx hb dX12_isUnlike_80 (by decide) ?_
      obtain ⟨rfl, rfl⟩ := ret_i h
      exact h_zret O hr hlk zb_0 hH dX12_isUnlike_81
    · have h := it_neg h c14
      refine lv_iconst (v := 1) hx hb dX12_isUnlike_76 (by decide) ?_
      refine lv_goto (tgt := 81) hx hb dX12_isUnlike_77 (by decide) ?_
      obtain ⟨rfl, rfl⟩ := ret_i h
      exact h_zret O hr hlk zb_1 hH dX12_isUnlike_81
  · have h := it_neg h c7
    refine lv_iload_n hx hb dX12_isUnlike_25 rfl (lv_at hl 0 rfl) ?_
    refine lv_aload_n hx hb dX12_isUnlike_26 rfl (lv_at hl 1 rfl) ?_
    refine lv_aload_n hx hb dX12_isUnlike_27 rfl (lv_at hl 1 rfl) ?_
    refine h_getr O hH ly_281 rfl fl_X12_117 dX12_isUnlike_28 ?_
    refine lv_bipush (v := 6) hx hb dX12_isUnlike_31 (by decide) ?_
    refine lv_iload_n hx hb dX12_isUnlike_33 rfl (lv_at hl 2 rfl) ?_
    refine lv_imul hx hb dX12_isUnlike_34 ?_
    refine lv_iconst (v := 3) hx hb dX12_isUnlike_35 (by decide) ?_
    refine lv_iadd hx hb dX12_isUnlike_36 ?_
    obtain ⟨g15, h⟩ := gd_some h
    refine h_iald O hH ly_315 g15 dX12_isUnlike_37 ?_
    obtain ⟨y18, D16, hc17, h⟩ := bI_some h
    refine h_callVi (As := [.int (D4 315 (Int32.toNatClampNeg ((6 * x1) + 3)))]) (rest := [.int y6]) O hH (c_X12_isGood hc17) ml_X12_508 ly_281 rfl rfl hl.1 rfl ⟨Nat.le_of_ble_eq_true rfl, Nat.le_of_ble_eq_true rfl⟩ (Nat.le_of_ble_eq_true rfl) dX12_isUnlike_38 (fun H locs hH => ?_)
    refine lv_icmp_eq (tgt := 48) hx hb dX12_isUnlike_41 (by decide) (fun c19 => ?_) (fun c19 => ?_)
    · have h := it_pos h c19
      refine lv_iconst (v := 0) hx hb dX12_isUnlike_48 (by decide) ?_
      obtain ⟨rfl, rfl⟩ := ret_i h
      exact h_zret O hr hlk zb_0 hH dX12_isUnlike_49
    · have h := it_neg h c19
      refine lv_iconst (v := 1) hx hb dX12_isUnlike_44 (by decide) ?_
      refine lv_goto (tgt := 49) hx hb dX12_isUnlike_45 (by decide) ?_
      obtain ⟨rfl, rfl⟩ := ret_i h
      exact h_zret O hr hlk zb_1 hH dX12_isUnlike_49
set_option maxHeartbeats 4000000 in
theorem c_X12_isUnlike {l : Launch} {G : va_G} {tA : Nat → ClassId} {z : Nat} {E : Ex} {x1 : Int32} {x2 : Int32} {D D' : Dm} {r : Int32} (h : f_X12_isUnlike x1 x2 D = some (r, D')) : CtI l yX12_isUnlike cX12_isUnlike 4 (some .boolean) G tA z E 6 0 0 [.ref (z + 281), .int x1, .int x2] LAY D r LAY D' :=
  ct_BI (by decide +kernel) (Nat.le_of_ble_eq_true rfl) (fun _ _ _ _ _ _ _ _ O hr hlk => w_X12_isUnlike O hr hlk _ _ _ h)
set_option maxHeartbeats 4000000 in
theorem w_X12_symbolsOf_19 {G : va_G} {tA : Nat → ClassId} {z : Nat} {E : Ex} {p : Program} {l : Launch} {e : Env} {s : State} {m : MethodId} {args : Array Value} {below : List Frame} {meth : Method} {c : Code} {r : Int32} {D' : Dm} (O : Ok G tA z E cX12_symbolsOf RX12 2 p s m args c) (hr : meth.sig.returnType = some .int) (hlk : meth.locks = false)  (D : Dm) (h : f_X12_symbolsOf_19  D = some (r, D')) : BI G tA z E p l e (rmC 2 0 0) s m args below meth c LAY D r D' 2 19 [(0, .ref (z + 281))] [] := by
  obtain ⟨hx, hb, -, hown, hts, -⟩ := id O
  unfold f_X12_symbolsOf_19 at h
  intro H locs ls hH hl
  refine lv_aload_n hx hb dX12_symbolsOf_19 rfl (lv_at hl 0 rfl) ?_
  refine lv_iconst (v := 0) hx hb dX12_symbolsOf_20 (by decide) ?_
  refine lv_iconst (v := 2) hx hb dX12_symbolsOf_21 (by decide) ?_
  obtain ⟨y3, D1, hc2, h⟩ := bI_some h
  refine h_callVi (As := [.int 0, .int 2]) (rest := []) O hH (c_X12_its hc2) ml_X12_155 ly_281 rfl rfl hl.1 rfl ⟨Nat.le_of_ble_eq_true rfl, Nat.le_of_ble_eq_true rfl⟩ (Nat.le_of_ble_eq_true rfl) dX12_symbolsOf_22 (fun H locs hH => ?_)
  refine lv_goto (tgt := 34) hx hb dX12_symbolsOf_25 (by decide) ?_
  obtain ⟨rfl, rfl⟩ := ret_i h
  exact h_iret O hr hlk hH dX12_symbolsOf_34
set_option maxHeartbeats 4000000 in
theorem w_X12_symbolsOf {G : va_G} {tA : Nat → ClassId} {z : Nat} {E : Ex} {p : Program} {l : Launch} {e : Env} {s : State} {m : MethodId} {args : Array Value} {below : List Frame} {meth : Method} {c : Code} {r : Int32} {D' : Dm} (O : Ok G tA z E cX12_symbolsOf RX12 2 p s m args c) (hr : meth.sig.returnType = some .int) (hlk : meth.locks = false) (x1 : Int32) (D : Dm) (h : f_X12_symbolsOf x1 D = some (r, D')) : BI G tA z E p l e (rmC 2 0 0) s m args below meth c LAY D r D' 2 0 [(0, .ref (z + 281)), (1, .int x1)] [] := by
  obtain ⟨hx, hb, -, hown, hts, -⟩ := id O
  unfold f_X12_symbolsOf at h
  intro H locs ls hH hl
  refine lv_iload_n hx hb dX12_symbolsOf_0 rfl (lv_at hl 1 rfl) ?_
  refine lv_if_ne (tgt := 19) hx hb dX12_symbolsOf_1 (by decide) (fun c1 => ?_) (fun c1 => ?_)
  · have h := it_neg h c1
    exact w_X12_symbolsOf_19 O hr hlk _ h _ _ _ hH (lv_sub hl [0] rfl)
  · have h := it_pos h c1
    refine lv_aload_n hx hb dX12_symbolsOf_4 rfl (lv_at hl 0 rfl) ?_
    refine lv_iconst (v := 0) hx hb dX12_symbolsOf_5 (by decide) ?_
    refine lv_iconst (v := 2) hx hb dX12_symbolsOf_6 (by decide) ?_
    obtain ⟨y4, D2, hc3, h⟩ := bI_some h
    refine h_callVi (As := [.int 0, .int 2]) (rest := []) O hH (c_X12_its hc3) ml_X12_155 ly_281 rfl rfl hl.1 rfl ⟨Nat.le_of_ble_eq_true rfl, Nat.le_of_ble_eq_true rfl⟩ (Nat.le_of_ble_eq_true rfl) dX12_symbolsOf_7 (fun H locs hH => ?_)
    refine lv_aload_n hx hb dX12_symbolsOf_10 rfl (lv_at hl 0 rfl) ?_
    refine lv_iconst (v := 1) hx hb dX12_symbolsOf_11 (by decide) ?_
    refine lv_iconst (v := 2) hx hb dX12_symbolsOf_12 (by decide) ?_
    obtain ⟨y7, D5, hc6, h⟩ := bI_some h
    refine h_callVi (As := [.int 1, .int 2]) (rest := [.int y4]) O hH (c_X12_its hc6) ml_X12_155 ly_281 rfl rfl hl.1 rfl ⟨Nat.le_of_ble_eq_true rfl, Nat.le_of_ble_eq_true rfl⟩ (Nat.le_of_ble_eq_true rfl) dX12_symbolsOf_13 (fun H locs hH => ?_)
    refine lv_icmp_le (tgt := 28) hx hb dX12_symbolsOf_16 (by decide) (fun c8 => ?_) (fun c8 => ?_)
    · have h := it_pos h c8
      refine lv_aload_n hx hb dX12_symbolsOf_28 rfl (lv_at hl 0 rfl) ?_
      refine lv_iconst (v := 1) hx hb dX12_symbolsOf_29 (by decide) ?_
      refine lv_iconst (v := 2) hx hb dX12_symbolsOf_30 (by decide) ?_
      obtain ⟨y11, D9, hc10, h⟩ := bI_some h
      refine h_callVi (As := [.int 1, .int 2]) (rest := []) O hH (c_X12_its hc10) ml_X12_155 ly_281 rfl rfl hl.1 rfl ⟨Nat.le_of_ble_eq_true rfl, Nat.le_of_ble_eq_true rfl⟩ (Nat.le_of_ble_eq_true rfl) dX12_symbolsOf_31 (fun H locs hH => ?_)
      obtain ⟨rfl, rfl⟩ := ret_i h
      exact h_iret O hr hlk hH dX12_symbolsOf_34
    · have h := it_neg h c8
      exact w_X12_symbolsOf_19 O hr hlk _ h _ _ _ hH (lv_sub hl [0] rfl)
set_option maxHeartbeats 4000000 in
theorem c_X12_symbolsOf {l : Launch} {G : va_G} {tA : Nat → ClassId} {z : Nat} {E : Ex} {x1 : Int32} {D D' : Dm} {r : Int32} (h : f_X12_symbolsOf x1 D = some (r, D')) : CtI l yX12_symbolsOf cX12_symbolsOf 2 (some .int) G tA z E 2 0 0 [.ref (z + 281), .int x1] LAY D r LAY D' :=
  ct_BI (by decide +kernel) (Nat.le_of_ble_eq_true rfl) (fun _ _ _ _ _ _ _ _ O hr hlk => w_X12_symbolsOf O hr hlk _ _ h)
set_option maxHeartbeats 4000000 in
theorem w_X12_isHad_40 {G : va_G} {tA : Nat → ClassId} {z : Nat} {E : Ex} {p : Program} {l : Launch} {e : Env} {s : State} {m : MethodId} {args : Array Value} {below : List Frame} {meth : Method} {c : Code} {r : Int32} {D' : Dm} (O : Ok G tA z E cX12_isHad RX12 5 p s m args c) (hr : meth.sig.returnType = some .boolean) (hlk : meth.locks = false) {k3 : Int32 → Int32 → Int32 → Int32 → Dm → Option (Int32 × Dm)} (hk3 : ∀ (x1 : Int32) (x2 : Int32) (x3 : Int32) (x4 : Int32) (D : Dm), k3 x1 x2 x3 x4 D = some (r, D') → BI G tA z E p l e (rmC 1 0 0) s m args below meth c LAY D r D' 5 3 [(0, .ref (z + 281)), (1, .int x1), (2, .int x2), (3, .int x3), (4, .int x4)] []) (x1 : Int32) (x2 : Int32) (x3 : Int32) (x4 : Int32) (xs0 : Int32) (xs1 : Int32) (D : Dm) (h : f_X12_isHad_40 k3 x1 x2 x3 x4 xs0 xs1 D = some (r, D')) : BI G tA z E p l e (rmC 1 0 0) s m args below meth c LAY D r D' 5 40 [(0, .ref (z + 281)), (1, .int x1), (2, .int x2), (3, .int x3), (4, .int x4)] [.int xs0, .int xs1, .ref (z + 315)] := by
  obtain ⟨hx, hb, -, hown, hts, -⟩ := id O
  unfold f_X12_isHad_40 at h
  intro H locs ls hH hl
  refine lv_iadd hx hb dX12_isHad_40 ?_
  obtain ⟨g1, h⟩ := gd_some h
  refine h_iald O hH ly_315 g1 dX12_isHad_41 ?_
  refine lv_iload_n hx hb dX12_isHad_42 rfl (lv_at hl 3 rfl) ?_
  refine lv_icmp_ne (tgt := 48) hx hb dX12_isHad_43 (by decide) (fun c2 => ?_) (fun c2 => ?_)
  · have h := it_neg h c2
    obtain ⟨y3, e4, h⟩ := lt_some h
    refine lv_iinc (v := y3) (lv' := [(4, .int y3), (0, .ref (z + 281)), (1, .int x1), (2, .int x2), (3, .int x3)]) hx hb dX12_isHad_48 hl (k := 4) rfl (by rw [e4]; rfl) (by decide) rfl (fun ls hl => ?_)
    refine lv_goto (tgt := 3) hx hb dX12_isHad_51 (by decide) ?_
    exact hk3 _ _ _ _ _ h _ _ _ hH (lv_sub hl [1, 2, 3, 4, 0] rfl)
  · have h := it_pos h c2
    refine lv_iconst (v := 1) hx hb dX12_isHad_46 (by decide) ?_
    obtain ⟨rfl, rfl⟩ := ret_i h
    exact h_zret O hr hlk zb_1 hH dX12_isHad_47
set_option maxHeartbeats 4000000 in
theorem w_X12_isHad_3_b {G : va_G} {tA : Nat → ClassId} {z : Nat} {E : Ex} {p : Program} {l : Launch} {e : Env} {s : State} {m : MethodId} {args : Array Value} {below : List Frame} {meth : Method} {c : Code} {r : Int32} {D' : Dm} (O : Ok G tA z E cX12_isHad RX12 5 p s m args c) (hr : meth.sig.returnType = some .boolean) (hlk : meth.locks = false) {k3 : Int32 → Int32 → Int32 → Int32 → Dm → Option (Int32 × Dm)} (hk3 : ∀ (x1 : Int32) (x2 : Int32) (x3 : Int32) (x4 : Int32) (D : Dm), k3 x1 x2 x3 x4 D = some (r, D') → BI G tA z E p l e (rmC 1 0 0) s m args below meth c LAY D r D' 5 3 [(0, .ref (z + 281)), (1, .int x1), (2, .int x2), (3, .int x3), (4, .int x4)] []) (x1 : Int32) (x2 : Int32) (x3 : Int32) (x4 : Int32) (D : Dm) (h : f_X12_isHad_3_b k3 x1 x2 x3 x4 D = some (r, D')) : BI G tA z E p l e (rmC 1 0 0) s m args below meth c LAY D r D' 5 3 [(0, .ref (z + 281)), (1, .int x1), (2, .int x2), (3, .int x3), (4, .int x4)] [] := by
  obtain ⟨hx, hb, -, hown, hts, -⟩ := id O
  unfold f_X12_isHad_3_b at h
  intro H locs ls hH hl
  refine lv_iload hx hb dX12_isHad_3 (lv_at hl 4 rfl) ?_
  refine lv_iload_n hx hb dX12_isHad_5 rfl (lv_at hl 2 rfl) ?_
  refine lv_icmp_ge (tgt := 54) hx hb dX12_isHad_6 (by decide) (fun c1 => ?_) (fun c1 => ?_)
  · have h := it_pos h c1
    refine lv_iconst (v := 0) hx hb dX12_isHad_54 (by decide) ?_
    obtain ⟨rfl, rfl⟩ := ret_i h
    exact h_zret O hr hlk zb_0 hH dX12_isHad_55
  · have h := it_neg h c1
    refine lv_iload hx hb dX12_isHad_9 (lv_at hl 4 rfl) ?_
    refine lv_iconst (v := 4) hx hb dX12_isHad_11 (by decide) ?_
    refine lv_icmp_ge (tgt := 54) hx hb dX12_isHad_12 (by decide) (fun c2 => ?_) (fun c2 => ?_)
    · have h := it_pos h c2
      refine lv_iconst (v := 0) hx hb dX12_isHad_54 (by decide) ?_
      obtain ⟨rfl, rfl⟩ := ret_i h
      exact h_zret O hr hlk zb_0 hH dX12_isHad_55
    · have h := it_neg h c2
      refine lv_aload_n hx hb dX12_isHad_15 rfl (lv_at hl 0 rfl) ?_
      refine h_getr O hH ly_281 rfl fl_X12_117 dX12_isHad_16 ?_
      refine lv_bipush (v := 6) hx hb dX12_isHad_19 (by decide) ?_
      refine lv_iload_n hx hb dX12_isHad_21 rfl (lv_at hl 1 rfl) ?_
      refine lv_imul hx hb dX12_isHad_22 ?_
      refine lv_iload hx hb dX12_isHad_23 (lv_at hl 4 rfl) ?_
      refine lv_iconst (v := 2) hx hb dX12_isHad_25 (by decide) ?_
      refine lv_icmp_ge (tgt := 36) hx hb dX12_isHad_26 (by decide) (fun c3 => ?_) (fun c3 => ?_)
      · have h := it_pos h c3
        refine lv_iconst (v := 2) hx hb dX12_isHad_36 (by decide) ?_
        refine lv_iload hx hb dX12_isHad_37 (lv_at hl 4 rfl) ?_
        refine lv_iadd hx hb dX12_isHad_39 ?_
        exact w_X12_isHad_40 O hr hlk hk3 _ _ _ _ _ _ _ h _ _ _ hH (lv_sub hl [0, 1, 2, 3, 4] rfl)
      · have h := it_neg h c3
        refine lv_iconst (v := 1) hx hb dX12_isHad_29 (by decide) ?_
        refine lv_iload hx hb dX12_isHad_30 (lv_at hl 4 rfl) ?_
        refine lv_iadd hx hb dX12_isHad_32 ?_
        refine lv_goto (tgt := 40) hx hb dX12_isHad_33 (by decide) ?_
        exact w_X12_isHad_40 O hr hlk hk3 _ _ _ _ _ _ _ h _ _ _ hH (lv_sub hl [0, 1, 2, 3, 4] rfl)
set_option maxHeartbeats 4000000 in
theorem w_X12_isHad_3 {G : va_G} {tA : Nat → ClassId} {z : Nat} {E : Ex} {p : Program} {l : Launch} {e : Env} {s : State} {m : MethodId} {args : Array Value} {below : List Frame} {meth : Method} {c : Code} {r : Int32} {D' : Dm} (O : Ok G tA z E cX12_isHad RX12 5 p s m args c) (hr : meth.sig.returnType = some .boolean) (hlk : meth.locks = false) : ∀ (n : Nat) (x1 : Int32) (x2 : Int32) (x3 : Int32) (x4 : Int32) (D : Dm) (h : f_X12_isHad_3 n x1 x2 x3 x4 D = some (r, D')), BI G tA z E p l e (rmC 1 0 0) s m args below meth c LAY D r D' 5 3 [(0, .ref (z + 281)), (1, .int x1), (2, .int x2), (3, .int x3), (4, .int x4)] [] := by
  intro n
  induction n with
  | zero => intro x1 x2 x3 x4 D h; exact no_some h
  | succ n ih => intro x1 x2 x3 x4 D h; exact w_X12_isHad_3_b O hr hlk (fun x1 x2 x3 x4 D h => ih x1 x2 x3 x4 D h) x1 x2 x3 x4 D h
set_option maxHeartbeats 4000000 in
theorem w_X12_isHad {G : va_G} {tA : Nat → ClassId} {z : Nat} {E : Ex} {p : Program} {l : Launch} {e : Env} {s : State} {m : MethodId} {args : Array Value} {below : List Frame} {meth : Method} {c : Code} {r : Int32} {D' : Dm} (O : Ok G tA z E cX12_isHad RX12 5 p s m args c) (hr : meth.sig.returnType = some .boolean) (hlk : meth.locks = false) (x1 : Int32) (x2 : Int32) (x3 : Int32) (D : Dm) (h : f_X12_isHad x1 x2 x3 D = some (r, D')) : BI G tA z E p l e (rmC 1 0 0) s m args below meth c LAY D r D' 5 0 [(0, .ref (z + 281)), (1, .int x1), (2, .int x2), (3, .int x3)] [] := by
  obtain ⟨hx, hb, -, hown, hts, -⟩ := id O
  unfold f_X12_isHad at h
  intro H locs ls hH hl
  refine lv_iconst (v := 0) hx hb dX12_isHad_0 (by decide) ?_
  refine lv_istore (lv' := [(4, .int 0), (0, .ref (z + 281)), (1, .int x1), (2, .int x2), (3, .int x3)]) hx hb dX12_isHad_1 hl (by decide) rfl (fun ls hl => ?_)
  exact w_X12_isHad_3 O hr hlk FU _ _ _ _ _ h _ _ _ hH (lv_sub hl [1, 2, 3, 4, 0] rfl)
set_option maxHeartbeats 4000000 in
theorem c_X12_isHad {l : Launch} {G : va_G} {tA : Nat → ClassId} {z : Nat} {E : Ex} {x1 : Int32} {x2 : Int32} {x3 : Int32} {D D' : Dm} {r : Int32} (h : f_X12_isHad x1 x2 x3 D = some (r, D')) : CtI l yX12_isHad cX12_isHad 5 (some .boolean) G tA z E 1 0 0 [.ref (z + 281), .int x1, .int x2, .int x3] LAY D r LAY D' :=
  ct_BI (by decide +kernel) (Nat.le_of_ble_eq_true rfl) (fun _ _ _ _ _ _ _ _ O hr hlk => w_X12_isHad O hr hlk _ _ _ _ h)
set_option maxHeartbeats 4000000 in
theorem w_X12_valueOf {G : va_G} {tA : Nat → ClassId} {z : Nat} {E : Ex} {p : Program} {l : Launch} {e : Env} {s : State} {m : MethodId} {args : Array Value} {below : List Frame} {meth : Method} {c : Code} {r : Int32} {D' : Dm} (O : Ok G tA z E cX12_valueOf RX12 5 p s m args c) (hr : meth.sig.returnType = some .int) (hlk : meth.locks = false) (x1 : Int32) (x2 : Int32) (x3 : Int32) (x4 : Int32) (D : Dm) (h : f_X12_valueOf x1 x2 x3 x4 D = some (r, D')) : BI G tA z E p l e (rmC 2 0 0) s m args below meth c LAY D r D' 5 0 [(0, .ref (z + 281)), (1, .int x1), (2, .int x2), (3, .int x3), (4, .int x4)] [] := by
  obtain ⟨hx, hb, -, hown, hts, -⟩ := id O
  unfold f_X12_valueOf at h
  intro H locs ls hH hl
  refine lv_iload_n hx hb dX12_valueOf_0 rfl (lv_at hl 1 rfl) ?_
  refine lv_iconst (v := (-1)) hx hb dX12_valueOf_1 (by decide) ?_
  refine lv_icmp_ne (tgt := 7) hx hb dX12_valueOf_2 (by decide) (fun c1 => ?_) (fun c1 => ?_)
  · have h := it_neg h c1
    refine lv_iload_n hx hb dX12_valueOf_7 rfl (lv_at hl 1 rfl) ?_
    refine lv_iload_n hx hb dX12_valueOf_8 rfl (lv_at hl 3 rfl) ?_
    refine lv_icmp_ne (tgt := 15) hx hb dX12_valueOf_9 (by decide) (fun c2 => ?_) (fun c2 => ?_)
    · have h := it_neg h c2
      refine lv_iload_n hx hb dX12_valueOf_15 rfl (lv_at hl 1 rfl) ?_
      refine lv_iload_n hx hb dX12_valueOf_16 rfl (lv_at hl 2 rfl) ?_
      refine lv_iconst (v := 0) hx hb dX12_valueOf_17 (by decide) ?_
      obtain ⟨y5, D3, hc4, h⟩ := bI_some h
      refine h_callSi (As := [.int x2, .int 0]) (rest := [.int x1]) O hH (c_X12_nameAt hc4) ml_X12_392 rfl hl.1 rfl ⟨Nat.le_of_ble_eq_true rfl, Nat.le_of_ble_eq_true rfl⟩ (Nat.le_of_ble_eq_true rfl) dX12_valueOf_18 (fun H locs hH => ?_)
      refine lv_icmp_ne (tgt := 31) hx hb dX12_valueOf_21 (by decide) (fun c6 => ?_) (fun c6 => ?_)
      · have h := it_neg h c6
        refine lv_aload_n hx hb dX12_valueOf_31 rfl (lv_at hl 0 rfl) ?_
        refine h_geti O hH ly_281 rfl fl_X12_483 dX12_valueOf_32 ?_
        obtain ⟨rfl, rfl⟩ := ret_i h
        exact h_iret O hr hlk hH dX12_valueOf_35
      · have h := it_pos h c6
        refine lv_aload_n hx hb dX12_valueOf_24 rfl (lv_at hl 0 rfl) ?_
        refine h_geti O hH ly_281 rfl fl_X12_480 dX12_valueOf_25 ?_
        refine lv_goto (tgt := 35) hx hb dX12_valueOf_28 (by decide) ?_
        obtain ⟨rfl, rfl⟩ := ret_i h
        exact h_iret O hr hlk hH dX12_valueOf_35
    · have h := it_pos h c2
      refine lv_iload hx hb dX12_valueOf_12 (lv_at hl 4 rfl) ?_
      obtain ⟨rfl, rfl⟩ := ret_i h
      exact h_iret O hr hlk hH dX12_valueOf_14
  · have h := it_pos h c1
    refine lv_iconst (v := (-1)) hx hb dX12_valueOf_5 (by decide) ?_
    obtain ⟨rfl, rfl⟩ := ret_i h
    exact h_iret O hr hlk hH dX12_valueOf_6
set_option maxHeartbeats 4000000 in
theorem c_X12_valueOf {l : Launch} {G : va_G} {tA : Nat → ClassId} {z : Nat} {E : Ex} {x1 : Int32} {x2 : Int32} {x3 : Int32} {x4 : Int32} {D D' : Dm} {r : Int32} (h : f_X12_valueOf x1 x2 x3 x4 D = some (r, D')) : CtI l yX12_valueOf cX12_valueOf 5 (some .int) G tA z E 2 0 0 [.ref (z + 281), .int x1, .int x2, .int x3, .int x4] LAY D r LAY D' :=
  ct_BI (by decide +kernel) (Nat.le_of_ble_eq_true rfl) (fun _ _ _ _ _ _ _ _ O hr hlk => w_X12_valueOf O hr hlk _ _ _ _ _ h)
set_option maxHeartbeats 4000000 in
theorem w_X12_guessGoes_182 {G : va_G} {tA : Nat → ClassId} {z : Nat} {E : Ex} {p : Program} {l : Launch} {e : Env} {s : State} {m : MethodId} {args : Array Value} {below : List Frame} {meth : Method} {c : Code} {D' : Dm} (O : Ok G tA z E cX12_guessGoes RX12 11 p s m args c) (hr : meth.sig.returnType = none) (hlk : meth.locks = false) (xs0 : Int32) (xs1 : Int32) (xs2 : Int32) (D : Dm) (h : f_X12_guessGoes_182 xs0 xs1 xs2 D = some D') : BV G tA z E p l e (rmC 26 0 0) s m args below meth c LAY D D' 11 182 [] [.int xs0, .int xs1, .int xs2, .ref (z + 281)] := by
  obtain ⟨hx, hb, -, hown, hts, -⟩ := id O
  unfold f_X12_guessGoes_182 at h
  intro H locs ls hH hl
  obtain ⟨D1, hc2, h⟩ := bV_some h
  refine h_callVv (As := [.int xs2, .int xs1, .int xs0]) (rest := []) O hH (c_X12_guesses hc2) ml_X12_486 ly_281 rfl rfl hl.1 rfl ⟨Nat.le_of_ble_eq_true rfl, Nat.le_of_ble_eq_true rfl⟩ (Nat.le_of_ble_eq_true rfl) dX12_guessGoes_182 (fun H locs hH => ?_)
  obtain rfl := ret_v h
  exact h_vret O hr hlk hH dX12_guessGoes_185
set_option maxHeartbeats 4000000 in
theorem w_X12_guessGoes_170 {G : va_G} {tA : Nat → ClassId} {z : Nat} {E : Ex} {p : Program} {l : Launch} {e : Env} {s : State} {m : MethodId} {args : Array Value} {below : List Frame} {meth : Method} {c : Code} {D' : Dm} (O : Ok G tA z E cX12_guessGoes RX12 11 p s m args c) (hr : meth.sig.returnType = none) (hlk : meth.locks = false) (x8 : Int32) (x9 : Int32) (x10 : Int32) (xs0 : Int32) (xs1 : Int32) (D : Dm) (h : f_X12_guessGoes_170 x8 x9 x10 xs0 xs1 D = some D') : BV G tA z E p l e (rmC 26 0 0) s m args below meth c LAY D D' 11 170 [(8, .int x8), (9, .int x9), (10, .int x10)] [.int xs0, .int xs1, .ref (z + 281)] := by
  obtain ⟨hx, hb, -, hown, hts, -⟩ := id O
  unfold f_X12_guessGoes_170 at h
  intro H locs ls hH hl
  refine lv_iload hx hb dX12_guessGoes_170 (lv_at hl 2 rfl) ?_
  refine lv_if_eq (tgt := 180) hx hb dX12_guessGoes_172 (by decide) (fun c1 => ?_) (fun c1 => ?_)
  · have h := it_pos h c1
    refine lv_iload hx hb dX12_guessGoes_180 (lv_at hl 1 rfl) ?_
    exact w_X12_guessGoes_182 O hr hlk _ _ _ _ h _ _ _ hH (lv_sub hl [] rfl)
  · have h := it_neg h c1
    refine lv_iload hx hb dX12_guessGoes_175 (lv_at hl 0 rfl) ?_
    refine lv_goto (tgt := 182) hx hb dX12_guessGoes_177 (by decide) ?_
    exact w_X12_guessGoes_182 O hr hlk _ _ _ _ h _ _ _ hH (lv_sub hl [] rfl)
set_option maxHeartbeats 4000000 in
theorem w_X12_guessGoes_148 {G : va_G} {tA : Nat → ClassId} {z : Nat} {E : Ex} {p : Program} {l : Launch} {e : Env} {s : State} {m : MethodId} {args : Array Value} {below : List Frame} {meth : Method} {c : Code} {D' : Dm} (O : Ok G tA z E cX12_guessGoes RX12 11 p s m args c) (hr : meth.sig.returnType = none) (hlk : meth.locks = false) (x6 : Int32) (x8 : Int32) (x9 : Int32) (xs0 : Int32) (D : Dm) (h : f_X12_guessGoes_148 x6 x8 x9 xs0 D = some D') : BV G tA z E p l e (rmC 26 0 0) s m args below meth c LAY D D' 11 148 [(0, .ref (z + 281)), (6, .int x6), (8, .int x8), (9, .int x9)] [.int xs0] := by
  obtain ⟨hx, hb, -, hown, hts, -⟩ := id O
  unfold f_X12_guessGoes_148 at h
  intro H locs ls hH hl
  refine lv_istore (lv' := [(10, .int xs0), (0, .ref (z + 281)), (6, .int x6), (8, .int x8), (9, .int x9)]) hx hb dX12_guessGoes_148 hl (by decide) rfl (fun ls hl => ?_)
  refine lv_aload_n hx hb dX12_guessGoes_150 rfl (lv_at hl 1 rfl) ?_
  refine lv_aload_n hx hb dX12_guessGoes_151 rfl (lv_at hl 1 rfl) ?_
  refine h_getr O hH ly_281 rfl fl_X12_90 dX12_guessGoes_152 ?_
  refine lv_iload hx hb dX12_guessGoes_155 (lv_at hl 2 rfl) ?_
  obtain ⟨g1, h⟩ := gd_some h
  refine h_iald O hH ly_306 g1 dX12_guessGoes_157 ?_
  refine lv_iload hx hb dX12_guessGoes_158 (lv_at hl 0 rfl) ?_
  refine lv_if_eq (tgt := 168) hx hb dX12_guessGoes_160 (by decide) (fun c2 => ?_) (fun c2 => ?_)
  · have h := it_pos h c2
    refine lv_iload hx hb dX12_guessGoes_168 (lv_at hl 3 rfl) ?_
    exact w_X12_guessGoes_170 O hr hlk _ _ _ _ _ _ h _ _ _ hH (lv_sub hl [3, 4, 0] rfl)
  · have h := it_neg h c2
    refine lv_iload hx hb dX12_guessGoes_163 (lv_at hl 4 rfl) ?_
    refine lv_goto (tgt := 170) hx hb dX12_guessGoes_165 (by decide) ?_
    exact w_X12_guessGoes_170 O hr hlk _ _ _ _ _ _ h _ _ _ hH (lv_sub hl [3, 4, 0] rfl)
set_option maxHeartbeats 4000000 in
theorem w_X12_guessGoes_78 {G : va_G} {tA : Nat → ClassId} {z : Nat} {E : Ex} {p : Program} {l : Launch} {e : Env} {s : State} {m : MethodId} {args : Array Value} {below : List Frame} {meth : Method} {c : Code} {D' : Dm} (O : Ok G tA z E cX12_guessGoes RX12 11 p s m args c) (hr : meth.sig.returnType = none) (hlk : meth.locks = false) (x1 : Int32) (x2 : Int32) (x3 : Int32) (x4 : Int32) (xs0 : Int32) (D : Dm) (h : f_X12_guessGoes_78 x1 x2 x3 x4 xs0 D = some D') : BV G tA z E p l e (rmC 26 0 0) s m args below meth c LAY D D' 11 78 [(0, .ref (z + 281)), (1, .int x1), (2, .int x2), (3, .int x3), (4, .int x4)] [.int xs0] := by
  obtain ⟨hx, hb, -, hown, hts, -⟩ := id O
  unfold f_X12_guessGoes_78 at h
  intro H locs ls hH hl
  refine lv_istore (lv' := [(5, .int xs0), (0, .ref (z + 281)), (1, .int x1), (2, .int x2), (3, .int x3), (4, .int x4)]) hx hb dX12_guessGoes_78 hl (by decide) rfl (fun ls hl => ?_)
  refine lv_iload_n hx hb dX12_guessGoes_80 rfl (lv_at hl 4 rfl) ?_
  refine lv_iload_n hx hb dX12_guessGoes_81 rfl (lv_at hl 2 rfl) ?_
  refine lv_iload hx hb dX12_guessGoes_82 (lv_at hl 0 rfl) ?_
  obtain ⟨y3, D1, hc2, h⟩ := bI_some h
  refine h_callSi (As := [.int x3, .int x1, .int xs0]) (rest := []) O hH (c_X12_longAt hc2) ml_X12_378 rfl hl.1 rfl ⟨Nat.le_of_ble_eq_true rfl, Nat.le_of_ble_eq_true rfl⟩ (Nat.le_of_ble_eq_true rfl) dX12_guessGoes_84 (fun H locs hH => ?_)
  refine lv_istore (lv' := [(6, .int y3), (5, .int xs0), (0, .ref (z + 281)), (1, .int x1), (2, .int x2), (3, .int x3), (4, .int x4)]) hx hb dX12_guessGoes_87 hl (by decide) rfl (fun ls hl => ?_)
  refine lv_aload_n hx hb dX12_guessGoes_89 rfl (lv_at hl 2 rfl) ?_
  refine h_getr O hH ly_281 rfl fl_X12_63 dX12_guessGoes_90 ?_
  refine lv_iload hx hb dX12_guessGoes_93 (lv_at hl 0 rfl) ?_
  obtain ⟨g4, h⟩ := gd_some h
  refine h_iald O hH ly_297 g4 dX12_guessGoes_95 ?_
  refine lv_topi (fun y5 e6 => ?_)
  have h := lt_at e6 h
  refine lv_istore (lv' := [(7, .int y5), (6, .int y3), (5, .int xs0), (0, .ref (z + 281)), (1, .int x1), (2, .int x2), (3, .int x3), (4, .int x4)]) hx hb dX12_guessGoes_96 hl (by decide) rfl (fun ls hl => ?_)
  refine lv_aload_n hx hb dX12_guessGoes_98 rfl (lv_at hl 3 rfl) ?_
  refine lv_iload hx hb dX12_guessGoes_99 (lv_at hl 0 rfl) ?_
  refine lv_iconst (v := 0) hx hb dX12_guessGoes_101 (by decide) ?_
  obtain ⟨y9, D7, hc8, h⟩ := bI_some h
  refine h_callSi (As := [.int y5, .int 0]) (rest := [.ref (z + 281)]) O hH (c_X12_nameAt hc8) ml_X12_392 rfl hl.1 rfl ⟨Nat.le_of_ble_eq_true rfl, Nat.le_of_ble_eq_true rfl⟩ (Nat.le_of_ble_eq_true rfl) dX12_guessGoes_102 (fun H locs hH => ?_)
  refine lv_iload hx hb dX12_guessGoes_105 (lv_at hl 7 rfl) ?_
  refine lv_iload hx hb dX12_guessGoes_107 (lv_at hl 2 rfl) ?_
  refine lv_iload_n hx hb dX12_guessGoes_109 rfl (lv_at hl 5 rfl) ?_
  obtain ⟨y12, D10, hc11, h⟩ := bI_some h
  refine h_callVi (As := [.int y9, .int x4, .int xs0, .int x2]) (rest := []) O hH (c_X12_valueOf hc11) ml_X12_489 ly_281 rfl rfl hl.1 rfl ⟨Nat.le_of_ble_eq_true rfl, Nat.le_of_ble_eq_true rfl⟩ (Nat.le_of_ble_eq_true rfl) dX12_guessGoes_110 (fun H locs hH => ?_)
  refine lv_istore (lv' := [(8, .int y12), (7, .int y5), (6, .int y3), (5, .int xs0), (0, .ref (z + 281)), (1, .int x1), (2, .int x2), (3, .int x3), (4, .int x4)]) hx hb dX12_guessGoes_113 hl (by decide) rfl (fun ls hl => ?_)
  refine lv_aload_n hx hb dX12_guessGoes_115 rfl (lv_at hl 4 rfl) ?_
  refine lv_iload hx hb dX12_guessGoes_116 (lv_at hl 1 rfl) ?_
  refine lv_iconst (v := 1) hx hb dX12_guessGoes_118 (by decide) ?_
  obtain ⟨y15, D13, hc14, h⟩ := bI_some h
  refine h_callSi (As := [.int y5, .int 1]) (rest := [.ref (z + 281)]) O hH (c_X12_nameAt hc14) ml_X12_392 rfl hl.1 rfl ⟨Nat.le_of_ble_eq_true rfl, Nat.le_of_ble_eq_true rfl⟩ (Nat.le_of_ble_eq_true rfl) dX12_guessGoes_119 (fun H locs hH => ?_)
  refine lv_iload hx hb dX12_guessGoes_122 (lv_at hl 8 rfl) ?_
  refine lv_iload hx hb dX12_guessGoes_124 (lv_at hl 3 rfl) ?_
  refine lv_iload_n hx hb dX12_guessGoes_126 rfl (lv_at hl 6 rfl) ?_
  obtain ⟨y18, D16, hc17, h⟩ := bI_some h
  refine h_callVi (As := [.int y15, .int x4, .int xs0, .int x2]) (rest := []) O hH (c_X12_valueOf hc17) ml_X12_489 ly_281 rfl rfl hl.1 rfl ⟨Nat.le_of_ble_eq_true rfl, Nat.le_of_ble_eq_true rfl⟩ (Nat.le_of_ble_eq_true rfl) dX12_guessGoes_127 (fun H locs hH => ?_)
  refine lv_istore (lv' := [(9, .int y18), (8, .int y12), (7, .int y5), (6, .int y3), (5, .int xs0), (0, .ref (z + 281)), (1, .int x1), (2, .int x2), (3, .int x3), (4, .int x4)]) hx hb dX12_guessGoes_130 hl (by decide) rfl (fun ls hl => ?_)
  refine lv_aload_n hx hb dX12_guessGoes_132 rfl (lv_at hl 5 rfl) ?_
  refine h_getr O hH ly_281 rfl fl_X12_93 dX12_guessGoes_133 ?_
  refine lv_iload hx hb dX12_guessGoes_136 (lv_at hl 3 rfl) ?_
  obtain ⟨g19, h⟩ := gd_some h
  refine h_iald O hH ly_307 g19 dX12_guessGoes_138 ?_
  refine lv_iconst (v := 1) hx hb dX12_guessGoes_139 (by decide) ?_
  refine lv_icmp_ne (tgt := 147) hx hb dX12_guessGoes_140 (by decide) (fun c20 => ?_) (fun c20 => ?_)
  · have h := it_neg h c20
    refine lv_iconst (v := 0) hx hb dX12_guessGoes_147 (by decide) ?_
    exact w_X12_guessGoes_148 O hr hlk _ _ _ _ _ h _ _ _ hH (lv_sub hl [5, 3, 1, 0] rfl)
  · have h := it_pos h c20
    refine lv_iconst (v := 1) hx hb dX12_guessGoes_143 (by decide) ?_
    refine lv_goto (tgt := 148) hx hb dX12_guessGoes_144 (by decide) ?_
    exact w_X12_guessGoes_148 O hr hlk _ _ _ _ _ h _ _ _ hH (lv_sub hl [5, 3, 1, 0] rfl)
set_option maxHeartbeats 4000000 in
theorem w_X12_guessGoes {G : va_G} {tA : Nat → ClassId} {z : Nat} {E : Ex} {p : Program} {l : Launch} {e : Env} {s : State} {m : MethodId} {args : Array Value} {below : List Frame} {meth : Method} {c : Code} {D' : Dm} (O : Ok G tA z E cX12_guessGoes RX12 11 p s m args c) (hr : meth.sig.returnType = none) (hlk : meth.locks = false) (x1 : Int32) (x2 : Int32) (D : Dm) (h : f_X12_guessGoes x1 x2 D = some D') : BV G tA z E p l e (rmC 26 0 0) s m args below meth c LAY D D' 11 0 [(0, .ref (z + 281)), (1, .int x1), (2, .int x2)] [] := by
  obtain ⟨hx, hb, -, hown, hts, -⟩ := id O
  unfold f_X12_guessGoes at h
  intro H locs ls hH hl
  refine lv_aload_n hx hb dX12_guessGoes_0 rfl (lv_at hl 0 rfl) ?_
  refine h_geti O hH ly_281 rfl fl_X12_477 dX12_guessGoes_1 ?_
  refine lv_iconst (v := (-1)) hx hb dX12_guessGoes_4 (by decide) ?_
  refine lv_icmp_ne (tgt := 9) hx hb dX12_guessGoes_5 (by decide) (fun c1 => ?_) (fun c1 => ?_)
  · have h := it_neg h c1
    refine lv_iload_n hx hb dX12_guessGoes_9 rfl (lv_at hl 1 rfl) ?_
    refine lv_aload_n hx hb dX12_guessGoes_10 rfl (lv_at hl 0 rfl) ?_
    refine lv_iconst (v := 0) hx hb dX12_guessGoes_11 (by decide) ?_
    refine lv_iconst (v := 2) hx hb dX12_guessGoes_12 (by decide) ?_
    obtain ⟨y4, D2, hc3, h⟩ := bI_some h
    refine h_callVi (As := [.int 0, .int 2]) (rest := [.int x1]) O hH (c_X12_its hc3) ml_X12_155 ly_281 rfl rfl hl.1 rfl ⟨Nat.le_of_ble_eq_true rfl, Nat.le_of_ble_eq_true rfl⟩ (Nat.le_of_ble_eq_true rfl) dX12_guessGoes_13 (fun H locs hH => ?_)
    refine lv_icmp_lt (tgt := 27) hx hb dX12_guessGoes_16 (by decide) (fun c5 => ?_) (fun c5 => ?_)
    · have h := it_pos h c5
      refine lv_aload_n hx hb dX12_guessGoes_27 rfl (lv_at hl 0 rfl) ?_
      refine h_geti O hH ly_281 rfl fl_X12_477 dX12_guessGoes_28 ?_
      refine lv_topi (fun y6 e7 => ?_)
      have h := lt_at e7 h
      refine lv_istore_n (lv' := [(3, .int y6), (0, .ref (z + 281)), (1, .int x1), (2, .int x2)]) hx hb dX12_guessGoes_31 rfl hl (by decide) rfl (fun ls hl => ?_)
      refine lv_aload_n hx hb dX12_guessGoes_32 rfl (lv_at hl 1 rfl) ?_
      refine lv_iload_n hx hb dX12_guessGoes_33 rfl (lv_at hl 0 rfl) ?_
      obtain ⟨y10, D8, hc9, h⟩ := bI_some h
      refine h_callVi (As := [.int y6]) (rest := []) O hH (c_X12_hasShort hc9) ml_X12_422 ly_281 rfl rfl hl.1 rfl ⟨Nat.le_of_ble_eq_true rfl, Nat.le_of_ble_eq_true rfl⟩ (Nat.le_of_ble_eq_true rfl) dX12_guessGoes_34 (fun H locs hH => ?_)
      refine lv_istore (lv' := [(4, .int y10), (3, .int y6), (0, .ref (z + 281)), (1, .int x1), (2, .int x2)]) hx hb dX12_guessGoes_37 hl (by decide) rfl (fun ls hl => ?_)
      refine lv_aload_n hx hb dX12_guessGoes_39 rfl (lv_at hl 2 rfl) ?_
      refine h_geti O hH ly_281 rfl fl_X12_480 dX12_guessGoes_40 ?_
      refine lv_iload_n hx hb dX12_guessGoes_43 rfl (lv_at hl 4 rfl) ?_
      refine lv_icmp_ne (tgt := 56) hx hb dX12_guessGoes_44 (by decide) (fun c11 => ?_) (fun c11 => ?_)
      · have h := it_neg h c11
        refine lv_aload_n hx hb dX12_guessGoes_56 rfl (lv_at hl 2 rfl) ?_
        refine h_geti O hH ly_281 rfl fl_X12_483 dX12_guessGoes_57 ?_
        refine lv_iload_n hx hb dX12_guessGoes_60 rfl (lv_at hl 4 rfl) ?_
        refine lv_icmp_ne (tgt := 73) hx hb dX12_guessGoes_61 (by decide) (fun c12 => ?_) (fun c12 => ?_)
        · have h := it_neg h c12
          refine lv_aload_n hx hb dX12_guessGoes_73 rfl (lv_at hl 2 rfl) ?_
          refine lv_iload_n hx hb dX12_guessGoes_74 rfl (lv_at hl 1 rfl) ?_
          obtain ⟨y15, D13, hc14, h⟩ := bI_some h
          refine h_callVi (As := [.int y6]) (rest := []) O hH (c_X12_namesOfShort hc14) ml_X12_431 ly_281 rfl rfl hl.1 rfl ⟨Nat.le_of_ble_eq_true rfl, Nat.le_of_ble_eq_true rfl⟩ (Nat.le_of_ble_eq_true rfl) dX12_guessGoes_75 (fun H locs hH => ?_)
          exact w_X12_guessGoes_78 O hr hlk _ _ _ _ _ _ h _ _ _ hH (lv_sub hl [2, 3, 4, 1, 0] rfl)
        · have h := it_pos h c12
          refine lv_iload hx hb dX12_guessGoes_64 (lv_at hl 0 rfl) ?_
          refine lv_iconst (v := 1) hx hb dX12_guessGoes_66 (by decide) ?_
          obtain ⟨y18, D16, hc17, h⟩ := bI_some h
          refine h_callSi (As := [.int y10, .int 1]) (rest := []) O hH (c_X12_nameAt hc17) ml_X12_392 rfl hl.1 rfl ⟨Nat.le_of_ble_eq_true rfl, Nat.le_of_ble_eq_true rfl⟩ (Nat.le_of_ble_eq_true rfl) dX12_guessGoes_67 (fun H locs hH => ?_)
          refine lv_goto (tgt := 78) hx hb dX12_guessGoes_70 (by decide) ?_
          exact w_X12_guessGoes_78 O hr hlk _ _ _ _ _ _ h _ _ _ hH (lv_sub hl [2, 3, 4, 1, 0] rfl)
      · have h := it_pos h c11
        refine lv_iload hx hb dX12_guessGoes_47 (lv_at hl 0 rfl) ?_
        refine lv_iconst (v := 0) hx hb dX12_guessGoes_49 (by decide) ?_
        obtain ⟨y21, D19, hc20, h⟩ := bI_some h
        refine h_callSi (As := [.int y10, .int 0]) (rest := []) O hH (c_X12_nameAt hc20) ml_X12_392 rfl hl.1 rfl ⟨Nat.le_of_ble_eq_true rfl, Nat.le_of_ble_eq_true rfl⟩ (Nat.le_of_ble_eq_true rfl) dX12_guessGoes_50 (fun H locs hH => ?_)
        refine lv_goto (tgt := 78) hx hb dX12_guessGoes_53 (by decide) ?_
        exact w_X12_guessGoes_78 O hr hlk _ _ _ _ _ _ h _ _ _ hH (lv_sub hl [2, 3, 4, 1, 0] rfl)
    · have h := it_neg h c5
      refine lv_aload_n hx hb dX12_guessGoes_19 rfl (lv_at hl 0 rfl) ?_
      refine lv_iconst (v := (-1)) hx hb dX12_guessGoes_20 (by decide) ?_
      refine lv_iconst (v := (-1)) hx hb dX12_guessGoes_21 (by decide) ?_
      refine lv_iconst (v := (-1)) hx hb dX12_guessGoes_22 (by decide) ?_
      obtain ⟨D22, hc23, h⟩ := bV_some h
      refine h_callVv (As := [.int (-1), .int (-1), .int (-1)]) (rest := []) O hH (c_X12_guesses hc23) ml_X12_486 ly_281 rfl rfl hl.1 rfl ⟨Nat.le_of_ble_eq_true rfl, Nat.le_of_ble_eq_true rfl⟩ (Nat.le_of_ble_eq_true rfl) dX12_guessGoes_23 (fun H locs hH => ?_)
      obtain rfl := ret_v h
      exact h_vret O hr hlk hH dX12_guessGoes_26
  · have h := it_pos h c1
    obtain rfl := ret_v h
    exact h_vret O hr hlk hH dX12_guessGoes_8
set_option maxHeartbeats 4000000 in
theorem c_X12_guessGoes {l : Launch} {G : va_G} {tA : Nat → ClassId} {z : Nat} {E : Ex} {x1 : Int32} {x2 : Int32} {D D' : Dm} (h : f_X12_guessGoes x1 x2 D = some D') : CtV l yX12_guessGoes cX12_guessGoes 11 G tA z E 26 0 0 [.ref (z + 281), .int x1, .int x2] LAY D LAY D' :=
  ct_BV (by decide +kernel) (Nat.le_of_ble_eq_true rfl) (fun _ _ _ _ _ _ _ _ O hr hlk => w_X12_guessGoes O hr hlk _ _ _ h)
set_option maxHeartbeats 4000000 in
theorem w_X12_follows_225 {G : va_G} {tA : Nat → ClassId} {z : Nat} {E : Ex} {p : Program} {l : Launch} {e : Env} {s : State} {m : MethodId} {args : Array Value} {below : List Frame} {meth : Method} {c : Code} {r : Int32} {D' : Dm} (O : Ok G tA z E cX12_follows RX12 6 p s m args c) (hr : meth.sig.returnType = some .boolean) (hlk : meth.locks = false) (xs0 : Int32) (xs1 : Int32) (D : Dm) (h : f_X12_follows_225 xs0 xs1 D = some (r, D')) : BI G tA z E p l e (rmC 27 0 0) s m args below meth c LAY D r D' 6 225 [] [.int xs0, .int xs1, .ref (z + 314)] := by
  obtain ⟨hx, hb, -, hown, hts, -⟩ := id O
  unfold f_X12_follows_225 at h
  intro H locs ls hH hl
  obtain ⟨g1, h⟩ := gd_some h
  obtain ⟨D2, e3, h⟩ := lt_some h
  refine h_iast O hH ly_314 g1 e3 dX12_follows_225 (fun H locs hH => ?_)
  refine lv_iconst (v := 1) hx hb dX12_follows_226 (by decide) ?_
  obtain ⟨rfl, rfl⟩ := ret_i h
  exact h_zret O hr hlk zb_1 hH dX12_follows_227
set_option maxHeartbeats 4000000 in
theorem w_X12_follows_99 {G : va_G} {tA : Nat → ClassId} {z : Nat} {E : Ex} {p : Program} {l : Launch} {e : Env} {s : State} {m : MethodId} {args : Array Value} {below : List Frame} {meth : Method} {c : Code} {r : Int32} {D' : Dm} (O : Ok G tA z E cX12_follows RX12 6 p s m args c) (hr : meth.sig.returnType = some .boolean) (hlk : meth.locks = false) (x1 : Int32) (x2 : Int32) (x3 : Int32) (x4 : Int32) (D : Dm) (h : f_X12_follows_99 x1 x2 x3 x4 D = some (r, D')) : BI G tA z E p l e (rmC 27 0 0) s m args below meth c LAY D r D' 6 99 [(0, .ref (z + 281)), (1, .int x1), (2, .int x2), (3, .int x3), (4, .int x4)] [] := by
  obtain ⟨hx, hb, -, hown, hts, -⟩ := id O
  unfold f_X12_follows_99 at h
  intro H locs ls hH hl
  refine lv_aload_n hx hb dX12_follows_99 rfl (lv_at hl 0 rfl) ?_
  refine lv_aload_n hx hb dX12_follows_100 rfl (lv_at hl 0 rfl) ?_
  refine h_getr O hH ly_281 rfl fl_X12_117 dX12_follows_101 ?_
  refine lv_bipush (v := 6) hx hb dX12_follows_104 (by decide) ?_
  refine lv_iload_n hx hb dX12_follows_106 rfl (lv_at hl 1 rfl) ?_
  refine lv_imul hx hb dX12_follows_107 ?_
  obtain ⟨g1, h⟩ := gd_some h
  refine h_iald O hH ly_315 g1 dX12_follows_108 ?_
  refine lv_aload_n hx hb dX12_follows_109 rfl (lv_at hl 0 rfl) ?_
  refine h_getr O hH ly_281 rfl fl_X12_117 dX12_follows_110 ?_
  refine lv_bipush (v := 6) hx hb dX12_follows_113 (by decide) ?_
  refine lv_iload_n hx hb dX12_follows_115 rfl (lv_at hl 1 rfl) ?_
  refine lv_imul hx hb dX12_follows_116 ?_
  refine lv_iconst (v := 1) hx hb dX12_follows_117 (by decide) ?_
  refine lv_iadd hx hb dX12_follows_118 ?_
  obtain ⟨g2, h⟩ := gd_some h
  refine h_iald O hH ly_315 g2 dX12_follows_119 ?_
  refine lv_aload_n hx hb dX12_follows_120 rfl (lv_at hl 0 rfl) ?_
  refine h_getr O hH ly_281 rfl fl_X12_117 dX12_follows_121 ?_
  refine lv_bipush (v := 6) hx hb dX12_follows_124 (by decide) ?_
  refine lv_iload_n hx hb dX12_follows_126 rfl (lv_at hl 1 rfl) ?_
  refine lv_imul hx hb dX12_follows_127 ?_
  refine lv_iconst (v := 2) hx hb dX12_follows_128 (by decide) ?_
  refine lv_iadd hx hb dX12_follows_129 ?_
  obtain ⟨g3, h⟩ := gd_some h
  refine h_iald O hH ly_315 g3 dX12_follows_130 ?_
  obtain ⟨D4, hc5, h⟩ := bV_some h
  refine h_callVv (As := [.int (D 315 (Int32.toNatClampNeg (6 * x1))), .int (D 315 (Int32.toNatClampNeg ((6 * x1) + 1))), .int (D 315 (Int32.toNatClampNeg ((6 * x1) + 2)))]) (rest := []) O hH (c_X12_stays hc5) ml_X12_144 ly_281 rfl rfl hl.1 rfl ⟨Nat.le_of_ble_eq_true rfl, Nat.le_of_ble_eq_true rfl⟩ (Nat.le_of_ble_eq_true rfl) dX12_follows_131 (fun H locs hH => ?_)
  refine lv_aload_n hx hb dX12_follows_134 rfl (lv_at hl 0 rfl) ?_
  refine lv_iconst (v := 0) hx hb dX12_follows_135 (by decide) ?_
  refine lv_iload_n hx hb dX12_follows_136 rfl (lv_at hl 2 rfl) ?_
  refine lv_iload_n hx hb dX12_follows_137 rfl (lv_at hl 3 rfl) ?_
  obtain ⟨D6, hc7, h⟩ := bV_some h
  refine h_callVv (As := [.int 0, .int x2, .int x3]) (rest := []) O hH (c_X12_goesBy hc7) ml_X12_279 ly_281 rfl rfl hl.1 rfl ⟨Nat.le_of_ble_eq_true rfl, Nat.le_of_ble_eq_true rfl⟩ (Nat.le_of_ble_eq_true rfl) dX12_follows_138 (fun H locs hH => ?_)
  refine lv_aload_n hx hb dX12_follows_141 rfl (lv_at hl 0 rfl) ?_
  refine h_geti O hH ly_281 rfl fl_X12_493 dX12_follows_142 ?_
  refine lv_topi (fun y8 e9 => ?_)
  have h := lt_at e9 h
  refine lv_istore (lv' := [(5, .int y8), (0, .ref (z + 281)), (1, .int x1), (2, .int x2), (3, .int x3), (4, .int x4)]) hx hb dX12_follows_145 hl (by decide) rfl (fun ls hl => ?_)
  refine lv_aload_n hx hb dX12_follows_147 rfl (lv_at hl 1 rfl) ?_
  refine lv_iload hx hb dX12_follows_148 (lv_at hl 5 rfl) ?_
  obtain ⟨y12, D10, hc11, h⟩ := bI_some h
  refine h_callVi (As := [.int x4]) (rest := []) O hH (c_X12_comes hc11) ml_X12_514 ly_281 rfl rfl hl.1 rfl ⟨Nat.le_of_ble_eq_true rfl, Nat.le_of_ble_eq_true rfl⟩ (Nat.le_of_ble_eq_true rfl) dX12_follows_150 (fun H locs hH => ?_)
  refine lv_if_ne (tgt := 158) hx hb dX12_follows_153 (by decide) (fun c13 => ?_) (fun c13 => ?_)
  · have h := it_neg h c13
    refine lv_aload_n hx hb dX12_follows_158 rfl (lv_at hl 1 rfl) ?_
    refine h_getr O hH ly_281 rfl fl_X12_102 dX12_follows_159 ?_
    refine lv_iload hx hb dX12_follows_162 (lv_at hl 0 rfl) ?_
    refine lv_iload_n hx hb dX12_follows_164 rfl (lv_at hl 2 rfl) ?_
    obtain ⟨g14, h⟩ := gd_some h
    obtain ⟨D15, e16, h⟩ := lt_some h
    refine h_iast O hH ly_310 g14 e16 dX12_follows_165 (fun H locs hH => ?_)
    refine lv_aload_n hx hb dX12_follows_166 rfl (lv_at hl 1 rfl) ?_
    refine h_getr O hH ly_281 rfl fl_X12_105 dX12_follows_167 ?_
    refine lv_iload hx hb dX12_follows_170 (lv_at hl 0 rfl) ?_
    refine lv_iload_n hx hb dX12_follows_172 rfl (lv_at hl 3 rfl) ?_
    obtain ⟨g17, h⟩ := gd_some h
    obtain ⟨D18, e19, h⟩ := lt_some h
    refine h_iast O hH ly_311 g17 e19 dX12_follows_173 (fun H locs hH => ?_)
    refine lv_aload_n hx hb dX12_follows_174 rfl (lv_at hl 1 rfl) ?_
    refine h_getr O hH ly_281 rfl fl_X12_108 dX12_follows_175 ?_
    refine lv_iload hx hb dX12_follows_178 (lv_at hl 0 rfl) ?_
    refine lv_iload_n hx hb dX12_follows_180 rfl (lv_at hl 4 rfl) ?_
    obtain ⟨g20, h⟩ := gd_some h
    obtain ⟨D21, e22, h⟩ := lt_some h
    refine h_iast O hH ly_312 g20 e22 dX12_follows_181 (fun H locs hH => ?_)
    refine lv_aload_n hx hb dX12_follows_182 rfl (lv_at hl 1 rfl) ?_
    refine h_getr O hH ly_281 rfl fl_X12_111 dX12_follows_183 ?_
    refine lv_iload hx hb dX12_follows_186 (lv_at hl 0 rfl) ?_
    refine lv_aload_n hx hb dX12_follows_188 rfl (lv_at hl 1 rfl) ?_
    refine h_getr O hH ly_281 rfl fl_X12_111 dX12_follows_189 ?_
    refine lv_iload_n hx hb dX12_follows_192 rfl (lv_at hl 2 rfl) ?_
    obtain ⟨g23, h⟩ := gd_some h
    refine h_iald O hH ly_313 g23 dX12_follows_193 ?_
    refine lv_iconst (v := 1) hx hb dX12_follows_194 (by decide) ?_
    refine lv_iadd hx hb dX12_follows_195 ?_
    obtain ⟨g24, h⟩ := gd_some h
    obtain ⟨D25, e26, h⟩ := lt_some h
    refine h_iast O hH ly_313 g24 e26 dX12_follows_196 (fun H locs hH => ?_)
    refine lv_aload_n hx hb dX12_follows_197 rfl (lv_at hl 1 rfl) ?_
    refine h_getr O hH ly_281 rfl fl_X12_114 dX12_follows_198 ?_
    refine lv_iload hx hb dX12_follows_201 (lv_at hl 0 rfl) ?_
    refine lv_iload_n hx hb dX12_follows_203 rfl (lv_at hl 4 rfl) ?_
    refine lv_aload_n hx hb dX12_follows_204 rfl (lv_at hl 1 rfl) ?_
    refine h_getr O hH ly_281 rfl fl_X12_114 dX12_follows_205 ?_
    refine lv_iload_n hx hb dX12_follows_208 rfl (lv_at hl 2 rfl) ?_
    obtain ⟨g27, h⟩ := gd_some h
    refine h_iald O hH ly_314 g27 dX12_follows_209 ?_
    refine lv_icmp_ne (tgt := 219) hx hb dX12_follows_210 (by decide) (fun c28 => ?_) (fun c28 => ?_)
    · have h := it_neg h c28
      refine lv_aload_n hx hb dX12_follows_219 rfl (lv_at hl 1 rfl) ?_
      refine h_getr O hH ly_281 rfl fl_X12_114 dX12_follows_220 ?_
      refine lv_iload_n hx hb dX12_follows_223 rfl (lv_at hl 2 rfl) ?_
      obtain ⟨g29, h⟩ := gd_some h
      refine h_iald O hH ly_314 g29 dX12_follows_224 ?_
      exact w_X12_follows_225 O hr hlk _ _ _ h _ _ _ hH (lv_sub hl [] rfl)
    · have h := it_pos h c28
      refine lv_iload_n hx hb dX12_follows_213 rfl (lv_at hl 4 rfl) ?_
      refine lv_iconst (v := 1) hx hb dX12_follows_214 (by decide) ?_
      refine lv_iadd hx hb dX12_follows_215 ?_
      refine lv_goto (tgt := 225) hx hb dX12_follows_216 (by decide) ?_
      exact w_X12_follows_225 O hr hlk _ _ _ h _ _ _ hH (lv_sub hl [] rfl)
  · have h := it_pos h c13
    refine lv_iconst (v := 0) hx hb dX12_follows_156 (by decide) ?_
    obtain ⟨rfl, rfl⟩ := ret_i h
    exact h_zret O hr hlk zb_0 hH dX12_follows_157
set_option maxHeartbeats 4000000 in
theorem w_X12_follows {G : va_G} {tA : Nat → ClassId} {z : Nat} {E : Ex} {p : Program} {l : Launch} {e : Env} {s : State} {m : MethodId} {args : Array Value} {below : List Frame} {meth : Method} {c : Code} {r : Int32} {D' : Dm} (O : Ok G tA z E cX12_follows RX12 6 p s m args c) (hr : meth.sig.returnType = some .boolean) (hlk : meth.locks = false) (x1 : Int32) (x2 : Int32) (x3 : Int32) (x4 : Int32) (D : Dm) (h : f_X12_follows x1 x2 x3 x4 D = some (r, D')) : BI G tA z E p l e (rmC 27 0 0) s m args below meth c LAY D r D' 6 0 [(0, .ref (z + 281)), (1, .int x1), (2, .int x2), (3, .int x3), (4, .int x4)] [] := by
  obtain ⟨hx, hb, -, hown, hts, -⟩ := id O
  unfold f_X12_follows at h
  intro H locs ls hH hl
  refine lv_iload hx hb dX12_follows_0 (lv_at hl 4 rfl) ?_
  refine lv_if_eq (tgt := 51) hx hb dX12_follows_2 (by decide) (fun c1 => ?_) (fun c1 => ?_)
  · have h := it_pos h c1
    refine lv_aload_n hx hb dX12_follows_51 rfl (lv_at hl 0 rfl) ?_
    refine lv_aload_n hx hb dX12_follows_52 rfl (lv_at hl 0 rfl) ?_
    refine h_getr O hH ly_281 rfl fl_X12_117 dX12_follows_53 ?_
    refine lv_bipush (v := 6) hx hb dX12_follows_56 (by decide) ?_
    refine lv_iload_n hx hb dX12_follows_58 rfl (lv_at hl 1 rfl) ?_
    refine lv_imul hx hb dX12_follows_59 ?_
    refine lv_iconst (v := 3) hx hb dX12_follows_60 (by decide) ?_
    refine lv_iadd hx hb dX12_follows_61 ?_
    obtain ⟨g2, h⟩ := gd_some h
    refine h_iald O hH ly_315 g2 dX12_follows_62 ?_
    refine lv_aload_n hx hb dX12_follows_63 rfl (lv_at hl 0 rfl) ?_
    refine h_getr O hH ly_281 rfl fl_X12_117 dX12_follows_64 ?_
    refine lv_bipush (v := 6) hx hb dX12_follows_67 (by decide) ?_
    refine lv_iload_n hx hb dX12_follows_69 rfl (lv_at hl 1 rfl) ?_
    refine lv_imul hx hb dX12_follows_70 ?_
    refine lv_iconst (v := 4) hx hb dX12_follows_71 (by decide) ?_
    refine lv_iadd hx hb dX12_follows_72 ?_
    obtain ⟨g3, h⟩ := gd_some h
    refine h_iald O hH ly_315 g3 dX12_follows_73 ?_
    refine lv_aload_n hx hb dX12_follows_74 rfl (lv_at hl 0 rfl) ?_
    refine h_getr O hH ly_281 rfl fl_X12_117 dX12_follows_75 ?_
    refine lv_bipush (v := 6) hx hb dX12_follows_78 (by decide) ?_
    refine lv_iload_n hx hb dX12_follows_80 rfl (lv_at hl 1 rfl) ?_
    refine lv_imul hx hb dX12_follows_81 ?_
    refine lv_iconst (v := 5) hx hb dX12_follows_82 (by decide) ?_
    refine lv_iadd hx hb dX12_follows_83 ?_
    obtain ⟨g4, h⟩ := gd_some h
    refine h_iald O hH ly_315 g4 dX12_follows_84 ?_
    obtain ⟨D5, hc6, h⟩ := bV_some h
    refine h_callVv (As := [.int (D 315 (Int32.toNatClampNeg ((6 * x1) + 3))), .int (D 315 (Int32.toNatClampNeg ((6 * x1) + 4))), .int (D 315 (Int32.toNatClampNeg ((6 * x1) + 5)))]) (rest := []) O hH (c_X12_stays hc6) ml_X12_144 ly_281 rfl rfl hl.1 rfl ⟨Nat.le_of_ble_eq_true rfl, Nat.le_of_ble_eq_true rfl⟩ (Nat.le_of_ble_eq_true rfl) dX12_follows_85 (fun H locs hH => ?_)
    refine lv_aload_n hx hb dX12_follows_88 rfl (lv_at hl 0 rfl) ?_
    refine lv_iconst (v := 1) hx hb dX12_follows_89 (by decide) ?_
    refine lv_iload_n hx hb dX12_follows_90 rfl (lv_at hl 2 rfl) ?_
    refine lv_iload_n hx hb dX12_follows_91 rfl (lv_at hl 3 rfl) ?_
    obtain ⟨D7, hc8, h⟩ := bV_some h
    refine h_callVv (As := [.int 1, .int x2, .int x3]) (rest := []) O hH (c_X12_goesBy hc8) ml_X12_279 ly_281 rfl rfl hl.1 rfl ⟨Nat.le_of_ble_eq_true rfl, Nat.le_of_ble_eq_true rfl⟩ (Nat.le_of_ble_eq_true rfl) dX12_follows_92 (fun H locs hH => ?_)
    refine lv_aload_n hx hb dX12_follows_95 rfl (lv_at hl 0 rfl) ?_
    obtain ⟨D9, hc10, h⟩ := bV_some h
    refine h_callVv (As := []) (rest := []) O hH (c_X12_keepsPair hc10) ml_X12_511 ly_281 rfl rfl hl.1 rfl ⟨Nat.le_of_ble_eq_true rfl, Nat.le_of_ble_eq_true rfl⟩ (Nat.le_of_ble_eq_true rfl) dX12_follows_96 (fun H locs hH => ?_)
    exact w_X12_follows_99 O hr hlk _ _ _ _ _ h _ _ _ hH (lv_sub hl [0, 1, 2, 3, 4] rfl)
  · have h := it_neg h c1
    refine lv_aload_n hx hb dX12_follows_5 rfl (lv_at hl 0 rfl) ?_
    refine lv_aload_n hx hb dX12_follows_6 rfl (lv_at hl 0 rfl) ?_
    refine h_getr O hH ly_281 rfl fl_X12_117 dX12_follows_7 ?_
    refine lv_bipush (v := 6) hx hb dX12_follows_10 (by decide) ?_
    refine lv_iload_n hx hb dX12_follows_12 rfl (lv_at hl 1 rfl) ?_
    refine lv_imul hx hb dX12_follows_13 ?_
    refine lv_iconst (v := 3) hx hb dX12_follows_14 (by decide) ?_
    refine lv_iadd hx hb dX12_follows_15 ?_
    obtain ⟨g11, h⟩ := gd_some h
    refine h_iald O hH ly_315 g11 dX12_follows_16 ?_
    refine lv_aload_n hx hb dX12_follows_17 rfl (lv_at hl 0 rfl) ?_
    refine h_getr O hH ly_281 rfl fl_X12_117 dX12_follows_18 ?_
    refine lv_bipush (v := 6) hx hb dX12_follows_21 (by decide) ?_
    refine lv_iload_n hx hb dX12_follows_23 rfl (lv_at hl 1 rfl) ?_
    refine lv_imul hx hb dX12_follows_24 ?_
    refine lv_iconst (v := 4) hx hb dX12_follows_25 (by decide) ?_
    refine lv_iadd hx hb dX12_follows_26 ?_
    obtain ⟨g12, h⟩ := gd_some h
    refine h_iald O hH ly_315 g12 dX12_follows_27 ?_
    refine lv_aload_n hx hb dX12_follows_28 rfl (lv_at hl 0 rfl) ?_
    refine h_getr O hH ly_281 rfl fl_X12_117 dX12_follows_29 ?_
    refine lv_bipush (v := 6) hx hb dX12_follows_32 (by decide) ?_
    refine lv_iload_n hx hb dX12_follows_34 rfl (lv_at hl 1 rfl) ?_
    refine lv_imul hx hb dX12_follows_35 ?_
    refine lv_iconst (v := 5) hx hb dX12_follows_36 (by decide) ?_
    refine lv_iadd hx hb dX12_follows_37 ?_
    obtain ⟨g13, h⟩ := gd_some h
    refine h_iald O hH ly_315 g13 dX12_follows_38 ?_
    obtain ⟨D14, hc15, h⟩ := bV_some h
    refine h_callVv (As := [.int (D 315 (Int32.toNatClampNeg ((6 * x1) + 3))), .int (D 315 (Int32.toNatClampNeg ((6 * x1) + 4))), .int (D 315 (Int32.toNatClampNeg ((6 * x1) + 5)))]) (rest := []) O hH (c_X12_guesses hc15) ml_X12_486 ly_281 rfl rfl hl.1 rfl ⟨Nat.le_of_ble_eq_true rfl, Nat.le_of_ble_eq_true rfl⟩ (Nat.le_of_ble_eq_true rfl) dX12_follows_39 (fun H locs hH => ?_)
    refine lv_aload_n hx hb dX12_follows_42 rfl (lv_at hl 0 rfl) ?_
    refine lv_iload_n hx hb dX12_follows_43 rfl (lv_at hl 2 rfl) ?_
    refine lv_iload_n hx hb dX12_follows_44 rfl (lv_at hl 3 rfl) ?_
    obtain ⟨D16, hc17, h⟩ := bV_some h
    refine h_callVv (As := [.int x2, .int x3]) (rest := []) O hH (c_X12_guessGoes hc17) ml_X12_533 ly_281 rfl rfl hl.1 rfl ⟨Nat.le_of_ble_eq_true rfl, Nat.le_of_ble_eq_true rfl⟩ (Nat.le_of_ble_eq_true rfl) dX12_follows_45 (fun H locs hH => ?_)
    refine lv_goto (tgt := 99) hx hb dX12_follows_48 (by decide) ?_
    exact w_X12_follows_99 O hr hlk _ _ _ _ _ h _ _ _ hH (lv_sub hl [0, 1, 2, 3, 4] rfl)
set_option maxHeartbeats 4000000 in
theorem c_X12_follows {l : Launch} {G : va_G} {tA : Nat → ClassId} {z : Nat} {E : Ex} {x1 : Int32} {x2 : Int32} {x3 : Int32} {x4 : Int32} {D D' : Dm} {r : Int32} (h : f_X12_follows x1 x2 x3 x4 D = some (r, D')) : CtI l yX12_follows cX12_follows 6 (some .boolean) G tA z E 27 0 0 [.ref (z + 281), .int x1, .int x2, .int x3, .int x4] LAY D r LAY D' :=
  ct_BI (by decide +kernel) (Nat.le_of_ble_eq_true rfl) (fun _ _ _ _ _ _ _ _ O hr hlk => w_X12_follows O hr hlk _ _ _ _ _ h)
set_option maxHeartbeats 4000000 in
theorem w_X12_seeks_236 {G : va_G} {tA : Nat → ClassId} {z : Nat} {E : Ex} {p : Program} {l : Launch} {e : Env} {s : State} {m : MethodId} {args : Array Value} {below : List Frame} {meth : Method} {c : Code} {r : Int32} {D' : Dm} (O : Ok G tA z E cX12_seeks RX12 7 p s m args c) (hr : meth.sig.returnType = some .int) (hlk : meth.locks = false) {k81 : Int32 → Int32 → Dm → Option (Int32 × Dm)} (hk81 : ∀ (x1 : Int32) (x3 : Int32) (D : Dm), k81 x1 x3 D = some (r, D') → BI G tA z E p l e (rmC 28 0 0) s m args below meth c LAY D r D' 7 81 [(0, .ref (z + 281)), (1, .int x1), (3, .int x3)] []) (x1 : Int32) (x3 : Int32) (D : Dm) (h : f_X12_seeks_236 k81 x1 x3 D = some (r, D')) : BI G tA z E p l e (rmC 28 0 0) s m args below meth c LAY D r D' 7 236 [(0, .ref (z + 281)), (1, .int x1), (3, .int x3)] [] := by
  obtain ⟨hx, hb, -, hown, hts, -⟩ := id O
  unfold f_X12_seeks_236 at h
  intro H locs ls hH hl
  obtain ⟨y1, e2, h⟩ := lt_some h
  refine lv_iinc (v := y1) (lv' := [(3, .int y1), (0, .ref (z + 281)), (1, .int x1)]) hx hb dX12_seeks_236 hl (k := 2) rfl (by rw [e2]; rfl) (by decide) rfl (fun ls hl => ?_)
  refine lv_goto (tgt := 81) hx hb dX12_seeks_239 (by decide) ?_
  exact hk81 _ _ _ h _ _ _ hH (lv_sub hl [1, 2, 0] rfl)
set_option maxHeartbeats 4000000 in
theorem w_X12_seeks_224 {G : va_G} {tA : Nat → ClassId} {z : Nat} {E : Ex} {p : Program} {l : Launch} {e : Env} {s : State} {m : MethodId} {args : Array Value} {below : List Frame} {meth : Method} {c : Code} {r : Int32} {D' : Dm} (O : Ok G tA z E cX12_seeks RX12 7 p s m args c) (hr : meth.sig.returnType = some .int) (hlk : meth.locks = false) {k81 : Int32 → Int32 → Dm → Option (Int32 × Dm)} (hk81 : ∀ (x1 : Int32) (x3 : Int32) (D : Dm), k81 x1 x3 D = some (r, D') → BI G tA z E p l e (rmC 28 0 0) s m args below meth c LAY D r D' 7 81 [(0, .ref (z + 281)), (1, .int x1), (3, .int x3)] []) {k106 : Int32 → Int32 → Int32 → Dm → Option (Int32 × Dm)} (hk106 : ∀ (x1 : Int32) (x3 : Int32) (x4 : Int32) (D : Dm), k106 x1 x3 x4 D = some (r, D') → BI G tA z E p l e (rmC 28 0 0) s m args below meth c LAY D r D' 7 106 [(0, .ref (z + 281)), (1, .int x1), (3, .int x3), (4, .int x4)] []) {k119 : Int32 → Int32 → Int32 → Int32 → Dm → Option (Int32 × Dm)} (hk119 : ∀ (x1 : Int32) (x3 : Int32) (x4 : Int32) (x5 : Int32) (D : Dm), k119 x1 x3 x4 x5 D = some (r, D') → BI G tA z E p l e (rmC 28 0 0) s m args below meth c LAY D r D' 7 119 [(0, .ref (z + 281)), (1, .int x1), (3, .int x3), (4, .int x4), (5, .int x5)] []) (x1 : Int32) (x3 : Int32) (x4 : Int32) (x5 : Int32) (D : Dm) (h : f_X12_seeks_224 k81 k106 k119 x1 x3 x4 x5 D = some (r, D')) : BI G tA z E p l e (rmC 28 0 0) s m args below meth c LAY D r D' 7 224 [(0, .ref (z + 281)), (1, .int x1), (3, .int x3), (4, .int x4), (5, .int x5)] [] := by
  obtain ⟨hx, hb, -, hown, hts, -⟩ := id O
  unfold f_X12_seeks_224 at h
  intro H locs ls hH hl
  obtain ⟨y1, e2, h⟩ := lt_some h
  refine lv_iinc (v := y1) (lv' := [(5, .int y1), (0, .ref (z + 281)), (1, .int x1), (3, .int x3), (4, .int x4)]) hx hb dX12_seeks_224 hl (k := 4) rfl (by rw [e2]; rfl) (by decide) rfl (fun ls hl => ?_)
  refine lv_goto (tgt := 119) hx hb dX12_seeks_227 (by decide) ?_
  exact hk119 _ _ _ _ _ h _ _ _ hH (lv_sub hl [1, 2, 3, 4, 0] rfl)
set_option maxHeartbeats 4000000 in
theorem w_X12_seeks_167 {G : va_G} {tA : Nat → ClassId} {z : Nat} {E : Ex} {p : Program} {l : Launch} {e : Env} {s : State} {m : MethodId} {args : Array Value} {below : List Frame} {meth : Method} {c : Code} {r : Int32} {D' : Dm} (O : Ok G tA z E cX12_seeks RX12 7 p s m args c) (hr : meth.sig.returnType = some .int) (hlk : meth.locks = false) {k81 : Int32 → Int32 → Dm → Option (Int32 × Dm)} (hk81 : ∀ (x1 : Int32) (x3 : Int32) (D : Dm), k81 x1 x3 D = some (r, D') → BI G tA z E p l e (rmC 28 0 0) s m args below meth c LAY D r D' 7 81 [(0, .ref (z + 281)), (1, .int x1), (3, .int x3)] []) {k106 : Int32 → Int32 → Int32 → Dm → Option (Int32 × Dm)} (hk106 : ∀ (x1 : Int32) (x3 : Int32) (x4 : Int32) (D : Dm), k106 x1 x3 x4 D = some (r, D') → BI G tA z E p l e (rmC 28 0 0) s m args below meth c LAY D r D' 7 106 [(0, .ref (z + 281)), (1, .int x1), (3, .int x3), (4, .int x4)] []) {k119 : Int32 → Int32 → Int32 → Int32 → Dm → Option (Int32 × Dm)} (hk119 : ∀ (x1 : Int32) (x3 : Int32) (x4 : Int32) (x5 : Int32) (D : Dm), k119 x1 x3 x4 x5 D = some (r, D') → BI G tA z E p l e (rmC 28 0 0) s m args below meth c LAY D r D' 7 119 [(0, .ref (z + 281)), (1, .int x1), (3, .int x3), (4, .int x4), (5, .int x5)] []) (x1 : Int32) (x3 : Int32) (x4 : Int32) (x5 : Int32) (xs0 : Int32) (D : Dm) (h : f_X12_seeks_167 k81 k106 k119 x1 x3 x4 x5 xs0 D = some (r, D')) : BI G tA z E p l e (rmC 28 0 0) s m args below meth c LAY D r D' 7 167 [(0, .ref (z + 281)), (1, .int x1), (3, .int x3), (4, .int x4), (5, .int x5)] [.int xs0] := by
  obtain ⟨hx, hb, -, hown, hts, -⟩ := id O
  unfold f_X12_seeks_167 at h
  intro H locs ls hH hl
  refine lv_istore (lv' := [(6, .int xs0), (0, .ref (z + 281)), (1, .int x1), (3, .int x3), (4, .int x4), (5, .int x5)]) hx hb dX12_seeks_167 hl (by decide) rfl (fun ls hl => ?_)
  refine lv_iload hx hb dX12_seeks_169 (lv_at hl 0 rfl) ?_
  refine lv_iconst (v := (-1)) hx hb dX12_seeks_171 (by decide) ?_
  refine lv_icmp_eq (tgt := 224) hx hb dX12_seeks_172 (by decide) (fun c1 => ?_) (fun c1 => ?_)
  · have h := it_pos h c1
    exact w_X12_seeks_224 O hr hlk hk81 hk106 hk119 _ _ _ _ _ h _ _ _ hH (lv_sub hl [1, 2, 3, 4, 5] rfl)
  · have h := it_neg h c1
    refine lv_aload_n hx hb dX12_seeks_175 rfl (lv_at hl 1 rfl) ?_
    refine lv_iload_n hx hb dX12_seeks_176 rfl (lv_at hl 3 rfl) ?_
    refine lv_iload hx hb dX12_seeks_177 (lv_at hl 5 rfl) ?_
    refine lv_iload hx hb dX12_seeks_179 (lv_at hl 0 rfl) ?_
    obtain ⟨y4, D2, hc3, h⟩ := bI_some h
    refine h_callVi (As := [.int x3, .int x5, .int xs0]) (rest := []) O hH (c_X12_isHad hc3) ml_X12_526 ly_281 rfl rfl hl.1 rfl ⟨Nat.le_of_ble_eq_true rfl, Nat.le_of_ble_eq_true rfl⟩ (Nat.le_of_ble_eq_true rfl) dX12_seeks_181 (fun H locs hH => ?_)
    refine lv_if_ne (tgt := 224) hx hb dX12_seeks_184 (by decide) (fun c5 => ?_) (fun c5 => ?_)
    · have h := it_neg h c5
      exact w_X12_seeks_224 O hr hlk hk81 hk106 hk119 _ _ _ _ _ h _ _ _ hH (lv_sub hl [1, 2, 3, 4, 5] rfl)
    · have h := it_pos h c5
      refine lv_aload_n hx hb dX12_seeks_187 rfl (lv_at hl 1 rfl) ?_
      refine lv_iload_n hx hb dX12_seeks_188 rfl (lv_at hl 3 rfl) ?_
      refine lv_iload hx hb dX12_seeks_189 (lv_at hl 4 rfl) ?_
      refine lv_iload hx hb dX12_seeks_191 (lv_at hl 0 rfl) ?_
      refine lv_iload_n hx hb dX12_seeks_193 rfl (lv_at hl 2 rfl) ?_
      obtain ⟨y8, D6, hc7, h⟩ := bI_some h
      refine h_callVi (As := [.int x3, .int x4, .int xs0, .int x1]) (rest := []) O hH (c_X12_follows hc7) ml_X12_529 ly_281 rfl rfl hl.1 rfl ⟨Nat.le_of_ble_eq_true rfl, Nat.le_of_ble_eq_true rfl⟩ (Nat.le_of_ble_eq_true rfl) dX12_seeks_194 (fun H locs hH => ?_)
      refine lv_if_ne (tgt := 203) hx hb dX12_seeks_197 (by decide) (fun c9 => ?_) (fun c9 => ?_)
      · have h := it_neg h c9
        refine lv_aload_n hx hb dX12_seeks_203 rfl (lv_at hl 1 rfl) ?_
        refine lv_aload_n hx hb dX12_seeks_204 rfl (lv_at hl 1 rfl) ?_
        refine h_geti O hH ly_281 rfl fl_X12_493 dX12_seeks_205 ?_
        refine lv_iconst (v := 1) hx hb dX12_seeks_208 (by decide) ?_
        refine lv_isub hx hb dX12_seeks_209 ?_
        refine lv_iload_n hx hb dX12_seeks_210 rfl (lv_at hl 2 rfl) ?_
        obtain ⟨y12, D10, hc11, h⟩ := bI_some h
        refine h_callVi (As := [.int ((D6 281 77) - 1), .int x1]) (rest := []) O hH (c_X12_isUnlike hc11) ml_X12_518 ly_281 rfl rfl hl.1 rfl ⟨Nat.le_of_ble_eq_true rfl, Nat.le_of_ble_eq_true rfl⟩ (Nat.le_of_ble_eq_true rfl) dX12_seeks_211 (fun H locs hH => ?_)
        refine lv_if_eq (tgt := 224) hx hb dX12_seeks_214 (by decide) (fun c13 => ?_) (fun c13 => ?_)
        · have h := it_pos h c13
          exact w_X12_seeks_224 O hr hlk hk81 hk106 hk119 _ _ _ _ _ h _ _ _ hH (lv_sub hl [1, 2, 3, 4, 5] rfl)
        · have h := it_neg h c13
          refine lv_aload_n hx hb dX12_seeks_217 rfl (lv_at hl 1 rfl) ?_
          refine h_geti O hH ly_281 rfl fl_X12_493 dX12_seeks_218 ?_
          refine lv_iconst (v := 1) hx hb dX12_seeks_221 (by decide) ?_
          refine lv_isub hx hb dX12_seeks_222 ?_
          obtain ⟨rfl, rfl⟩ := ret_i h
          exact h_iret O hr hlk hH dX12_seeks_223
      · have h := it_pos h c9
        refine lv_goto (tgt := 224) hx hb dX12_seeks_200 (by decide) ?_
        exact w_X12_seeks_224 O hr hlk hk81 hk106 hk119 _ _ _ _ _ h _ _ _ hH (lv_sub hl [1, 2, 3, 4, 5] rfl)
set_option maxHeartbeats 4000000 in
theorem w_X12_seeks_156 {G : va_G} {tA : Nat → ClassId} {z : Nat} {E : Ex} {p : Program} {l : Launch} {e : Env} {s : State} {m : MethodId} {args : Array Value} {below : List Frame} {meth : Method} {c : Code} {r : Int32} {D' : Dm} (O : Ok G tA z E cX12_seeks RX12 7 p s m args c) (hr : meth.sig.returnType = some .int) (hlk : meth.locks = false) {k81 : Int32 → Int32 → Dm → Option (Int32 × Dm)} (hk81 : ∀ (x1 : Int32) (x3 : Int32) (D : Dm), k81 x1 x3 D = some (r, D') → BI G tA z E p l e (rmC 28 0 0) s m args below meth c LAY D r D' 7 81 [(0, .ref (z + 281)), (1, .int x1), (3, .int x3)] []) {k106 : Int32 → Int32 → Int32 → Dm → Option (Int32 × Dm)} (hk106 : ∀ (x1 : Int32) (x3 : Int32) (x4 : Int32) (D : Dm), k106 x1 x3 x4 D = some (r, D') → BI G tA z E p l e (rmC 28 0 0) s m args below meth c LAY D r D' 7 106 [(0, .ref (z + 281)), (1, .int x1), (3, .int x3), (4, .int x4)] []) {k119 : Int32 → Int32 → Int32 → Int32 → Dm → Option (Int32 × Dm)} (hk119 : ∀ (x1 : Int32) (x3 : Int32) (x4 : Int32) (x5 : Int32) (D : Dm), k119 x1 x3 x4 x5 D = some (r, D') → BI G tA z E p l e (rmC 28 0 0) s m args below meth c LAY D r D' 7 119 [(0, .ref (z + 281)), (1, .int x1), (3, .int x3), (4, .int x4), (5, .int x5)] []) (x1 : Int32) (x3 : Int32) (x4 : Int32) (x5 : Int32) (xs0 : Int32) (xs1 : Int32) (D : Dm) (h : f_X12_seeks_156 k81 k106 k119 x1 x3 x4 x5 xs0 xs1 D = some (r, D')) : BI G tA z E p l e (rmC 28 0 0) s m args below meth c LAY D r D' 7 156 [(0, .ref (z + 281)), (1, .int x1), (3, .int x3), (4, .int x4), (5, .int x5)] [.int xs0, .int xs1, .ref (z + 315)] := by
  obtain ⟨hx, hb, -, hown, hts, -⟩ := id O
  unfold f_X12_seeks_156 at h
  intro H locs ls hH hl
  refine lv_iadd hx hb dX12_seeks_156 ?_
  obtain ⟨g1, h⟩ := gd_some h
  refine h_iald O hH ly_315 g1 dX12_seeks_157 ?_
  refine lv_goto (tgt := 167) hx hb dX12_seeks_158 (by decide) ?_
  exact w_X12_seeks_167 O hr hlk hk81 hk106 hk119 _ _ _ _ _ _ h _ _ _ hH (lv_sub hl [0, 1, 2, 3, 4] rfl)
set_option maxHeartbeats 4000000 in
theorem w_X12_seeks_119_b {G : va_G} {tA : Nat → ClassId} {z : Nat} {E : Ex} {p : Program} {l : Launch} {e : Env} {s : State} {m : MethodId} {args : Array Value} {below : List Frame} {meth : Method} {c : Code} {r : Int32} {D' : Dm} (O : Ok G tA z E cX12_seeks RX12 7 p s m args c) (hr : meth.sig.returnType = some .int) (hlk : meth.locks = false) {k81 : Int32 → Int32 → Dm → Option (Int32 × Dm)} (hk81 : ∀ (x1 : Int32) (x3 : Int32) (D : Dm), k81 x1 x3 D = some (r, D') → BI G tA z E p l e (rmC 28 0 0) s m args below meth c LAY D r D' 7 81 [(0, .ref (z + 281)), (1, .int x1), (3, .int x3)] []) {k106 : Int32 → Int32 → Int32 → Dm → Option (Int32 × Dm)} (hk106 : ∀ (x1 : Int32) (x3 : Int32) (x4 : Int32) (D : Dm), k106 x1 x3 x4 D = some (r, D') → BI G tA z E p l e (rmC 28 0 0) s m args below meth c LAY D r D' 7 106 [(0, .ref (z + 281)), (1, .int x1), (3, .int x3), (4, .int x4)] []) {k119 : Int32 → Int32 → Int32 → Int32 → Dm → Option (Int32 × Dm)} (hk119 : ∀ (x1 : Int32) (x3 : Int32) (x4 : Int32) (x5 : Int32) (D : Dm), k119 x1 x3 x4 x5 D = some (r, D') → BI G tA z E p l e (rmC 28 0 0) s m args below meth c LAY D r D' 7 119 [(0, .ref (z + 281)), (1, .int x1), (3, .int x3), (4, .int x4), (5, .int x5)] []) (x1 : Int32) (x3 : Int32) (x4 : Int32) (x5 : Int32) (D : Dm) (h : f_X12_seeks_119_b k81 k106 k119 x1 x3 x4 x5 D = some (r, D')) : BI G tA z E p l e (rmC 28 0 0) s m args below meth c LAY D r D' 7 119 [(0, .ref (z + 281)), (1, .int x1), (3, .int x3), (4, .int x4), (5, .int x5)] [] := by
  obtain ⟨hx, hb, -, hown, hts, -⟩ := id O
  unfold f_X12_seeks_119_b at h
  intro H locs ls hH hl
  refine lv_iload hx hb dX12_seeks_119 (lv_at hl 4 rfl) ?_
  refine lv_iconst (v := 5) hx hb dX12_seeks_121 (by decide) ?_
  refine lv_icmp_ge (tgt := 230) hx hb dX12_seeks_122 (by decide) (fun c1 => ?_) (fun c1 => ?_)
  · have h := it_pos h c1
    obtain ⟨y2, e3, h⟩ := lt_some h
    refine lv_iinc (v := y2) (lv' := [(4, .int y2), (0, .ref (z + 281)), (1, .int x1), (3, .int x3), (5, .int x5)]) hx hb dX12_seeks_230 hl (k := 3) rfl (by rw [e3]; rfl) (by decide) rfl (fun ls hl => ?_)
    refine lv_goto (tgt := 106) hx hb dX12_seeks_233 (by decide) ?_
    exact hk106 _ _ _ _ h _ _ _ hH (lv_sub hl [1, 2, 3, 0] rfl)
  · have h := it_neg h c1
    refine lv_iload hx hb dX12_seeks_125 (lv_at hl 4 rfl) ?_
    refine lv_iconst (v := 4) hx hb dX12_seeks_127 (by decide) ?_
    refine lv_icmp_ge (tgt := 161) hx hb dX12_seeks_128 (by decide) (fun c4 => ?_) (fun c4 => ?_)
    · have h := it_pos h c4
      refine lv_aload_n hx hb dX12_seeks_161 rfl (lv_at hl 0 rfl) ?_
      refine h_getr O hH ly_281 rfl fl_X12_114 dX12_seeks_162 ?_
      refine lv_iload_n hx hb dX12_seeks_165 rfl (lv_at hl 2 rfl) ?_
      obtain ⟨g5, h⟩ := gd_some h
      refine h_iald O hH ly_314 g5 dX12_seeks_166 ?_
      exact w_X12_seeks_167 O hr hlk hk81 hk106 hk119 _ _ _ _ _ _ h _ _ _ hH (lv_sub hl [0, 1, 2, 3, 4] rfl)
    · have h := it_neg h c4
      refine lv_aload_n hx hb dX12_seeks_131 rfl (lv_at hl 0 rfl) ?_
      refine h_getr O hH ly_281 rfl fl_X12_117 dX12_seeks_132 ?_
      refine lv_bipush (v := 6) hx hb dX12_seeks_135 (by decide) ?_
      refine lv_iload_n hx hb dX12_seeks_137 rfl (lv_at hl 2 rfl) ?_
      refine lv_imul hx hb dX12_seeks_138 ?_
      refine lv_iload hx hb dX12_seeks_139 (lv_at hl 4 rfl) ?_
      refine lv_iconst (v := 2) hx hb dX12_seeks_141 (by decide) ?_
      refine lv_icmp_ge (tgt := 152) hx hb dX12_seeks_142 (by decide) (fun c6 => ?_) (fun c6 => ?_)
      · have h := it_pos h c6
        refine lv_iconst (v := 2) hx hb dX12_seeks_152 (by decide) ?_
        refine lv_iload hx hb dX12_seeks_153 (lv_at hl 4 rfl) ?_
        refine lv_iadd hx hb dX12_seeks_155 ?_
        exact w_X12_seeks_156 O hr hlk hk81 hk106 hk119 _ _ _ _ _ _ _ h _ _ _ hH (lv_sub hl [0, 1, 2, 3, 4] rfl)
      · have h := it_neg h c6
        refine lv_iconst (v := 1) hx hb dX12_seeks_145 (by decide) ?_
        refine lv_iload hx hb dX12_seeks_146 (lv_at hl 4 rfl) ?_
        refine lv_iadd hx hb dX12_seeks_148 ?_
        refine lv_goto (tgt := 156) hx hb dX12_seeks_149 (by decide) ?_
        exact w_X12_seeks_156 O hr hlk hk81 hk106 hk119 _ _ _ _ _ _ _ h _ _ _ hH (lv_sub hl [0, 1, 2, 3, 4] rfl)
set_option maxHeartbeats 4000000 in
theorem w_X12_seeks_119 {G : va_G} {tA : Nat → ClassId} {z : Nat} {E : Ex} {p : Program} {l : Launch} {e : Env} {s : State} {m : MethodId} {args : Array Value} {below : List Frame} {meth : Method} {c : Code} {r : Int32} {D' : Dm} (O : Ok G tA z E cX12_seeks RX12 7 p s m args c) (hr : meth.sig.returnType = some .int) (hlk : meth.locks = false) {k81 : Int32 → Int32 → Dm → Option (Int32 × Dm)} (hk81 : ∀ (x1 : Int32) (x3 : Int32) (D : Dm), k81 x1 x3 D = some (r, D') → BI G tA z E p l e (rmC 28 0 0) s m args below meth c LAY D r D' 7 81 [(0, .ref (z + 281)), (1, .int x1), (3, .int x3)] []) {k106 : Int32 → Int32 → Int32 → Dm → Option (Int32 × Dm)} (hk106 : ∀ (x1 : Int32) (x3 : Int32) (x4 : Int32) (D : Dm), k106 x1 x3 x4 D = some (r, D') → BI G tA z E p l e (rmC 28 0 0) s m args below meth c LAY D r D' 7 106 [(0, .ref (z + 281)), (1, .int x1), (3, .int x3), (4, .int x4)] []) : ∀ (n : Nat) (x1 : Int32) (x3 : Int32) (x4 : Int32) (x5 : Int32) (D : Dm) (h : f_X12_seeks_119 k81 k106 n x1 x3 x4 x5 D = some (r, D')), BI G tA z E p l e (rmC 28 0 0) s m args below meth c LAY D r D' 7 119 [(0, .ref (z + 281)), (1, .int x1), (3, .int x3), (4, .int x4), (5, .int x5)] [] := by
  intro n
  induction n with
  | zero => intro x1 x3 x4 x5 D h; exact no_some h
  | succ n ih => intro x1 x3 x4 x5 D h; exact w_X12_seeks_119_b O hr hlk hk81 hk106 (fun x1 x3 x4 x5 D h => ih x1 x3 x4 x5 D h) x1 x3 x4 x5 D h
set_option maxHeartbeats 4000000 in
theorem w_X12_seeks_106_b {G : va_G} {tA : Nat → ClassId} {z : Nat} {E : Ex} {p : Program} {l : Launch} {e : Env} {s : State} {m : MethodId} {args : Array Value} {below : List Frame} {meth : Method} {c : Code} {r : Int32} {D' : Dm} (O : Ok G tA z E cX12_seeks RX12 7 p s m args c) (hr : meth.sig.returnType = some .int) (hlk : meth.locks = false) {k81 : Int32 → Int32 → Dm → Option (Int32 × Dm)} (hk81 : ∀ (x1 : Int32) (x3 : Int32) (D : Dm), k81 x1 x3 D = some (r, D') → BI G tA z E p l e (rmC 28 0 0) s m args below meth c LAY D r D' 7 81 [(0, .ref (z + 281)), (1, .int x1), (3, .int x3)] []) {k106 : Int32 → Int32 → Int32 → Dm → Option (Int32 × Dm)} (hk106 : ∀ (x1 : Int32) (x3 : Int32) (x4 : Int32) (D : Dm), k106 x1 x3 x4 D = some (r, D') → BI G tA z E p l e (rmC 28 0 0) s m args below meth c LAY D r D' 7 106 [(0, .ref (z + 281)), (1, .int x1), (3, .int x3), (4, .int x4)] []) (x1 : Int32) (x3 : Int32) (x4 : Int32) (D : Dm) (h : f_X12_seeks_106_b k81 k106 x1 x3 x4 D = some (r, D')) : BI G tA z E p l e (rmC 28 0 0) s m args below meth c LAY D r D' 7 106 [(0, .ref (z + 281)), (1, .int x1), (3, .int x3), (4, .int x4)] [] := by
  obtain ⟨hx, hb, -, hown, hts, -⟩ := id O
  unfold f_X12_seeks_106_b at h
  intro H locs ls hH hl
  refine lv_iload hx hb dX12_seeks_106 (lv_at hl 3 rfl) ?_
  refine lv_aload_n hx hb dX12_seeks_108 rfl (lv_at hl 0 rfl) ?_
  refine lv_iload_n hx hb dX12_seeks_109 rfl (lv_at hl 1 rfl) ?_
  obtain ⟨y3, D1, hc2, h⟩ := bI_some h
  refine h_callVi (As := [.int x1]) (rest := [.int x4]) O hH (c_X12_symbolsOf hc2) ml_X12_522 ly_281 rfl rfl hl.1 rfl ⟨Nat.le_of_ble_eq_true rfl, Nat.le_of_ble_eq_true rfl⟩ (Nat.le_of_ble_eq_true rfl) dX12_seeks_110 (fun H locs hH => ?_)
  refine lv_icmp_ge (tgt := 236) hx hb dX12_seeks_113 (by decide) (fun c4 => ?_) (fun c4 => ?_)
  · have h := it_pos h c4
    exact w_X12_seeks_236 O hr hlk hk81 _ _ _ h _ _ _ hH (lv_sub hl [0, 1, 2] rfl)
  · have h := it_neg h c4
    refine lv_iconst (v := 0) hx hb dX12_seeks_116 (by decide) ?_
    refine lv_istore (lv' := [(5, .int 0), (0, .ref (z + 281)), (1, .int x1), (3, .int x3), (4, .int x4)]) hx hb dX12_seeks_117 hl (by decide) rfl (fun ls hl => ?_)
    exact w_X12_seeks_119 O hr hlk hk81 hk106 FU _ _ _ _ _ h _ _ _ hH (lv_sub hl [1, 2, 3, 4, 0] rfl)
set_option maxHeartbeats 4000000 in
theorem w_X12_seeks_106 {G : va_G} {tA : Nat → ClassId} {z : Nat} {E : Ex} {p : Program} {l : Launch} {e : Env} {s : State} {m : MethodId} {args : Array Value} {below : List Frame} {meth : Method} {c : Code} {r : Int32} {D' : Dm} (O : Ok G tA z E cX12_seeks RX12 7 p s m args c) (hr : meth.sig.returnType = some .int) (hlk : meth.locks = false) {k81 : Int32 → Int32 → Dm → Option (Int32 × Dm)} (hk81 : ∀ (x1 : Int32) (x3 : Int32) (D : Dm), k81 x1 x3 D = some (r, D') → BI G tA z E p l e (rmC 28 0 0) s m args below meth c LAY D r D' 7 81 [(0, .ref (z + 281)), (1, .int x1), (3, .int x3)] []) : ∀ (n : Nat) (x1 : Int32) (x3 : Int32) (x4 : Int32) (D : Dm) (h : f_X12_seeks_106 k81 n x1 x3 x4 D = some (r, D')), BI G tA z E p l e (rmC 28 0 0) s m args below meth c LAY D r D' 7 106 [(0, .ref (z + 281)), (1, .int x1), (3, .int x3), (4, .int x4)] [] := by
  intro n
  induction n with
  | zero => intro x1 x3 x4 D h; exact no_some h
  | succ n ih => intro x1 x3 x4 D h; exact w_X12_seeks_106_b O hr hlk hk81 (fun x1 x3 x4 D h => ih x1 x3 x4 D h) x1 x3 x4 D h
set_option maxHeartbeats 4000000 in
theorem w_X12_seeks_81_b {G : va_G} {tA : Nat → ClassId} {z : Nat} {E : Ex} {p : Program} {l : Launch} {e : Env} {s : State} {m : MethodId} {args : Array Value} {below : List Frame} {meth : Method} {c : Code} {r : Int32} {D' : Dm} (O : Ok G tA z E cX12_seeks RX12 7 p s m args c) (hr : meth.sig.returnType = some .int) (hlk : meth.locks = false) {k81 : Int32 → Int32 → Dm → Option (Int32 × Dm)} (hk81 : ∀ (x1 : Int32) (x3 : Int32) (D : Dm), k81 x1 x3 D = some (r, D') → BI G tA z E p l e (rmC 28 0 0) s m args below meth c LAY D r D' 7 81 [(0, .ref (z + 281)), (1, .int x1), (3, .int x3)] []) (x1 : Int32) (x3 : Int32) (D : Dm) (h : f_X12_seeks_81_b k81 x1 x3 D = some (r, D')) : BI G tA z E p l e (rmC 28 0 0) s m args below meth c LAY D r D' 7 81 [(0, .ref (z + 281)), (1, .int x1), (3, .int x3)] [] := by
  obtain ⟨hx, hb, -, hown, hts, -⟩ := id O
  unfold f_X12_seeks_81_b at h
  intro H locs ls hH hl
  refine lv_iload_n hx hb dX12_seeks_81 rfl (lv_at hl 2 rfl) ?_
  refine lv_aload_n hx hb dX12_seeks_82 rfl (lv_at hl 0 rfl) ?_
  refine h_geti O hH ly_281 rfl fl_X12_493 dX12_seeks_83 ?_
  refine lv_icmp_ge (tgt := 242) hx hb dX12_seeks_86 (by decide) (fun c1 => ?_) (fun c1 => ?_)
  · have h := it_pos h c1
    refine lv_iconst (v := (-1)) hx hb dX12_seeks_242 (by decide) ?_
    obtain ⟨rfl, rfl⟩ := ret_i h
    exact h_iret O hr hlk hH dX12_seeks_243
  · have h := it_neg h c1
    refine lv_aload_n hx hb dX12_seeks_89 rfl (lv_at hl 0 rfl) ?_
    refine h_getr O hH ly_281 rfl fl_X12_111 dX12_seeks_90 ?_
    refine lv_iload_n hx hb dX12_seeks_93 rfl (lv_at hl 2 rfl) ?_
    obtain ⟨g2, h⟩ := gd_some h
    refine h_iald O hH ly_313 g2 dX12_seeks_94 ?_
    refine lv_bipush (v := 20) hx hb dX12_seeks_95 (by decide) ?_
    refine lv_icmp_ne (tgt := 103) hx hb dX12_seeks_97 (by decide) (fun c3 => ?_) (fun c3 => ?_)
    · have h := it_neg h c3
      refine lv_iconst (v := 0) hx hb dX12_seeks_103 (by decide) ?_
      refine lv_istore (lv' := [(4, .int 0), (0, .ref (z + 281)), (1, .int x1), (3, .int x3)]) hx hb dX12_seeks_104 hl (by decide) rfl (fun ls hl => ?_)
      exact w_X12_seeks_106 O hr hlk hk81 FU _ _ _ _ h _ _ _ hH (lv_sub hl [1, 2, 3, 0] rfl)
    · have h := it_pos h c3
      refine lv_goto (tgt := 236) hx hb dX12_seeks_100 (by decide) ?_
      exact w_X12_seeks_236 O hr hlk hk81 _ _ _ h _ _ _ hH (lv_sub hl [0, 1, 2] rfl)
set_option maxHeartbeats 4000000 in
theorem w_X12_seeks_81 {G : va_G} {tA : Nat → ClassId} {z : Nat} {E : Ex} {p : Program} {l : Launch} {e : Env} {s : State} {m : MethodId} {args : Array Value} {below : List Frame} {meth : Method} {c : Code} {r : Int32} {D' : Dm} (O : Ok G tA z E cX12_seeks RX12 7 p s m args c) (hr : meth.sig.returnType = some .int) (hlk : meth.locks = false) : ∀ (n : Nat) (x1 : Int32) (x3 : Int32) (D : Dm) (h : f_X12_seeks_81 n x1 x3 D = some (r, D')), BI G tA z E p l e (rmC 28 0 0) s m args below meth c LAY D r D' 7 81 [(0, .ref (z + 281)), (1, .int x1), (3, .int x3)] [] := by
  intro n
  induction n with
  | zero => intro x1 x3 D h; exact no_some h
  | succ n ih => intro x1 x3 D h; exact w_X12_seeks_81_b O hr hlk (fun x1 x3 D h => ih x1 x3 D h) x1 x3 D h
set_option maxHeartbeats 4000000 in
theorem w_X12_seeks_2_b {G : va_G} {tA : Nat → ClassId} {z : Nat} {E : Ex} {p : Program} {l : Launch} {e : Env} {s : State} {m : MethodId} {args : Array Value} {below : List Frame} {meth : Method} {c : Code} {r : Int32} {D' : Dm} (O : Ok G tA z E cX12_seeks RX12 7 p s m args c) (hr : meth.sig.returnType = some .int) (hlk : meth.locks = false) {k2 : Int32 → Int32 → Dm → Option (Int32 × Dm)} (hk2 : ∀ (x1 : Int32) (x2 : Int32) (D : Dm), k2 x1 x2 D = some (r, D') → BI G tA z E p l e (rmC 28 0 0) s m args below meth c LAY D r D' 7 2 [(0, .ref (z + 281)), (1, .int x1), (2, .int x2)] []) (x1 : Int32) (x2 : Int32) (D : Dm) (h : f_X12_seeks_2_b k2 x1 x2 D = some (r, D')) : BI G tA z E p l e (rmC 28 0 0) s m args below meth c LAY D r D' 7 2 [(0, .ref (z + 281)), (1, .int x1), (2, .int x2)] [] := by
  obtain ⟨hx, hb, -, hown, hts, -⟩ := id O
  unfold f_X12_seeks_2_b at h
  intro H locs ls hH hl
  refine lv_iload_n hx hb dX12_seeks_2 rfl (lv_at hl 2 rfl) ?_
  refine lv_ldc (v := 41250) hx hb hown (hts _ ww_1116) dX12_seeks_3 ?_
  refine lv_icmp_ge (tgt := 21) hx hb dX12_seeks_5 (by decide) (fun c1 => ?_) (fun c1 => ?_)
  · have h := it_pos h c1
    refine lv_aload_n hx hb dX12_seeks_21 rfl (lv_at hl 0 rfl) ?_
    refine lv_iconst (v := 0) hx hb dX12_seeks_22 (by decide) ?_
    obtain ⟨D2, e3, h⟩ := lt_some h
    refine h_puti O hH ly_281 rfl fl_X12_493 e3 dX12_seeks_23 (fun H locs hH => ?_)
    refine lv_aload_n hx hb dX12_seeks_26 rfl (lv_at hl 0 rfl) ?_
    obtain ⟨D4, hc5, h⟩ := bV_some h
    refine h_callVv (As := []) (rest := []) O hH (c_X12_starts hc5) ml_X12_276 ly_281 rfl rfl hl.1 rfl ⟨Nat.le_of_ble_eq_true rfl, Nat.le_of_ble_eq_true rfl⟩ (Nat.le_of_ble_eq_true rfl) dX12_seeks_27 (fun H locs hH => ?_)
    refine lv_aload_n hx hb dX12_seeks_30 rfl (lv_at hl 0 rfl) ?_
    obtain ⟨D6, hc7, h⟩ := bV_some h
    refine h_callVv (As := []) (rest := []) O hH (c_X12_keepsPair hc7) ml_X12_511 ly_281 rfl rfl hl.1 rfl ⟨Nat.le_of_ble_eq_true rfl, Nat.le_of_ble_eq_true rfl⟩ (Nat.le_of_ble_eq_true rfl) dX12_seeks_31 (fun H locs hH => ?_)
    refine lv_aload_n hx hb dX12_seeks_34 rfl (lv_at hl 0 rfl) ?_
    refine lv_iconst (v := 0) hx hb dX12_seeks_35 (by decide) ?_
    refine lv_iconst (v := (-1)) hx hb dX12_seeks_36 (by decide) ?_
    refine lv_iconst (v := (-1)) hx hb dX12_seeks_37 (by decide) ?_
    obtain ⟨D8, hc9, h⟩ := bV_some h
    refine h_callVv (As := [.int 0, .int (-1), .int (-1)]) (rest := []) O hH (c_X12_guesses hc9) ml_X12_486 ly_281 rfl rfl hl.1 rfl ⟨Nat.le_of_ble_eq_true rfl, Nat.le_of_ble_eq_true rfl⟩ (Nat.le_of_ble_eq_true rfl) dX12_seeks_38 (fun H locs hH => ?_)
    refine lv_aload_n hx hb dX12_seeks_41 rfl (lv_at hl 0 rfl) ?_
    refine lv_iload_n hx hb dX12_seeks_42 rfl (lv_at hl 1 rfl) ?_
    obtain ⟨y12, D10, hc11, h⟩ := bI_some h
    refine h_callVi (As := [.int x1]) (rest := []) O hH (c_X12_comes hc11) ml_X12_514 ly_281 rfl rfl hl.1 rfl ⟨Nat.le_of_ble_eq_true rfl, Nat.le_of_ble_eq_true rfl⟩ (Nat.le_of_ble_eq_true rfl) dX12_seeks_43 (fun H locs hH => ?_)
    refine lv_istore_n (lv' := [(2, .int y12), (0, .ref (z + 281)), (1, .int x1)]) hx hb dX12_seeks_46 rfl hl (by decide) rfl (fun ls hl => ?_)
    refine lv_aload_n hx hb dX12_seeks_47 rfl (lv_at hl 1 rfl) ?_
    refine h_getr O hH ly_281 rfl fl_X12_102 dX12_seeks_48 ?_
    refine lv_iconst (v := 0) hx hb dX12_seeks_51 (by decide) ?_
    refine lv_iconst (v := (-1)) hx hb dX12_seeks_52 (by decide) ?_
    obtain ⟨D14, e15, h⟩ := lt_some h
    refine h_iastk (k := 0) O hH ly_310 (by decide) (by decide) (by decide) e15 dX12_seeks_53 (fun H locs hH => ?_)
    refine lv_aload_n hx hb dX12_seeks_54 rfl (lv_at hl 1 rfl) ?_
    refine h_getr O hH ly_281 rfl fl_X12_111 dX12_seeks_55 ?_
    refine lv_iconst (v := 0) hx hb dX12_seeks_58 (by decide) ?_
    refine lv_iconst (v := 0) hx hb dX12_seeks_59 (by decide) ?_
    obtain ⟨D17, e18, h⟩ := lt_some h
    refine h_iastk (k := 0) O hH ly_313 (by decide) (by decide) (by decide) e18 dX12_seeks_60 (fun H locs hH => ?_)
    refine lv_aload_n hx hb dX12_seeks_61 rfl (lv_at hl 1 rfl) ?_
    refine h_getr O hH ly_281 rfl fl_X12_114 dX12_seeks_62 ?_
    refine lv_iconst (v := 0) hx hb dX12_seeks_65 (by decide) ?_
    refine lv_iconst (v := 0) hx hb dX12_seeks_66 (by decide) ?_
    obtain ⟨D20, e21, h⟩ := lt_some h
    refine h_iastk (k := 0) O hH ly_314 (by decide) (by decide) (by decide) e21 dX12_seeks_67 (fun H locs hH => ?_)
    refine lv_aload_n hx hb dX12_seeks_68 rfl (lv_at hl 1 rfl) ?_
    refine lv_iconst (v := 0) hx hb dX12_seeks_69 (by decide) ?_
    refine lv_iload_n hx hb dX12_seeks_70 rfl (lv_at hl 2 rfl) ?_
    obtain ⟨y24, D22, hc23, h⟩ := bI_some h
    refine h_callVi (As := [.int 0, .int x1]) (rest := []) O hH (c_X12_isUnlike hc23) ml_X12_518 ly_281 rfl rfl hl.1 rfl ⟨Nat.le_of_ble_eq_true rfl, Nat.le_of_ble_eq_true rfl⟩ (Nat.le_of_ble_eq_true rfl) dX12_seeks_71 (fun H locs hH => ?_)
    refine lv_if_eq (tgt := 79) hx hb dX12_seeks_74 (by decide) (fun c25 => ?_) (fun c25 => ?_)
    · have h := it_pos h c25
      refine lv_iconst (v := 0) hx hb dX12_seeks_79 (by decide) ?_
      refine lv_istore_n (lv' := [(3, .int 0), (2, .int y12), (0, .ref (z + 281)), (1, .int x1)]) hx hb dX12_seeks_80 rfl hl (by decide) rfl (fun ls hl => ?_)
      exact w_X12_seeks_81 O hr hlk FU _ _ _ h _ _ _ hH (lv_sub hl [2, 3, 0] rfl)
    · have h := it_neg h c25
      refine lv_iconst (v := 0) hx hb dX12_seeks_77 (by decide) ?_
      obtain ⟨rfl, rfl⟩ := ret_i h
      exact h_iret O hr hlk hH dX12_seeks_78
  · have h := it_neg h c1
    refine lv_aload_n hx hb dX12_seeks_8 rfl (lv_at hl 0 rfl) ?_
    refine h_getr O hH ly_281 rfl fl_X12_124 dX12_seeks_9 ?_
    refine lv_iload_n hx hb dX12_seeks_12 rfl (lv_at hl 2 rfl) ?_
    refine lv_iconst (v := 0) hx hb dX12_seeks_13 (by decide) ?_
    obtain ⟨g26, h⟩ := gd_some h
    obtain ⟨D27, e28, h⟩ := lt_some h
    refine h_zast O hH ly_317 g26 zb_0 e28 dX12_seeks_14 (fun H locs hH => ?_)
    obtain ⟨y29, e30, h⟩ := lt_some h
    refine lv_iinc (v := y29) (lv' := [(2, .int y29), (0, .ref (z + 281)), (1, .int x1)]) hx hb dX12_seeks_15 hl (k := 2) rfl (by rw [e30]; rfl) (by decide) rfl (fun ls hl => ?_)
    refine lv_goto (tgt := 2) hx hb dX12_seeks_18 (by decide) ?_
    exact hk2 _ _ _ h _ _ _ hH (lv_sub hl [1, 2, 0] rfl)
set_option maxHeartbeats 4000000 in
theorem w_X12_seeks_2 {G : va_G} {tA : Nat → ClassId} {z : Nat} {E : Ex} {p : Program} {l : Launch} {e : Env} {s : State} {m : MethodId} {args : Array Value} {below : List Frame} {meth : Method} {c : Code} {r : Int32} {D' : Dm} (O : Ok G tA z E cX12_seeks RX12 7 p s m args c) (hr : meth.sig.returnType = some .int) (hlk : meth.locks = false) : ∀ (n : Nat) (x1 : Int32) (x2 : Int32) (D : Dm) (h : f_X12_seeks_2 n x1 x2 D = some (r, D')), BI G tA z E p l e (rmC 28 0 0) s m args below meth c LAY D r D' 7 2 [(0, .ref (z + 281)), (1, .int x1), (2, .int x2)] [] := by
  intro n
  induction n with
  | zero => intro x1 x2 D h; exact no_some h
  | succ n ih => intro x1 x2 D h; exact w_X12_seeks_2_b O hr hlk (fun x1 x2 D h => ih x1 x2 D h) x1 x2 D h
set_option maxHeartbeats 4000000 in
theorem w_X12_seeks {G : va_G} {tA : Nat → ClassId} {z : Nat} {E : Ex} {p : Program} {l : Launch} {e : Env} {s : State} {m : MethodId} {args : Array Value} {below : List Frame} {meth : Method} {c : Code} {r : Int32} {D' : Dm} (O : Ok G tA z E cX12_seeks RX12 7 p s m args c) (hr : meth.sig.returnType = some .int) (hlk : meth.locks = false) (x1 : Int32) (D : Dm) (h : f_X12_seeks x1 D = some (r, D')) : BI G tA z E p l e (rmC 28 0 0) s m args below meth c LAY D r D' 7 0 [(0, .ref (z + 281)), (1, .int x1)] [] := by
  obtain ⟨hx, hb, -, hown, hts, -⟩ := id O
  unfold f_X12_seeks at h
  intro H locs ls hH hl
  refine lv_iconst (v := 0) hx hb dX12_seeks_0 (by decide) ?_
  refine lv_istore_n (lv' := [(2, .int 0), (0, .ref (z + 281)), (1, .int x1)]) hx hb dX12_seeks_1 rfl hl (by decide) rfl (fun ls hl => ?_)
  exact w_X12_seeks_2 O hr hlk FU _ _ _ h _ _ _ hH (lv_sub hl [1, 2, 0] rfl)
set_option maxHeartbeats 4000000 in
theorem c_X12_seeks {l : Launch} {G : va_G} {tA : Nat → ClassId} {z : Nat} {E : Ex} {x1 : Int32} {D D' : Dm} {r : Int32} (h : f_X12_seeks x1 D = some (r, D')) : CtI l yX12_seeks cX12_seeks 7 (some .int) G tA z E 28 0 0 [.ref (z + 281), .int x1] LAY D r LAY D' :=
  ct_BI (by decide +kernel) (Nat.le_of_ble_eq_true rfl) (fun _ _ _ _ _ _ _ _ O hr hlk => w_X12_seeks O hr hlk _ _ h)
set_option maxHeartbeats 4000000 in
theorem w_X12_findsWrong_36_b {G : va_G} {tA : Nat → ClassId} {z : Nat} {E : Ex} {p : Program} {l : Launch} {e : Env} {s : State} {m : MethodId} {args : Array Value} {below : List Frame} {meth : Method} {c : Code} {D' : Dm} (O : Ok G tA z E cX12_findsWrong RX12 3 p s m args c) (hr : meth.sig.returnType = none) (hlk : meth.locks = false) {k36 : Int32 → Int32 → Dm → Option Dm} (hk36 : ∀ (x1 : Int32) (x2 : Int32) (D : Dm), k36 x1 x2 D = some D' → BV G tA z E p l e (rmC 29 0 0) s m args below meth c LAY D D' 3 36 [(0, .ref (z + 281)), (1, .int x1), (2, .int x2)] []) (x1 : Int32) (x2 : Int32) (D : Dm) (h : f_X12_findsWrong_36_b k36 x1 x2 D = some D') : BV G tA z E p l e (rmC 29 0 0) s m args below meth c LAY D D' 3 36 [(0, .ref (z + 281)), (1, .int x1), (2, .int x2)] [] := by
  obtain ⟨hx, hb, -, hown, hts, -⟩ := id O
  unfold f_X12_findsWrong_36_b at h
  intro H locs ls hH hl
  refine lv_iload_n hx hb dX12_findsWrong_36 rfl (lv_at hl 2 rfl) ?_
  refine lv_if_lt (tgt := 77) hx hb dX12_findsWrong_37 (by decide) (fun c1 => ?_) (fun c1 => ?_)
  · have h := it_pos h c1
    obtain rfl := ret_v h
    exact h_vret O hr hlk hH dX12_findsWrong_77
  · have h := it_neg h c1
    refine lv_aload_n hx hb dX12_findsWrong_40 rfl (lv_at hl 0 rfl) ?_
    refine h_getr O hH ly_281 rfl fl_X12_96 dX12_findsWrong_41 ?_
    refine lv_iload_n hx hb dX12_findsWrong_44 rfl (lv_at hl 2 rfl) ?_
    refine lv_aload_n hx hb dX12_findsWrong_45 rfl (lv_at hl 0 rfl) ?_
    refine h_getr O hH ly_281 rfl fl_X12_105 dX12_findsWrong_46 ?_
    refine lv_iload_n hx hb dX12_findsWrong_49 rfl (lv_at hl 1 rfl) ?_
    obtain ⟨g2, h⟩ := gd_some h
    refine h_iald O hH ly_311 g2 dX12_findsWrong_50 ?_
    obtain ⟨g3, h⟩ := gd_some h
    obtain ⟨D4, e5, h⟩ := lt_some h
    refine h_iast O hH ly_308 g3 e5 dX12_findsWrong_51 (fun H locs hH => ?_)
    refine lv_aload_n hx hb dX12_findsWrong_52 rfl (lv_at hl 0 rfl) ?_
    refine h_getr O hH ly_281 rfl fl_X12_99 dX12_findsWrong_53 ?_
    refine lv_iload_n hx hb dX12_findsWrong_56 rfl (lv_at hl 2 rfl) ?_
    refine lv_aload_n hx hb dX12_findsWrong_57 rfl (lv_at hl 0 rfl) ?_
    refine h_getr O hH ly_281 rfl fl_X12_108 dX12_findsWrong_58 ?_
    refine lv_iload_n hx hb dX12_findsWrong_61 rfl (lv_at hl 1 rfl) ?_
    obtain ⟨g6, h⟩ := gd_some h
    refine h_iald O hH ly_312 g6 dX12_findsWrong_62 ?_
    obtain ⟨g7, h⟩ := gd_some h
    obtain ⟨D8, e9, h⟩ := lt_some h
    refine h_iast O hH ly_309 g7 e9 dX12_findsWrong_63 (fun H locs hH => ?_)
    refine lv_aload_n hx hb dX12_findsWrong_64 rfl (lv_at hl 0 rfl) ?_
    refine h_getr O hH ly_281 rfl fl_X12_102 dX12_findsWrong_65 ?_
    refine lv_iload_n hx hb dX12_findsWrong_68 rfl (lv_at hl 1 rfl) ?_
    obtain ⟨g10, h⟩ := gd_some h
    refine h_iald O hH ly_310 g10 dX12_findsWrong_69 ?_
    refine lv_topi (fun y11 e12 => ?_)
    have h := lt_at e12 h
    refine lv_istore_n (lv' := [(1, .int y11), (0, .ref (z + 281)), (2, .int x2)]) hx hb dX12_findsWrong_70 rfl hl (by decide) rfl (fun ls hl => ?_)
    obtain ⟨y13, e14, h⟩ := lt_some h
    refine lv_iinc (v := y13) (lv' := [(2, .int y13), (1, .int y11), (0, .ref (z + 281))]) hx hb dX12_findsWrong_71 hl (k := 2) rfl (by rw [e14]; rfl) (by decide) rfl (fun ls hl => ?_)
    refine lv_goto (tgt := 36) hx hb dX12_findsWrong_74 (by decide) ?_
    exact hk36 _ _ _ h _ _ _ hH (lv_sub hl [2, 1, 0] rfl)
set_option maxHeartbeats 4000000 in
theorem w_X12_findsWrong_36 {G : va_G} {tA : Nat → ClassId} {z : Nat} {E : Ex} {p : Program} {l : Launch} {e : Env} {s : State} {m : MethodId} {args : Array Value} {below : List Frame} {meth : Method} {c : Code} {D' : Dm} (O : Ok G tA z E cX12_findsWrong RX12 3 p s m args c) (hr : meth.sig.returnType = none) (hlk : meth.locks = false) : ∀ (n : Nat) (x1 : Int32) (x2 : Int32) (D : Dm) (h : f_X12_findsWrong_36 n x1 x2 D = some D'), BV G tA z E p l e (rmC 29 0 0) s m args below meth c LAY D D' 3 36 [(0, .ref (z + 281)), (1, .int x1), (2, .int x2)] [] := by
  intro n
  induction n with
  | zero => intro x1 x2 D h; exact no_some h
  | succ n ih => intro x1 x2 D h; exact w_X12_findsWrong_36_b O hr hlk (fun x1 x2 D h => ih x1 x2 D h) x1 x2 D h
set_option maxHeartbeats 4000000 in
theorem w_X12_findsWrong {G : va_G} {tA : Nat → ClassId} {z : Nat} {E : Ex} {p : Program} {l : Launch} {e : Env} {s : State} {m : MethodId} {args : Array Value} {below : List Frame} {meth : Method} {c : Code} {D' : Dm} (O : Ok G tA z E cX12_findsWrong RX12 3 p s m args c) (hr : meth.sig.returnType = none) (hlk : meth.locks = false)  (D : Dm) (h : f_X12_findsWrong  D = some D') : BV G tA z E p l e (rmC 29 0 0) s m args below meth c LAY D D' 3 0 [(0, .ref (z + 281))] [] := by
  obtain ⟨hx, hb, -, hown, hts, -⟩ := id O
  unfold f_X12_findsWrong at h
  intro H locs ls hH hl
  refine lv_aload_n hx hb dX12_findsWrong_0 rfl (lv_at hl 0 rfl) ?_
  refine lv_iconst (v := 0) hx hb dX12_findsWrong_1 (by decide) ?_
  refine lv_iconst (v := (-1)) hx hb dX12_findsWrong_2 (by decide) ?_
  refine lv_iconst (v := (-1)) hx hb dX12_findsWrong_3 (by decide) ?_
  obtain ⟨D1, hc2, h⟩ := bV_some h
  refine h_callVv (As := [.int 0, .int (-1), .int (-1)]) (rest := []) O hH (c_X12_guesses hc2) ml_X12_486 ly_281 rfl rfl hl.1 rfl ⟨Nat.le_of_ble_eq_true rfl, Nat.le_of_ble_eq_true rfl⟩ (Nat.le_of_ble_eq_true rfl) dX12_findsWrong_4 (fun H locs hH => ?_)
  refine lv_aload_n hx hb dX12_findsWrong_7 rfl (lv_at hl 0 rfl) ?_
  refine lv_iconst (v := 1) hx hb dX12_findsWrong_8 (by decide) ?_
  obtain ⟨y5, D3, hc4, h⟩ := bI_some h
  refine h_callVi (As := [.int 1]) (rest := []) O hH (c_X12_seeks hc4) ml_X12_536 ly_281 rfl rfl hl.1 rfl ⟨Nat.le_of_ble_eq_true rfl, Nat.le_of_ble_eq_true rfl⟩ (Nat.le_of_ble_eq_true rfl) dX12_findsWrong_9 (fun H locs hH => ?_)
  refine lv_istore_n (lv' := [(1, .int y5), (0, .ref (z + 281))]) hx hb dX12_findsWrong_12 rfl hl (by decide) rfl (fun ls hl => ?_)
  refine lv_iload_n hx hb dX12_findsWrong_13 rfl (lv_at hl 0 rfl) ?_
  refine lv_iconst (v := (-1)) hx hb dX12_findsWrong_14 (by decide) ?_
  refine lv_icmp_ne (tgt := 19) hx hb dX12_findsWrong_15 (by decide) (fun c6 => ?_) (fun c6 => ?_)
  · have h := it_neg h c6
    refine lv_aload_n hx hb dX12_findsWrong_19 rfl (lv_at hl 1 rfl) ?_
    refine lv_aload_n hx hb dX12_findsWrong_20 rfl (lv_at hl 1 rfl) ?_
    refine h_getr O hH ly_281 rfl fl_X12_111 dX12_findsWrong_21 ?_
    refine lv_iload_n hx hb dX12_findsWrong_24 rfl (lv_at hl 0 rfl) ?_
    obtain ⟨g7, h⟩ := gd_some h
    refine h_iald O hH ly_313 g7 dX12_findsWrong_25 ?_
    obtain ⟨D8, e9, h⟩ := lt_some h
    refine h_puti O hH ly_281 rfl fl_X12_434 e9 dX12_findsWrong_26 (fun H locs hH => ?_)
    refine lv_aload_n hx hb dX12_findsWrong_29 rfl (lv_at hl 1 rfl) ?_
    refine h_geti O hH ly_281 rfl fl_X12_434 dX12_findsWrong_30 ?_
    refine lv_iconst (v := 1) hx hb dX12_findsWrong_33 (by decide) ?_
    refine lv_isub hx hb dX12_findsWrong_34 ?_
    refine lv_topi (fun y10 e11 => ?_)
    have h := lt_at e11 h
    refine lv_istore_n (lv' := [(2, .int y10), (1, .int y5), (0, .ref (z + 281))]) hx hb dX12_findsWrong_35 rfl hl (by decide) rfl (fun ls hl => ?_)
    exact w_X12_findsWrong_36 O hr hlk FU _ _ _ h _ _ _ hH (lv_sub hl [2, 1, 0] rfl)
  · have h := it_pos h c6
    obtain rfl := ret_v h
    exact h_vret O hr hlk hH dX12_findsWrong_18
set_option maxHeartbeats 4000000 in
theorem c_X12_findsWrong {l : Launch} {G : va_G} {tA : Nat → ClassId} {z : Nat} {E : Ex}  {D D' : Dm} (h : f_X12_findsWrong  D = some D') : CtV l yX12_findsWrong cX12_findsWrong 3 G tA z E 29 0 0 [.ref (z + 281)] LAY D LAY D' :=
  ct_BV (by decide +kernel) (Nat.le_of_ble_eq_true rfl) (fun _ _ _ _ _ _ _ _ O hr hlk => w_X12_findsWrong O hr hlk  _ h)
