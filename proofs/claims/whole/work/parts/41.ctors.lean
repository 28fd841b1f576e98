theorem dX9_init_0 : decode cX9_init 0 = .ok (.aload_n 0, 1) := by decide +kernel
theorem dX9_init_1 : decode cX9_init 1 = .ok (.invokespecial 1, 3) := by decide +kernel
theorem dX9_init_4 : decode cX9_init 4 = .ok (.return_, 1) := by decide +kernel
theorem dX1_init_0 : decode cX1_init 0 = .ok (.aload_n 0, 1) := by decide +kernel
theorem dX1_init_1 : decode cX1_init 1 = .ok (.invokespecial 3, 3) := by decide +kernel
theorem dX1_init_4 : decode cX1_init 4 = .ok (.aload_n 0, 1) := by decide +kernel
theorem dX1_init_5 : decode cX1_init 5 = .ok (.iconst 2, 1) := by decide +kernel
theorem dX1_init_6 : decode cX1_init 6 = .ok (.newarray .int, 2) := by decide +kernel
theorem dX1_init_8 : decode cX1_init 8 = .ok (.dup, 1) := by decide +kernel
theorem dX1_init_9 : decode cX1_init 9 = .ok (.iconst 0, 1) := by decide +kernel
theorem dX1_init_10 : decode cX1_init 10 = .ok (.iconst (-1), 1) := by decide +kernel
theorem dX1_init_11 : decode cX1_init 11 = .ok (.iastore, 1) := by decide +kernel
theorem dX1_init_12 : decode cX1_init 12 = .ok (.dup, 1) := by decide +kernel
theorem dX1_init_13 : decode cX1_init 13 = .ok (.iconst 1, 1) := by decide +kernel
theorem dX1_init_14 : decode cX1_init 14 = .ok (.iconst (-1), 1) := by decide +kernel
theorem dX1_init_15 : decode cX1_init 15 = .ok (.iastore, 1) := by decide +kernel
theorem dX1_init_16 : decode cX1_init 16 = .ok (.putfield 9, 3) := by decide +kernel
theorem dX1_init_19 : decode cX1_init 19 = .ok (.return_, 1) := by decide +kernel
theorem dX10_init_0 : decode cX10_init 0 = .ok (.aload_n 0, 1) := by decide +kernel
theorem dX10_init_1 : decode cX10_init 1 = .ok (.invokespecial 3, 3) := by decide +kernel
theorem dX10_init_4 : decode cX10_init 4 = .ok (.aload_n 0, 1) := by decide +kernel
theorem dX10_init_5 : decode cX10_init 5 = .ok (.bipush 20, 2) := by decide +kernel
theorem dX10_init_7 : decode cX10_init 7 = .ok (.newarray .int, 2) := by decide +kernel
theorem dX10_init_9 : decode cX10_init 9 = .ok (.putfield 9, 3) := by decide +kernel
theorem dX10_init_12 : decode cX10_init 12 = .ok (.aload_n 0, 1) := by decide +kernel
theorem dX10_init_13 : decode cX10_init 13 = .ok (.bipush 20, 2) := by decide +kernel
theorem dX10_init_15 : decode cX10_init 15 = .ok (.newarray .int, 2) := by decide +kernel
theorem dX10_init_17 : decode cX10_init 17 = .ok (.putfield 15, 3) := by decide +kernel
theorem dX10_init_20 : decode cX10_init 20 = .ok (.aload_n 0, 1) := by decide +kernel
theorem dX10_init_21 : decode cX10_init 21 = .ok (.bipush 20, 2) := by decide +kernel
theorem dX10_init_23 : decode cX10_init 23 = .ok (.newarray .int, 2) := by decide +kernel
theorem dX10_init_25 : decode cX10_init 25 = .ok (.putfield 18, 3) := by decide +kernel
theorem dX10_init_28 : decode cX10_init 28 = .ok (.return_, 1) := by decide +kernel
theorem dX4_init_0 : decode cX4_init 0 = .ok (.aload_n 0, 1) := by decide +kernel
theorem dX4_init_1 : decode cX4_init 1 = .ok (.invokespecial 3, 3) := by decide +kernel
theorem dX4_init_4 : decode cX4_init 4 = .ok (.aload_n 0, 1) := by decide +kernel
theorem dX4_init_5 : decode cX4_init 5 = .ok (.bipush 30, 2) := by decide +kernel
theorem dX4_init_7 : decode cX4_init 7 = .ok (.newarray .int, 2) := by decide +kernel
theorem dX4_init_9 : decode cX4_init 9 = .ok (.putfield 11, 3) := by decide +kernel
theorem dX4_init_12 : decode cX4_init 12 = .ok (.aload_n 0, 1) := by decide +kernel
theorem dX4_init_13 : decode cX4_init 13 = .ok (.bipush 30, 2) := by decide +kernel
theorem dX4_init_15 : decode cX4_init 15 = .ok (.newarray .int, 2) := by decide +kernel
theorem dX4_init_17 : decode cX4_init 17 = .ok (.putfield 15, 3) := by decide +kernel
theorem dX4_init_20 : decode cX4_init 20 = .ok (.aload_n 0, 1) := by decide +kernel
theorem dX4_init_21 : decode cX4_init 21 = .ok (.bipush 30, 2) := by decide +kernel
theorem dX4_init_23 : decode cX4_init 23 = .ok (.newarray .int, 2) := by decide +kernel
theorem dX4_init_25 : decode cX4_init 25 = .ok (.putfield 18, 3) := by decide +kernel
theorem dX4_init_28 : decode cX4_init 28 = .ok (.aload_n 0, 1) := by decide +kernel
theorem dX4_init_29 : decode cX4_init 29 = .ok (.invokevirtual 21, 3) := by decide +kernel
theorem dX4_init_32 : decode cX4_init 32 = .ok (.return_, 1) := by decide +kernel
theorem dX6_init_0 : decode cX6_init 0 = .ok (.aload_n 0, 1) := by decide +kernel
theorem dX6_init_1 : decode cX6_init 1 = .ok (.invokespecial 3, 3) := by decide +kernel
theorem dX6_init_4 : decode cX6_init 4 = .ok (.aload_n 0, 1) := by decide +kernel
theorem dX6_init_5 : decode cX6_init 5 = .ok (.new 9, 3) := by decide +kernel
theorem dX6_init_8 : decode cX6_init 8 = .ok (.dup, 1) := by decide +kernel
theorem dX6_init_9 : decode cX6_init 9 = .ok (.invokespecial 11, 3) := by decide +kernel
theorem dX6_init_12 : decode cX6_init 12 = .ok (.putfield 12, 3) := by decide +kernel
theorem dX6_init_15 : decode cX6_init 15 = .ok (.aload_n 0, 1) := by decide +kernel
theorem dX6_init_16 : decode cX6_init 16 = .ok (.iconst 2, 1) := by decide +kernel
theorem dX6_init_17 : decode cX6_init 17 = .ok (.newarray .int, 2) := by decide +kernel
theorem dX6_init_19 : decode cX6_init 19 = .ok (.putfield 18, 3) := by decide +kernel
theorem dX6_init_22 : decode cX6_init 22 = .ok (.aload_n 0, 1) := by decide +kernel
theorem dX6_init_23 : decode cX6_init 23 = .ok (.iconst 2, 1) := by decide +kernel
theorem dX6_init_24 : decode cX6_init 24 = .ok (.newarray .int, 2) := by decide +kernel
theorem dX6_init_26 : decode cX6_init 26 = .ok (.putfield 22, 3) := by decide +kernel
theorem dX6_init_29 : decode cX6_init 29 = .ok (.aload_n 0, 1) := by decide +kernel
theorem dX6_init_30 : decode cX6_init 30 = .ok (.iconst 2, 1) := by decide +kernel
theorem dX6_init_31 : decode cX6_init 31 = .ok (.newarray .int, 2) := by decide +kernel
theorem dX6_init_33 : decode cX6_init 33 = .ok (.putfield 25, 3) := by decide +kernel
theorem dX6_init_36 : decode cX6_init 36 = .ok (.aload_n 0, 1) := by decide +kernel
theorem dX6_init_37 : decode cX6_init 37 = .ok (.iconst 2, 1) := by decide +kernel
theorem dX6_init_38 : decode cX6_init 38 = .ok (.newarray .int, 2) := by decide +kernel
theorem dX6_init_40 : decode cX6_init 40 = .ok (.putfield 28, 3) := by decide +kernel
theorem dX6_init_43 : decode cX6_init 43 = .ok (.aload_n 0, 1) := by decide +kernel
theorem dX6_init_44 : decode cX6_init 44 = .ok (.iconst 2, 1) := by decide +kernel
theorem dX6_init_45 : decode cX6_init 45 = .ok (.newarray .int, 2) := by decide +kernel
theorem dX6_init_47 : decode cX6_init 47 = .ok (.putfield 31, 3) := by decide +kernel
theorem dX6_init_50 : decode cX6_init 50 = .ok (.aload_n 0, 1) := by decide +kernel
theorem dX6_init_51 : decode cX6_init 51 = .ok (.bipush 10, 2) := by decide +kernel
theorem dX6_init_53 : decode cX6_init 53 = .ok (.newarray .int, 2) := by decide +kernel
theorem dX6_init_55 : decode cX6_init 55 = .ok (.putfield 34, 3) := by decide +kernel
theorem dX6_init_58 : decode cX6_init 58 = .ok (.aload_n 0, 1) := by decide +kernel
theorem dX6_init_59 : decode cX6_init 59 = .ok (.bipush 10, 2) := by decide +kernel
theorem dX6_init_61 : decode cX6_init 61 = .ok (.newarray .int, 2) := by decide +kernel
theorem dX6_init_63 : decode cX6_init 63 = .ok (.putfield 37, 3) := by decide +kernel
theorem dX6_init_66 : decode cX6_init 66 = .ok (.return_, 1) := by decide +kernel
theorem dX2_init_0 : decode cX2_init 0 = .ok (.aload_n 0, 1) := by decide +kernel
theorem dX2_init_1 : decode cX2_init 1 = .ok (.invokespecial 3, 3) := by decide +kernel
theorem dX2_init_4 : decode cX2_init 4 = .ok (.aload_n 0, 1) := by decide +kernel
theorem dX2_init_5 : decode cX2_init 5 = .ok (.bipush 60, 2) := by decide +kernel
theorem dX2_init_7 : decode cX2_init 7 = .ok (.newarray .int, 2) := by decide +kernel
theorem dX2_init_9 : decode cX2_init 9 = .ok (.putfield 11, 3) := by decide +kernel
theorem dX2_init_12 : decode cX2_init 12 = .ok (.aload_n 0, 1) := by decide +kernel
theorem dX2_init_13 : decode cX2_init 13 = .ok (.bipush 60, 2) := by decide +kernel
theorem dX2_init_15 : decode cX2_init 15 = .ok (.newarray .int, 2) := by decide +kernel
theorem dX2_init_17 : decode cX2_init 17 = .ok (.putfield 15, 3) := by decide +kernel
theorem dX2_init_20 : decode cX2_init 20 = .ok (.aload_n 0, 1) := by decide +kernel
theorem dX2_init_21 : decode cX2_init 21 = .ok (.bipush 60, 2) := by decide +kernel
theorem dX2_init_23 : decode cX2_init 23 = .ok (.newarray .int, 2) := by decide +kernel
theorem dX2_init_25 : decode cX2_init 25 = .ok (.putfield 18, 3) := by decide +kernel
theorem dX2_init_28 : decode cX2_init 28 = .ok (.return_, 1) := by decide +kernel
theorem dX7_init_0 : decode cX7_init 0 = .ok (.aload_n 0, 1) := by decide +kernel
theorem dX7_init_1 : decode cX7_init 1 = .ok (.invokespecial 3, 3) := by decide +kernel
theorem dX7_init_4 : decode cX7_init 4 = .ok (.aload_n 0, 1) := by decide +kernel
theorem dX7_init_5 : decode cX7_init 5 = .ok (.sipush 500, 3) := by decide +kernel
theorem dX7_init_8 : decode cX7_init 8 = .ok (.newarray .int, 2) := by decide +kernel
theorem dX7_init_10 : decode cX7_init 10 = .ok (.putfield 9, 3) := by decide +kernel
theorem dX7_init_13 : decode cX7_init 13 = .ok (.aload_n 0, 1) := by decide +kernel
theorem dX7_init_14 : decode cX7_init 14 = .ok (.iconst (-1), 1) := by decide +kernel
theorem dX7_init_15 : decode cX7_init 15 = .ok (.putfield 15, 3) := by decide +kernel
theorem dX7_init_18 : decode cX7_init 18 = .ok (.return_, 1) := by decide +kernel
theorem dX5_init_0 : decode cX5_init 0 = .ok (.aload_n 0, 1) := by decide +kernel
theorem dX5_init_1 : decode cX5_init 1 = .ok (.invokespecial 3, 3) := by decide +kernel
theorem dX5_init_4 : decode cX5_init 4 = .ok (.aload_n 0, 1) := by decide +kernel
theorem dX5_init_5 : decode cX5_init 5 = .ok (.new 9, 3) := by decide +kernel
theorem dX5_init_8 : decode cX5_init 8 = .ok (.dup, 1) := by decide +kernel
theorem dX5_init_9 : decode cX5_init 9 = .ok (.invokespecial 11, 3) := by decide +kernel
theorem dX5_init_12 : decode cX5_init 12 = .ok (.putfield 12, 3) := by decide +kernel
theorem dX5_init_15 : decode cX5_init 15 = .ok (.return_, 1) := by decide +kernel
theorem dX8_init_0 : decode cX8_init 0 = .ok (.aload_n 0, 1) := by decide +kernel
theorem dX8_init_1 : decode cX8_init 1 = .ok (.invokespecial 5, 3) := by decide +kernel
theorem dX8_init_4 : decode cX8_init 4 = .ok (.aload_n 0, 1) := by decide +kernel
theorem dX8_init_5 : decode cX8_init 5 = .ok (.sipush 1290, 3) := by decide +kernel
theorem dX8_init_8 : decode cX8_init 8 = .ok (.newarray .int, 2) := by decide +kernel
theorem dX8_init_10 : decode cX8_init 10 = .ok (.putfield 11, 3) := by decide +kernel
theorem dX8_init_13 : decode cX8_init 13 = .ok (.aload_n 0, 1) := by decide +kernel
theorem dX8_init_14 : decode cX8_init 14 = .ok (.sipush 1351, 3) := by decide +kernel
theorem dX8_init_17 : decode cX8_init 17 = .ok (.newarray .int, 2) := by decide +kernel
theorem dX8_init_19 : decode cX8_init 19 = .ok (.putfield 15, 3) := by decide +kernel
theorem dX8_init_22 : decode cX8_init 22 = .ok (.aload_n 0, 1) := by decide +kernel
theorem dX8_init_23 : decode cX8_init 23 = .ok (.sipush 1351, 3) := by decide +kernel
theorem dX8_init_26 : decode cX8_init 26 = .ok (.newarray .int, 2) := by decide +kernel
theorem dX8_init_28 : decode cX8_init 28 = .ok (.putfield 18, 3) := by decide +kernel
theorem dX8_init_31 : decode cX8_init 31 = .ok (.aload_n 0, 1) := by decide +kernel
theorem dX8_init_32 : decode cX8_init 32 = .ok (.sipush 1351, 3) := by decide +kernel
theorem dX8_init_35 : decode cX8_init 35 = .ok (.newarray .int, 2) := by decide +kernel
theorem dX8_init_37 : decode cX8_init 37 = .ok (.putfield 21, 3) := by decide +kernel
theorem dX8_init_40 : decode cX8_init 40 = .ok (.aload_n 0, 1) := by decide +kernel
theorem dX8_init_41 : decode cX8_init 41 = .ok (.sipush 1351, 3) := by decide +kernel
theorem dX8_init_44 : decode cX8_init 44 = .ok (.newarray .int, 2) := by decide +kernel
theorem dX8_init_46 : decode cX8_init 46 = .ok (.putfield 24, 3) := by decide +kernel
theorem dX8_init_49 : decode cX8_init 49 = .ok (.aload_n 0, 1) := by decide +kernel
theorem dX8_init_50 : decode cX8_init 50 = .ok (.sipush 1351, 3) := by decide +kernel
theorem dX8_init_53 : decode cX8_init 53 = .ok (.newarray .int, 2) := by decide +kernel
theorem dX8_init_55 : decode cX8_init 55 = .ok (.putfield 27, 3) := by decide +kernel
theorem dX8_init_58 : decode cX8_init 58 = .ok (.aload_n 0, 1) := by decide +kernel
theorem dX8_init_59 : decode cX8_init 59 = .ok (.new 30, 3) := by decide +kernel
theorem dX8_init_62 : decode cX8_init 62 = .ok (.dup, 1) := by decide +kernel
theorem dX8_init_63 : decode cX8_init 63 = .ok (.invokespecial 32, 3) := by decide +kernel
theorem dX8_init_66 : decode cX8_init 66 = .ok (.putfield 33, 3) := by decide +kernel
theorem dX8_init_69 : decode cX8_init 69 = .ok (.aload_n 0, 1) := by decide +kernel
theorem dX8_init_70 : decode cX8_init 70 = .ok (.new 30, 3) := by decide +kernel
theorem dX8_init_73 : decode cX8_init 73 = .ok (.dup, 1) := by decide +kernel
theorem dX8_init_74 : decode cX8_init 74 = .ok (.invokespecial 32, 3) := by decide +kernel
theorem dX8_init_77 : decode cX8_init 77 = .ok (.putfield 37, 3) := by decide +kernel
theorem dX8_init_80 : decode cX8_init 80 = .ok (.aload_n 0, 1) := by decide +kernel
theorem dX8_init_81 : decode cX8_init 81 = .ok (.new 30, 3) := by decide +kernel
theorem dX8_init_84 : decode cX8_init 84 = .ok (.dup, 1) := by decide +kernel
theorem dX8_init_85 : decode cX8_init 85 = .ok (.invokespecial 32, 3) := by decide +kernel
theorem dX8_init_88 : decode cX8_init 88 = .ok (.putfield 40, 3) := by decide +kernel
theorem dX8_init_91 : decode cX8_init 91 = .ok (.aload_n 0, 1) := by decide +kernel
theorem dX8_init_92 : decode cX8_init 92 = .ok (.new 30, 3) := by decide +kernel
theorem dX8_init_95 : decode cX8_init 95 = .ok (.dup, 1) := by decide +kernel
theorem dX8_init_96 : decode cX8_init 96 = .ok (.invokespecial 32, 3) := by decide +kernel
theorem dX8_init_99 : decode cX8_init 99 = .ok (.putfield 43, 3) := by decide +kernel
theorem dX8_init_102 : decode cX8_init 102 = .ok (.aload_n 0, 1) := by decide +kernel
theorem dX8_init_103 : decode cX8_init 103 = .ok (.iconst 4, 1) := by decide +kernel
theorem dX8_init_104 : decode cX8_init 104 = .ok (.newarray .int, 2) := by decide +kernel
theorem dX8_init_106 : decode cX8_init 106 = .ok (.putfield 46, 3) := by decide +kernel
theorem dX8_init_109 : decode cX8_init 109 = .ok (.aload_n 0, 1) := by decide +kernel
theorem dX8_init_110 : decode cX8_init 110 = .ok (.iconst 5, 1) := by decide +kernel
theorem dX8_init_111 : decode cX8_init 111 = .ok (.newarray .int, 2) := by decide +kernel
theorem dX8_init_113 : decode cX8_init 113 = .ok (.putfield 49, 3) := by decide +kernel
theorem dX8_init_116 : decode cX8_init 116 = .ok (.aload_n 0, 1) := by decide +kernel
theorem dX8_init_117 : decode cX8_init 117 = .ok (.bipush 20, 2) := by decide +kernel
theorem dX8_init_119 : decode cX8_init 119 = .ok (.newarray .int, 2) := by decide +kernel
theorem dX8_init_121 : decode cX8_init 121 = .ok (.putfield 52, 3) := by decide +kernel
theorem dX8_init_124 : decode cX8_init 124 = .ok (.return_, 1) := by decide +kernel
theorem dX0_init_0 : decode cX0_init 0 = .ok (.aload_n 0, 1) := by decide +kernel
theorem dX0_init_1 : decode cX0_init 1 = .ok (.invokespecial 3, 3) := by decide +kernel
theorem dX0_init_4 : decode cX0_init 4 = .ok (.aload_n 0, 1) := by decide +kernel
theorem dX0_init_5 : decode cX0_init 5 = .ok (.bipush 10, 2) := by decide +kernel
theorem dX0_init_7 : decode cX0_init 7 = .ok (.anewarray 9, 3) := by decide +kernel
theorem dX0_init_10 : decode cX0_init 10 = .ok (.putfield 11, 3) := by decide +kernel
theorem dX0_init_13 : decode cX0_init 13 = .ok (.aload_n 0, 1) := by decide +kernel
theorem dX0_init_14 : decode cX0_init 14 = .ok (.iconst 3, 1) := by decide +kernel
theorem dX0_init_15 : decode cX0_init 15 = .ok (.newarray .int, 2) := by decide +kernel
theorem dX0_init_17 : decode cX0_init 17 = .ok (.putfield 17, 3) := by decide +kernel
theorem dX0_init_20 : decode cX0_init 20 = .ok (.aload_n 0, 1) := by decide +kernel
theorem dX0_init_21 : decode cX0_init 21 = .ok (.iconst 3, 1) := by decide +kernel
theorem dX0_init_22 : decode cX0_init 22 = .ok (.newarray .int, 2) := by decide +kernel
theorem dX0_init_24 : decode cX0_init 24 = .ok (.putfield 21, 3) := by decide +kernel
theorem dX0_init_27 : decode cX0_init 27 = .ok (.aload_n 0, 1) := by decide +kernel
theorem dX0_init_28 : decode cX0_init 28 = .ok (.new 24, 3) := by decide +kernel
theorem dX0_init_31 : decode cX0_init 31 = .ok (.dup, 1) := by decide +kernel
theorem dX0_init_32 : decode cX0_init 32 = .ok (.invokespecial 26, 3) := by decide +kernel
theorem dX0_init_35 : decode cX0_init 35 = .ok (.putfield 27, 3) := by decide +kernel
theorem dX0_init_38 : decode cX0_init 38 = .ok (.aload_n 0, 1) := by decide +kernel
theorem dX0_init_39 : decode cX0_init 39 = .ok (.aload_n 1, 1) := by decide +kernel
theorem dX0_init_40 : decode cX0_init 40 = .ok (.putfield 31, 3) := by decide +kernel
theorem dX0_init_43 : decode cX0_init 43 = .ok (.iconst 0, 1) := by decide +kernel
theorem dX0_init_44 : decode cX0_init 44 = .ok (.istore_n 2, 1) := by decide +kernel
theorem dX0_init_45 : decode cX0_init 45 = .ok (.iload_n 2, 1) := by decide +kernel
theorem dX0_init_46 : decode cX0_init 46 = .ok (.bipush 10, 2) := by decide +kernel
theorem dX0_init_48 : decode cX0_init 48 = .ok (.if_icmp .ge 22, 3) := by decide +kernel
theorem dX0_init_51 : decode cX0_init 51 = .ok (.aload_n 0, 1) := by decide +kernel
theorem dX0_init_52 : decode cX0_init 52 = .ok (.getfield 11, 3) := by decide +kernel
theorem dX0_init_55 : decode cX0_init 55 = .ok (.iload_n 2, 1) := by decide +kernel
theorem dX0_init_56 : decode cX0_init 56 = .ok (.new 9, 3) := by decide +kernel
theorem dX0_init_59 : decode cX0_init 59 = .ok (.dup, 1) := by decide +kernel
theorem dX0_init_60 : decode cX0_init 60 = .ok (.invokespecial 35, 3) := by decide +kernel
theorem dX0_init_63 : decode cX0_init 63 = .ok (.aastore, 1) := by decide +kernel
theorem dX0_init_64 : decode cX0_init 64 = .ok (.iinc 2 1, 3) := by decide +kernel
theorem dX0_init_67 : decode cX0_init 67 = .ok (.goto (-22), 3) := by decide +kernel
theorem dX0_init_70 : decode cX0_init 70 = .ok (.return_, 1) := by decide +kernel
theorem dX3_init_0 : decode cX3_init 0 = .ok (.aload_n 0, 1) := by decide +kernel
theorem dX3_init_1 : decode cX3_init 1 = .ok (.invokespecial 3, 3) := by decide +kernel
theorem dX3_init_4 : decode cX3_init 4 = .ok (.aload_n 0, 1) := by decide +kernel
theorem dX3_init_5 : decode cX3_init 5 = .ok (.bipush 10, 2) := by decide +kernel
theorem dX3_init_7 : decode cX3_init 7 = .ok (.anewarray 9, 3) := by decide +kernel
theorem dX3_init_10 : decode cX3_init 10 = .ok (.putfield 11, 3) := by decide +kernel
theorem dX3_init_13 : decode cX3_init 13 = .ok (.aload_n 0, 1) := by decide +kernel
theorem dX3_init_14 : decode cX3_init 14 = .ok (.bipush 10, 2) := by decide +kernel
theorem dX3_init_16 : decode cX3_init 16 = .ok (.anewarray 17, 3) := by decide +kernel
theorem dX3_init_19 : decode cX3_init 19 = .ok (.putfield 19, 3) := by decide +kernel
theorem dX3_init_22 : decode cX3_init 22 = .ok (.aload_n 0, 1) := by decide +kernel
theorem dX3_init_23 : decode cX3_init 23 = .ok (.new 17, 3) := by decide +kernel
theorem dX3_init_26 : decode cX3_init 26 = .ok (.dup, 1) := by decide +kernel
theorem dX3_init_27 : decode cX3_init 27 = .ok (.invokespecial 23, 3) := by decide +kernel
theorem dX3_init_30 : decode cX3_init 30 = .ok (.putfield 24, 3) := by decide +kernel
theorem dX3_init_33 : decode cX3_init 33 = .ok (.aload_n 0, 1) := by decide +kernel
theorem dX3_init_34 : decode cX3_init 34 = .ok (.new 28, 3) := by decide +kernel
theorem dX3_init_37 : decode cX3_init 37 = .ok (.dup, 1) := by decide +kernel
theorem dX3_init_38 : decode cX3_init 38 = .ok (.invokespecial 30, 3) := by decide +kernel
theorem dX3_init_41 : decode cX3_init 41 = .ok (.putfield 31, 3) := by decide +kernel
theorem dX3_init_44 : decode cX3_init 44 = .ok (.aload_n 0, 1) := by decide +kernel
theorem dX3_init_45 : decode cX3_init 45 = .ok (.new 9, 3) := by decide +kernel
theorem dX3_init_48 : decode cX3_init 48 = .ok (.dup, 1) := by decide +kernel
theorem dX3_init_49 : decode cX3_init 49 = .ok (.invokespecial 35, 3) := by decide +kernel
theorem dX3_init_52 : decode cX3_init 52 = .ok (.putfield 36, 3) := by decide +kernel
theorem dX3_init_55 : decode cX3_init 55 = .ok (.aload_n 0, 1) := by decide +kernel
theorem dX3_init_56 : decode cX3_init 56 = .ok (.new 9, 3) := by decide +kernel
theorem dX3_init_59 : decode cX3_init 59 = .ok (.dup, 1) := by decide +kernel
theorem dX3_init_60 : decode cX3_init 60 = .ok (.invokespecial 35, 3) := by decide +kernel
theorem dX3_init_63 : decode cX3_init 63 = .ok (.putfield 40, 3) := by decide +kernel
theorem dX3_init_66 : decode cX3_init 66 = .ok (.aload_n 0, 1) := by decide +kernel
theorem dX3_init_67 : decode cX3_init 67 = .ok (.new 9, 3) := by decide +kernel
theorem dX3_init_70 : decode cX3_init 70 = .ok (.dup, 1) := by decide +kernel
theorem dX3_init_71 : decode cX3_init 71 = .ok (.invokespecial 35, 3) := by decide +kernel
theorem dX3_init_74 : decode cX3_init 74 = .ok (.putfield 43, 3) := by decide +kernel
theorem dX3_init_77 : decode cX3_init 77 = .ok (.aload_n 0, 1) := by decide +kernel
theorem dX3_init_78 : decode cX3_init 78 = .ok (.new 46, 3) := by decide +kernel
theorem dX3_init_81 : decode cX3_init 81 = .ok (.dup, 1) := by decide +kernel
theorem dX3_init_82 : decode cX3_init 82 = .ok (.invokespecial 48, 3) := by decide +kernel
theorem dX3_init_85 : decode cX3_init 85 = .ok (.putfield 49, 3) := by decide +kernel
theorem dX3_init_88 : decode cX3_init 88 = .ok (.aload_n 0, 1) := by decide +kernel
theorem dX3_init_89 : decode cX3_init 89 = .ok (.new 46, 3) := by decide +kernel
theorem dX3_init_92 : decode cX3_init 92 = .ok (.dup, 1) := by decide +kernel
theorem dX3_init_93 : decode cX3_init 93 = .ok (.invokespecial 48, 3) := by decide +kernel
theorem dX3_init_96 : decode cX3_init 96 = .ok (.putfield 53, 3) := by decide +kernel
theorem dX3_init_99 : decode cX3_init 99 = .ok (.aload_n 0, 1) := by decide +kernel
theorem dX3_init_100 : decode cX3_init 100 = .ok (.aload_n 1, 1) := by decide +kernel
theorem dX3_init_101 : decode cX3_init 101 = .ok (.putfield 56, 3) := by decide +kernel
theorem dX3_init_104 : decode cX3_init 104 = .ok (.aload_n 0, 1) := by decide +kernel
theorem dX3_init_105 : decode cX3_init 105 = .ok (.aload_n 2, 1) := by decide +kernel
theorem dX3_init_106 : decode cX3_init 106 = .ok (.putfield 60, 3) := by decide +kernel
theorem dX3_init_109 : decode cX3_init 109 = .ok (.aload_n 0, 1) := by decide +kernel
theorem dX3_init_110 : decode cX3_init 110 = .ok (.new 64, 3) := by decide +kernel
theorem dX3_init_113 : decode cX3_init 113 = .ok (.dup, 1) := by decide +kernel
theorem dX3_init_114 : decode cX3_init 114 = .ok (.aload_n 1, 1) := by decide +kernel
theorem dX3_init_115 : decode cX3_init 115 = .ok (.invokespecial 66, 3) := by decide +kernel
theorem dX3_init_118 : decode cX3_init 118 = .ok (.putfield 69, 3) := by decide +kernel
theorem dX3_init_121 : decode cX3_init 121 = .ok (.iconst 0, 1) := by decide +kernel
theorem dX3_init_122 : decode cX3_init 122 = .ok (.istore_n 3, 1) := by decide +kernel
theorem dX3_init_123 : decode cX3_init 123 = .ok (.iload_n 3, 1) := by decide +kernel
theorem dX3_init_124 : decode cX3_init 124 = .ok (.bipush 10, 2) := by decide +kernel
theorem dX3_init_126 : decode cX3_init 126 = .ok (.if_icmp .ge 35, 3) := by decide +kernel
theorem dX3_init_129 : decode cX3_init 129 = .ok (.aload_n 0, 1) := by decide +kernel
theorem dX3_init_130 : decode cX3_init 130 = .ok (.getfield 11, 3) := by decide +kernel
theorem dX3_init_133 : decode cX3_init 133 = .ok (.iload_n 3, 1) := by decide +kernel
theorem dX3_init_134 : decode cX3_init 134 = .ok (.new 9, 3) := by decide +kernel
theorem dX3_init_137 : decode cX3_init 137 = .ok (.dup, 1) := by decide +kernel
theorem dX3_init_138 : decode cX3_init 138 = .ok (.invokespecial 35, 3) := by decide +kernel
theorem dX3_init_141 : decode cX3_init 141 = .ok (.aastore, 1) := by decide +kernel
theorem dX3_init_142 : decode cX3_init 142 = .ok (.aload_n 0, 1) := by decide +kernel
theorem dX3_init_143 : decode cX3_init 143 = .ok (.getfield 19, 3) := by decide +kernel
theorem dX3_init_146 : decode cX3_init 146 = .ok (.iload_n 3, 1) := by decide +kernel
theorem dX3_init_147 : decode cX3_init 147 = .ok (.new 17, 3) := by decide +kernel
theorem dX3_init_150 : decode cX3_init 150 = .ok (.dup, 1) := by decide +kernel
theorem dX3_init_151 : decode cX3_init 151 = .ok (.invokespecial 23, 3) := by decide +kernel
theorem dX3_init_154 : decode cX3_init 154 = .ok (.aastore, 1) := by decide +kernel
theorem dX3_init_155 : decode cX3_init 155 = .ok (.iinc 3 1, 3) := by decide +kernel
theorem dX3_init_158 : decode cX3_init 158 = .ok (.goto (-35), 3) := by decide +kernel
theorem dX3_init_161 : decode cX3_init 161 = .ok (.aload_n 0, 1) := by decide +kernel
theorem dX3_init_162 : decode cX3_init 162 = .ok (.invokevirtual 73, 3) := by decide +kernel
theorem dX3_init_165 : decode cX3_init 165 = .ok (.return_, 1) := by decide +kernel
theorem dX11_init_0 : decode cX11_init 0 = .ok (.aload_n 0, 1) := by decide +kernel
theorem dX11_init_1 : decode cX11_init 1 = .ok (.invokespecial 1, 3) := by decide +kernel
theorem dX11_init_4 : decode cX11_init 4 = .ok (.aload_n 0, 1) := by decide +kernel
theorem dX11_init_5 : decode cX11_init 5 = .ok (.new 7, 3) := by decide +kernel
theorem dX11_init_8 : decode cX11_init 8 = .ok (.dup, 1) := by decide +kernel
theorem dX11_init_9 : decode cX11_init 9 = .ok (.invokespecial 9, 3) := by decide +kernel
theorem dX11_init_12 : decode cX11_init 12 = .ok (.putfield 10, 3) := by decide +kernel
theorem dX11_init_15 : decode cX11_init 15 = .ok (.aload_n 0, 1) := by decide +kernel
theorem dX11_init_16 : decode cX11_init 16 = .ok (.new 16, 3) := by decide +kernel
theorem dX11_init_19 : decode cX11_init 19 = .ok (.dup, 1) := by decide +kernel
theorem dX11_init_20 : decode cX11_init 20 = .ok (.invokespecial 18, 3) := by decide +kernel
theorem dX11_init_23 : decode cX11_init 23 = .ok (.putfield 19, 3) := by decide +kernel
theorem dX11_init_26 : decode cX11_init 26 = .ok (.aload_n 0, 1) := by decide +kernel
theorem dX11_init_27 : decode cX11_init 27 = .ok (.iconst 2, 1) := by decide +kernel
theorem dX11_init_28 : decode cX11_init 28 = .ok (.anewarray 23, 3) := by decide +kernel
theorem dX11_init_31 : decode cX11_init 31 = .ok (.putfield 25, 3) := by decide +kernel
theorem dX11_init_34 : decode cX11_init 34 = .ok (.iconst 0, 1) := by decide +kernel
theorem dX11_init_35 : decode cX11_init 35 = .ok (.istore_n 1, 1) := by decide +kernel
theorem dX11_init_36 : decode cX11_init 36 = .ok (.iload_n 1, 1) := by decide +kernel
theorem dX11_init_37 : decode cX11_init 37 = .ok (.iconst 2, 1) := by decide +kernel
theorem dX11_init_38 : decode cX11_init 38 = .ok (.if_icmp .ge 22, 3) := by decide +kernel
theorem dX11_init_41 : decode cX11_init 41 = .ok (.aload_n 0, 1) := by decide +kernel
theorem dX11_init_42 : decode cX11_init 42 = .ok (.getfield 25, 3) := by decide +kernel
theorem dX11_init_45 : decode cX11_init 45 = .ok (.iload_n 1, 1) := by decide +kernel
theorem dX11_init_46 : decode cX11_init 46 = .ok (.new 23, 3) := by decide +kernel
theorem dX11_init_49 : decode cX11_init 49 = .ok (.dup, 1) := by decide +kernel
theorem dX11_init_50 : decode cX11_init 50 = .ok (.invokespecial 29, 3) := by decide +kernel
theorem dX11_init_53 : decode cX11_init 53 = .ok (.aastore, 1) := by decide +kernel
theorem dX11_init_54 : decode cX11_init 54 = .ok (.iinc 1 1, 3) := by decide +kernel
theorem dX11_init_57 : decode cX11_init 57 = .ok (.goto (-21), 3) := by decide +kernel
theorem dX11_init_60 : decode cX11_init 60 = .ok (.aload_n 0, 1) := by decide +kernel
theorem dX11_init_61 : decode cX11_init 61 = .ok (.new 30, 3) := by decide +kernel
theorem dX11_init_64 : decode cX11_init 64 = .ok (.dup, 1) := by decide +kernel
theorem dX11_init_65 : decode cX11_init 65 = .ok (.invokespecial 32, 3) := by decide +kernel
theorem dX11_init_68 : decode cX11_init 68 = .ok (.putfield 33, 3) := by decide +kernel
theorem dX11_init_71 : decode cX11_init 71 = .ok (.aload_n 0, 1) := by decide +kernel
theorem dX11_init_72 : decode cX11_init 72 = .ok (.new 30, 3) := by decide +kernel
theorem dX11_init_75 : decode cX11_init 75 = .ok (.dup, 1) := by decide +kernel
theorem dX11_init_76 : decode cX11_init 76 = .ok (.invokespecial 32, 3) := by decide +kernel
theorem dX11_init_79 : decode cX11_init 79 = .ok (.putfield 37, 3) := by decide +kernel
theorem dX11_init_82 : decode cX11_init 82 = .ok (.aload_n 0, 1) := by decide +kernel
theorem dX11_init_83 : decode cX11_init 83 = .ok (.new 40, 3) := by decide +kernel
theorem dX11_init_86 : decode cX11_init 86 = .ok (.dup, 1) := by decide +kernel
theorem dX11_init_87 : decode cX11_init 87 = .ok (.invokespecial 42, 3) := by decide +kernel
theorem dX11_init_90 : decode cX11_init 90 = .ok (.putfield 43, 3) := by decide +kernel
theorem dX11_init_93 : decode cX11_init 93 = .ok (.aload_n 0, 1) := by decide +kernel
theorem dX11_init_94 : decode cX11_init 94 = .ok (.new 47, 3) := by decide +kernel
theorem dX11_init_97 : decode cX11_init 97 = .ok (.dup, 1) := by decide +kernel
theorem dX11_init_98 : decode cX11_init 98 = .ok (.aload_n 0, 1) := by decide +kernel
theorem dX11_init_99 : decode cX11_init 99 = .ok (.getfield 25, 3) := by decide +kernel
theorem dX11_init_102 : decode cX11_init 102 = .ok (.iconst 0, 1) := by decide +kernel
theorem dX11_init_103 : decode cX11_init 103 = .ok (.aaload, 1) := by decide +kernel
theorem dX11_init_104 : decode cX11_init 104 = .ok (.aload_n 0, 1) := by decide +kernel
theorem dX11_init_105 : decode cX11_init 105 = .ok (.getfield 43, 3) := by decide +kernel
theorem dX11_init_108 : decode cX11_init 108 = .ok (.invokespecial 49, 3) := by decide +kernel
theorem dX11_init_111 : decode cX11_init 111 = .ok (.putfield 52, 3) := by decide +kernel
theorem dX11_init_114 : decode cX11_init 114 = .ok (.aload_n 0, 1) := by decide +kernel
theorem dX11_init_115 : decode cX11_init 115 = .ok (.new 30, 3) := by decide +kernel
theorem dX11_init_118 : decode cX11_init 118 = .ok (.dup, 1) := by decide +kernel
theorem dX11_init_119 : decode cX11_init 119 = .ok (.invokespecial 32, 3) := by decide +kernel
theorem dX11_init_122 : decode cX11_init 122 = .ok (.putfield 56, 3) := by decide +kernel
theorem dX11_init_125 : decode cX11_init 125 = .ok (.aload_n 0, 1) := by decide +kernel
theorem dX11_init_126 : decode cX11_init 126 = .ok (.new 59, 3) := by decide +kernel
theorem dX11_init_129 : decode cX11_init 129 = .ok (.dup, 1) := by decide +kernel
theorem dX11_init_130 : decode cX11_init 130 = .ok (.invokespecial 61, 3) := by decide +kernel
theorem dX11_init_133 : decode cX11_init 133 = .ok (.putfield 62, 3) := by decide +kernel
theorem dX11_init_136 : decode cX11_init 136 = .ok (.aload_n 0, 1) := by decide +kernel
theorem dX11_init_137 : decode cX11_init 137 = .ok (.bipush 6, 2) := by decide +kernel
theorem dX11_init_139 : decode cX11_init 139 = .ok (.anewarray 59, 3) := by decide +kernel
theorem dX11_init_142 : decode cX11_init 142 = .ok (.putfield 66, 3) := by decide +kernel
theorem dX11_init_145 : decode cX11_init 145 = .ok (.iconst 0, 1) := by decide +kernel
theorem dX11_init_146 : decode cX11_init 146 = .ok (.istore_n 1, 1) := by decide +kernel
theorem dX11_init_147 : decode cX11_init 147 = .ok (.iload_n 1, 1) := by decide +kernel
theorem dX11_init_148 : decode cX11_init 148 = .ok (.iconst 5, 1) := by decide +kernel
theorem dX11_init_149 : decode cX11_init 149 = .ok (.if_icmp .gt 22, 3) := by decide +kernel
theorem dX11_init_152 : decode cX11_init 152 = .ok (.aload_n 0, 1) := by decide +kernel
theorem dX11_init_153 : decode cX11_init 153 = .ok (.getfield 66, 3) := by decide +kernel
theorem dX11_init_156 : decode cX11_init 156 = .ok (.iload_n 1, 1) := by decide +kernel
theorem dX11_init_157 : decode cX11_init 157 = .ok (.new 59, 3) := by decide +kernel
theorem dX11_init_160 : decode cX11_init 160 = .ok (.dup, 1) := by decide +kernel
theorem dX11_init_161 : decode cX11_init 161 = .ok (.invokespecial 61, 3) := by decide +kernel
theorem dX11_init_164 : decode cX11_init 164 = .ok (.aastore, 1) := by decide +kernel
theorem dX11_init_165 : decode cX11_init 165 = .ok (.iinc 1 1, 3) := by decide +kernel
theorem dX11_init_168 : decode cX11_init 168 = .ok (.goto (-21), 3) := by decide +kernel
theorem dX11_init_171 : decode cX11_init 171 = .ok (.return_, 1) := by decide +kernel
theorem dX12_init_0 : decode cX12_init 0 = .ok (.aload_n 0, 1) := by decide +kernel
theorem dX12_init_1 : decode cX12_init 1 = .ok (.invokespecial 7, 3) := by decide +kernel
theorem dX12_init_4 : decode cX12_init 4 = .ok (.aload_n 0, 1) := by decide +kernel
theorem dX12_init_5 : decode cX12_init 5 = .ok (.sipush 188, 3) := by decide +kernel
theorem dX12_init_8 : decode cX12_init 8 = .ok (.newarray .int, 2) := by decide +kernel
theorem dX12_init_10 : decode cX12_init 10 = .ok (.putfield 13, 3) := by decide +kernel
theorem dX12_init_13 : decode cX12_init 13 = .ok (.aload_n 0, 1) := by decide +kernel
theorem dX12_init_14 : decode cX12_init 14 = .ok (.bipush 94, 2) := by decide +kernel
theorem dX12_init_16 : decode cX12_init 16 = .ok (.newarray .int, 2) := by decide +kernel
theorem dX12_init_18 : decode cX12_init 18 = .ok (.putfield 17, 3) := by decide +kernel
theorem dX12_init_21 : decode cX12_init 21 = .ok (.aload_n 0, 1) := by decide +kernel
theorem dX12_init_22 : decode cX12_init 22 = .ok (.sipush 500, 3) := by decide +kernel
theorem dX12_init_25 : decode cX12_init 25 = .ok (.newarray .byte, 2) := by decide +kernel
theorem dX12_init_27 : decode cX12_init 27 = .ok (.putfield 20, 3) := by decide +kernel
theorem dX12_init_30 : decode cX12_init 30 = .ok (.aload_n 0, 1) := by decide +kernel
theorem dX12_init_31 : decode cX12_init 31 = .ok (.iconst (-1), 1) := by decide +kernel
theorem dX12_init_32 : decode cX12_init 32 = .ok (.putfield 24, 3) := by decide +kernel
theorem dX12_init_35 : decode cX12_init 35 = .ok (.aload_n 0, 1) := by decide +kernel
theorem dX12_init_36 : decode cX12_init 36 = .ok (.bipush 12, 2) := by decide +kernel
theorem dX12_init_38 : decode cX12_init 38 = .ok (.newarray .int, 2) := by decide +kernel
theorem dX12_init_40 : decode cX12_init 40 = .ok (.putfield 27, 3) := by decide +kernel
theorem dX12_init_43 : decode cX12_init 43 = .ok (.aload_n 0, 1) := by decide +kernel
theorem dX12_init_44 : decode cX12_init 44 = .ok (.bipush 12, 2) := by decide +kernel
theorem dX12_init_46 : decode cX12_init 46 = .ok (.newarray .int, 2) := by decide +kernel
theorem dX12_init_48 : decode cX12_init 48 = .ok (.putfield 30, 3) := by decide +kernel
theorem dX12_init_51 : decode cX12_init 51 = .ok (.aload_n 0, 1) := by decide +kernel
theorem dX12_init_52 : decode cX12_init 52 = .ok (.bipush 12, 2) := by decide +kernel
theorem dX12_init_54 : decode cX12_init 54 = .ok (.newarray .int, 2) := by decide +kernel
theorem dX12_init_56 : decode cX12_init 56 = .ok (.putfield 33, 3) := by decide +kernel
theorem dX12_init_59 : decode cX12_init 59 = .ok (.aload_n 0, 1) := by decide +kernel
theorem dX12_init_60 : decode cX12_init 60 = .ok (.bipush 12, 2) := by decide +kernel
theorem dX12_init_62 : decode cX12_init 62 = .ok (.newarray .int, 2) := by decide +kernel
theorem dX12_init_64 : decode cX12_init 64 = .ok (.putfield 36, 3) := by decide +kernel
theorem dX12_init_67 : decode cX12_init 67 = .ok (.aload_n 0, 1) := by decide +kernel
theorem dX12_init_68 : decode cX12_init 68 = .ok (.bipush 10, 2) := by decide +kernel
theorem dX12_init_70 : decode cX12_init 70 = .ok (.newarray .int, 2) := by decide +kernel
theorem dX12_init_72 : decode cX12_init 72 = .ok (.putfield 39, 3) := by decide +kernel
theorem dX12_init_75 : decode cX12_init 75 = .ok (.aload_n 0, 1) := by decide +kernel
theorem dX12_init_76 : decode cX12_init 76 = .ok (.bipush 60, 2) := by decide +kernel
theorem dX12_init_78 : decode cX12_init 78 = .ok (.newarray .int, 2) := by decide +kernel
theorem dX12_init_80 : decode cX12_init 80 = .ok (.putfield 42, 3) := by decide +kernel
theorem dX12_init_83 : decode cX12_init 83 = .ok (.aload_n 0, 1) := by decide +kernel
theorem dX12_init_84 : decode cX12_init 84 = .ok (.bipush 60, 2) := by decide +kernel
theorem dX12_init_86 : decode cX12_init 86 = .ok (.newarray .int, 2) := by decide +kernel
theorem dX12_init_88 : decode cX12_init 88 = .ok (.putfield 45, 3) := by decide +kernel
theorem dX12_init_91 : decode cX12_init 91 = .ok (.aload_n 0, 1) := by decide +kernel
theorem dX12_init_92 : decode cX12_init 92 = .ok (.bipush 10, 2) := by decide +kernel
theorem dX12_init_94 : decode cX12_init 94 = .ok (.newarray .int, 2) := by decide +kernel
theorem dX12_init_96 : decode cX12_init 96 = .ok (.putfield 48, 3) := by decide +kernel
theorem dX12_init_99 : decode cX12_init 99 = .ok (.aload_n 0, 1) := by decide +kernel
theorem dX12_init_100 : decode cX12_init 100 = .ok (.bipush 60, 2) := by decide +kernel
theorem dX12_init_102 : decode cX12_init 102 = .ok (.newarray .int, 2) := by decide +kernel
theorem dX12_init_104 : decode cX12_init 104 = .ok (.putfield 51, 3) := by decide +kernel
theorem dX12_init_107 : decode cX12_init 107 = .ok (.aload_n 0, 1) := by decide +kernel
theorem dX12_init_108 : decode cX12_init 108 = .ok (.bipush 60, 2) := by decide +kernel
theorem dX12_init_110 : decode cX12_init 110 = .ok (.newarray .int, 2) := by decide +kernel
theorem dX12_init_112 : decode cX12_init 112 = .ok (.putfield 54, 3) := by decide +kernel
theorem dX12_init_115 : decode cX12_init 115 = .ok (.aload_n 0, 1) := by decide +kernel
theorem dX12_init_116 : decode cX12_init 116 = .ok (.bipush 10, 2) := by decide +kernel
theorem dX12_init_118 : decode cX12_init 118 = .ok (.newarray .int, 2) := by decide +kernel
theorem dX12_init_120 : decode cX12_init 120 = .ok (.putfield 57, 3) := by decide +kernel
theorem dX12_init_123 : decode cX12_init 123 = .ok (.aload_n 0, 1) := by decide +kernel
theorem dX12_init_124 : decode cX12_init 124 = .ok (.bipush 10, 2) := by decide +kernel
theorem dX12_init_126 : decode cX12_init 126 = .ok (.newarray .int, 2) := by decide +kernel
theorem dX12_init_128 : decode cX12_init 128 = .ok (.putfield 60, 3) := by decide +kernel
theorem dX12_init_131 : decode cX12_init 131 = .ok (.aload_n 0, 1) := by decide +kernel
theorem dX12_init_132 : decode cX12_init 132 = .ok (.bipush 80, 2) := by decide +kernel
theorem dX12_init_134 : decode cX12_init 134 = .ok (.newarray .int, 2) := by decide +kernel
theorem dX12_init_136 : decode cX12_init 136 = .ok (.putfield 63, 3) := by decide +kernel
theorem dX12_init_139 : decode cX12_init 139 = .ok (.aload_n 0, 1) := by decide +kernel
theorem dX12_init_140 : decode cX12_init 140 = .ok (.bipush 80, 2) := by decide +kernel
theorem dX12_init_142 : decode cX12_init 142 = .ok (.newarray .int, 2) := by decide +kernel
theorem dX12_init_144 : decode cX12_init 144 = .ok (.putfield 66, 3) := by decide +kernel
theorem dX12_init_147 : decode cX12_init 147 = .ok (.aload_n 0, 1) := by decide +kernel
theorem dX12_init_148 : decode cX12_init 148 = .ok (.bipush 40, 2) := by decide +kernel
theorem dX12_init_150 : decode cX12_init 150 = .ok (.newarray .int, 2) := by decide +kernel
theorem dX12_init_152 : decode cX12_init 152 = .ok (.putfield 69, 3) := by decide +kernel
theorem dX12_init_155 : decode cX12_init 155 = .ok (.aload_n 0, 1) := by decide +kernel
theorem dX12_init_156 : decode cX12_init 156 = .ok (.bipush 40, 2) := by decide +kernel
theorem dX12_init_158 : decode cX12_init 158 = .ok (.newarray .int, 2) := by decide +kernel
theorem dX12_init_160 : decode cX12_init 160 = .ok (.putfield 72, 3) := by decide +kernel
theorem dX12_init_163 : decode cX12_init 163 = .ok (.aload_n 0, 1) := by decide +kernel
theorem dX12_init_164 : decode cX12_init 164 = .ok (.iconst 3, 1) := by decide +kernel
theorem dX12_init_165 : decode cX12_init 165 = .ok (.newarray .int, 2) := by decide +kernel
theorem dX12_init_167 : decode cX12_init 167 = .ok (.putfield 75, 3) := by decide +kernel
theorem dX12_init_170 : decode cX12_init 170 = .ok (.aload_n 0, 1) := by decide +kernel
theorem dX12_init_171 : decode cX12_init 171 = .ok (.iconst 3, 1) := by decide +kernel
theorem dX12_init_172 : decode cX12_init 172 = .ok (.newarray .int, 2) := by decide +kernel
theorem dX12_init_174 : decode cX12_init 174 = .ok (.putfield 78, 3) := by decide +kernel
theorem dX12_init_177 : decode cX12_init 177 = .ok (.aload_n 0, 1) := by decide +kernel
theorem dX12_init_178 : decode cX12_init 178 = .ok (.iconst 3, 1) := by decide +kernel
theorem dX12_init_179 : decode cX12_init 179 = .ok (.newarray .int, 2) := by decide +kernel
theorem dX12_init_181 : decode cX12_init 181 = .ok (.putfield 81, 3) := by decide +kernel
theorem dX12_init_184 : decode cX12_init 184 = .ok (.aload_n 0, 1) := by decide +kernel
theorem dX12_init_185 : decode cX12_init 185 = .ok (.bipush 40, 2) := by decide +kernel
theorem dX12_init_187 : decode cX12_init 187 = .ok (.newarray .int, 2) := by decide +kernel
theorem dX12_init_189 : decode cX12_init 189 = .ok (.putfield 84, 3) := by decide +kernel
theorem dX12_init_192 : decode cX12_init 192 = .ok (.aload_n 0, 1) := by decide +kernel
theorem dX12_init_193 : decode cX12_init 193 = .ok (.bipush 40, 2) := by decide +kernel
theorem dX12_init_195 : decode cX12_init 195 = .ok (.newarray .int, 2) := by decide +kernel
theorem dX12_init_197 : decode cX12_init 197 = .ok (.putfield 87, 3) := by decide +kernel
theorem dX12_init_200 : decode cX12_init 200 = .ok (.aload_n 0, 1) := by decide +kernel
theorem dX12_init_201 : decode cX12_init 201 = .ok (.bipush 80, 2) := by decide +kernel
theorem dX12_init_203 : decode cX12_init 203 = .ok (.newarray .int, 2) := by decide +kernel
theorem dX12_init_205 : decode cX12_init 205 = .ok (.putfield 90, 3) := by decide +kernel
theorem dX12_init_208 : decode cX12_init 208 = .ok (.aload_n 0, 1) := by decide +kernel
theorem dX12_init_209 : decode cX12_init 209 = .ok (.bipush 80, 2) := by decide +kernel
theorem dX12_init_211 : decode cX12_init 211 = .ok (.newarray .int, 2) := by decide +kernel
theorem dX12_init_213 : decode cX12_init 213 = .ok (.putfield 93, 3) := by decide +kernel
theorem dX12_init_216 : decode cX12_init 216 = .ok (.aload_n 0, 1) := by decide +kernel
theorem dX12_init_217 : decode cX12_init 217 = .ok (.bipush 20, 2) := by decide +kernel
theorem dX12_init_219 : decode cX12_init 219 = .ok (.newarray .int, 2) := by decide +kernel
theorem dX12_init_221 : decode cX12_init 221 = .ok (.putfield 96, 3) := by decide +kernel
theorem dX12_init_224 : decode cX12_init 224 = .ok (.aload_n 0, 1) := by decide +kernel
theorem dX12_init_225 : decode cX12_init 225 = .ok (.bipush 20, 2) := by decide +kernel
theorem dX12_init_227 : decode cX12_init 227 = .ok (.newarray .int, 2) := by decide +kernel
theorem dX12_init_229 : decode cX12_init 229 = .ok (.putfield 99, 3) := by decide +kernel
theorem dX12_init_232 : decode cX12_init 232 = .ok (.aload_n 0, 1) := by decide +kernel
theorem dX12_init_233 : decode cX12_init 233 = .ok (.sipush 3500, 3) := by decide +kernel
theorem dX12_init_236 : decode cX12_init 236 = .ok (.newarray .int, 2) := by decide +kernel
theorem dX12_init_238 : decode cX12_init 238 = .ok (.putfield 102, 3) := by decide +kernel
theorem dX12_init_241 : decode cX12_init 241 = .ok (.aload_n 0, 1) := by decide +kernel
theorem dX12_init_242 : decode cX12_init 242 = .ok (.sipush 3500, 3) := by decide +kernel
theorem dX12_init_245 : decode cX12_init 245 = .ok (.newarray .int, 2) := by decide +kernel
theorem dX12_init_247 : decode cX12_init 247 = .ok (.putfield 105, 3) := by decide +kernel
theorem dX12_init_250 : decode cX12_init 250 = .ok (.aload_n 0, 1) := by decide +kernel
theorem dX12_init_251 : decode cX12_init 251 = .ok (.sipush 3500, 3) := by decide +kernel
theorem dX12_init_254 : decode cX12_init 254 = .ok (.newarray .int, 2) := by decide +kernel
theorem dX12_init_256 : decode cX12_init 256 = .ok (.putfield 108, 3) := by decide +kernel
theorem dX12_init_259 : decode cX12_init 259 = .ok (.aload_n 0, 1) := by decide +kernel
theorem dX12_init_260 : decode cX12_init 260 = .ok (.sipush 3500, 3) := by decide +kernel
theorem dX12_init_263 : decode cX12_init 263 = .ok (.newarray .int, 2) := by decide +kernel
theorem dX12_init_265 : decode cX12_init 265 = .ok (.putfield 111, 3) := by decide +kernel
theorem dX12_init_268 : decode cX12_init 268 = .ok (.aload_n 0, 1) := by decide +kernel
theorem dX12_init_269 : decode cX12_init 269 = .ok (.sipush 3500, 3) := by decide +kernel
theorem dX12_init_272 : decode cX12_init 272 = .ok (.newarray .int, 2) := by decide +kernel
theorem dX12_init_274 : decode cX12_init 274 = .ok (.putfield 114, 3) := by decide +kernel
theorem dX12_init_277 : decode cX12_init 277 = .ok (.aload_n 0, 1) := by decide +kernel
theorem dX12_init_278 : decode cX12_init 278 = .ok (.sipush 21000, 3) := by decide +kernel
theorem dX12_init_281 : decode cX12_init 281 = .ok (.newarray .int, 2) := by decide +kernel
theorem dX12_init_283 : decode cX12_init 283 = .ok (.putfield 117, 3) := by decide +kernel
theorem dX12_init_286 : decode cX12_init 286 = .ok (.aload_n 0, 1) := by decide +kernel
theorem dX12_init_287 : decode cX12_init 287 = .ok (.iconst 4, 1) := by decide +kernel
theorem dX12_init_288 : decode cX12_init 288 = .ok (.newarray .int, 2) := by decide +kernel
theorem dX12_init_290 : decode cX12_init 290 = .ok (.putfield 120, 3) := by decide +kernel
theorem dX12_init_293 : decode cX12_init 293 = .ok (.aload_n 0, 1) := by decide +kernel
theorem dX12_init_294 : decode cX12_init 294 = .ok (.ldc 123, 2) := by decide +kernel
theorem dX12_init_296 : decode cX12_init 296 = .ok (.newarray .boolean, 2) := by decide +kernel
theorem dX12_init_298 : decode cX12_init 298 = .ok (.putfield 124, 3) := by decide +kernel
theorem dX12_init_301 : decode cX12_init 301 = .ok (.aload_n 0, 1) := by decide +kernel
theorem dX12_init_302 : decode cX12_init 302 = .ok (.getfield 17, 3) := by decide +kernel
theorem dX12_init_305 : decode cX12_init 305 = .ok (.invokestatic 128, 3) := by decide +kernel
theorem dX12_init_308 : decode cX12_init 308 = .ok (.iconst 0, 1) := by decide +kernel
theorem dX12_init_309 : decode cX12_init 309 = .ok (.istore_n 1, 1) := by decide +kernel
theorem dX12_init_310 : decode cX12_init 310 = .ok (.iload_n 1, 1) := by decide +kernel
theorem dX12_init_311 : decode cX12_init 311 = .ok (.iconst 2, 1) := by decide +kernel
theorem dX12_init_312 : decode cX12_init 312 = .ok (.if_icmp .ge 40, 3) := by decide +kernel
theorem dX12_init_315 : decode cX12_init 315 = .ok (.iconst 0, 1) := by decide +kernel
theorem dX12_init_316 : decode cX12_init 316 = .ok (.istore_n 2, 1) := by decide +kernel
theorem dX12_init_317 : decode cX12_init 317 = .ok (.iload_n 2, 1) := by decide +kernel
theorem dX12_init_318 : decode cX12_init 318 = .ok (.bipush 94, 2) := by decide +kernel
theorem dX12_init_320 : decode cX12_init 320 = .ok (.if_icmp .ge 26, 3) := by decide +kernel
theorem dX12_init_323 : decode cX12_init 323 = .ok (.aload_n 0, 1) := by decide +kernel
theorem dX12_init_324 : decode cX12_init 324 = .ok (.getfield 13, 3) := by decide +kernel
theorem dX12_init_327 : decode cX12_init 327 = .ok (.bipush 94, 2) := by decide +kernel
theorem dX12_init_329 : decode cX12_init 329 = .ok (.iload_n 1, 1) := by decide +kernel
theorem dX12_init_330 : decode cX12_init 330 = .ok (.imul, 1) := by decide +kernel
theorem dX12_init_331 : decode cX12_init 331 = .ok (.iload_n 2, 1) := by decide +kernel
theorem dX12_init_332 : decode cX12_init 332 = .ok (.iadd, 1) := by decide +kernel
theorem dX12_init_333 : decode cX12_init 333 = .ok (.aload_n 0, 1) := by decide +kernel
theorem dX12_init_334 : decode cX12_init 334 = .ok (.getfield 17, 3) := by decide +kernel
theorem dX12_init_337 : decode cX12_init 337 = .ok (.iload_n 2, 1) := by decide +kernel
theorem dX12_init_338 : decode cX12_init 338 = .ok (.iaload, 1) := by decide +kernel
theorem dX12_init_339 : decode cX12_init 339 = .ok (.iastore, 1) := by decide +kernel
theorem dX12_init_340 : decode cX12_init 340 = .ok (.iinc 2 1, 3) := by decide +kernel
theorem dX12_init_343 : decode cX12_init 343 = .ok (.goto (-26), 3) := by decide +kernel
theorem dX12_init_346 : decode cX12_init 346 = .ok (.iinc 1 1, 3) := by decide +kernel
theorem dX12_init_349 : decode cX12_init 349 = .ok (.goto (-39), 3) := by decide +kernel
theorem dX12_init_352 : decode cX12_init 352 = .ok (.aload_n 0, 1) := by decide +kernel
theorem dX12_init_353 : decode cX12_init 353 = .ok (.invokevirtual 132, 3) := by decide +kernel
theorem dX12_init_356 : decode cX12_init 356 = .ok (.return_, 1) := by decide +kernel
def bC {α : Type} (x : Option (List Sh × Dm)) (f : List Sh → Dm → Option α) : Option α := match x with
  | none => none
  | some y => f y.1 y.2
theorem bC_some {α : Type} {x : Option (List Sh × Dm)} {f : List Sh → Dm → Option α} {o : α} (h : bC x f = some o) : ∃ L D, x = some (L, D) ∧ f L D = some o := by
  cases x with
  | none => cases h
  | some y => exact ⟨y.1, y.2, rfl, h⟩
theorem ret_c {a L' : List Sh} {b D' : Dm} (h : some (a, b) = some (L', D')) : L' = a ∧ D' = b := by cases h; exact ⟨rfl, rfl⟩
theorem mi_X11_29 : MLI RX11 29 yX4_init cX4_init 1 0 := ⟨ww_144, ww_77, ww_5, ww_78, rfl, ⟨⟨by decide +kernel, by decide +kernel, by decide +kernel⟩, by decide⟩⟩
theorem mi_X11_49 : MLI RX11 49 yX3_init cX3_init 4 2 := ⟨ww_262, ww_263, ww_10, ww_264, rfl, ⟨⟨by decide +kernel, by decide +kernel, by decide +kernel⟩, by decide⟩⟩
theorem mi_X3_66 : MLI RX3 66 yX0_init cX0_init 3 1 := ⟨ww_342, ww_343, ww_13, ww_344, rfl, ⟨⟨by decide +kernel, by decide +kernel, by decide +kernel⟩, by decide⟩⟩
theorem mi_X5_11 : MLI RX5 11 yX4_init cX4_init 1 0 := ⟨ww_76, ww_77, ww_5, ww_78, rfl, ⟨⟨by decide +kernel, by decide +kernel, by decide +kernel⟩, by decide⟩⟩
theorem mn_X0_26 : MLN RX0 26 yX1_init cX1_init 1 0 := ⟨by decide, ww_193, ww_9, ww_194, rfl, ⟨⟨by decide +kernel, by decide +kernel, by decide +kernel⟩, by decide⟩⟩
theorem mn_X0_35 : MLN RX0 35 yX10_init cX10_init 1 0 := ⟨by decide, ww_148, ww_7, ww_149, rfl, ⟨⟨by decide +kernel, by decide +kernel, by decide +kernel⟩, by decide⟩⟩
theorem mn_X11_9 : MLN RX11 9 yX7_init cX7_init 1 0 := ⟨by decide, ww_33, ww_2, ww_34, rfl, ⟨⟨by decide +kernel, by decide +kernel, by decide +kernel⟩, by decide⟩⟩
theorem mn_X11_18 : MLN RX11 18 yX5_init cX5_init 1 0 := ⟨by decide, ww_71, ww_3, ww_72, rfl, ⟨⟨by decide +kernel, by decide +kernel, by decide +kernel⟩, by decide⟩⟩
theorem mn_X11_32 : MLN RX11 32 yX10_init cX10_init 1 0 := ⟨by decide, ww_148, ww_7, ww_149, rfl, ⟨⟨by decide +kernel, by decide +kernel, by decide +kernel⟩, by decide⟩⟩
theorem mn_X11_42 : MLN RX11 42 yX8_init cX8_init 1 0 := ⟨by decide, ww_187, ww_8, ww_188, rfl, ⟨⟨by decide +kernel, by decide +kernel, by decide +kernel⟩, by decide⟩⟩
theorem mn_X11_61 : MLN RX11 61 yX1_init cX1_init 1 0 := ⟨by decide, ww_193, ww_9, ww_194, rfl, ⟨⟨by decide +kernel, by decide +kernel, by decide +kernel⟩, by decide⟩⟩
theorem mn_X2_3 : MLN RX2 3 yX9_init cX9_init 1 0 := ⟨by decide, ww_80, ww_4, ww_81, rfl, ⟨⟨by decide +kernel, by decide +kernel, by decide +kernel⟩, by decide⟩⟩
theorem mn_X3_23 : MLN RX3 23 yX6_init cX6_init 1 0 := ⟨by decide, ww_272, ww_11, ww_273, rfl, ⟨⟨by decide +kernel, by decide +kernel, by decide +kernel⟩, by decide⟩⟩
theorem mn_X3_30 : MLN RX3 30 yX2_init cX2_init 1 0 := ⟨by decide, ww_321, ww_12, ww_322, rfl, ⟨⟨by decide +kernel, by decide +kernel, by decide +kernel⟩, by decide⟩⟩
theorem mn_X3_35 : MLN RX3 35 yX10_init cX10_init 1 0 := ⟨by decide, ww_148, ww_7, ww_149, rfl, ⟨⟨by decide +kernel, by decide +kernel, by decide +kernel⟩, by decide⟩⟩
theorem mn_X3_48 : MLN RX3 48 yX1_init cX1_init 1 0 := ⟨by decide, ww_193, ww_9, ww_194, rfl, ⟨⟨by decide +kernel, by decide +kernel, by decide +kernel⟩, by decide⟩⟩
theorem mn_X4_3 : MLN RX4 3 yX9_init cX9_init 1 0 := ⟨by decide, ww_80, ww_4, ww_81, rfl, ⟨⟨by decide +kernel, by decide +kernel, by decide +kernel⟩, by decide⟩⟩
theorem mn_X6_11 : MLN RX6 11 yX1_init cX1_init 1 0 := ⟨by decide, ww_193, ww_9, ww_194, rfl, ⟨⟨by decide +kernel, by decide +kernel, by decide +kernel⟩, by decide⟩⟩
theorem mn_X8_32 : MLN RX8 32 yX1_init cX1_init 1 0 := ⟨by decide, ww_193, ww_9, ww_194, rfl, ⟨⟨by decide +kernel, by decide +kernel, by decide +kernel⟩, by decide⟩⟩
def fc_J7_fill_53178_5_b (k5 : Nat → Int32 → Int32 → Int32 → List Sh → Dm → Option (List Sh × Dm)) (r0 : Nat) (x1 : Int32) (x2 : Int32) (x3 : Int32) (L : List Sh) (D : Dm) : Option (List Sh × Dm) := if x3 ≤ x2 then (some (L, D)) else ((cA L r0 0).bind fun n2 => gd (inB x2 n2) (lt (ud D r0 (Int32.toNatClampNeg x2) x1) fun D5 => lt (x2 + 1) fun y7 => k5 r0 x1 y7 x3 L D5))
def fc_J7_fill_53178_5 : Nat → Nat → Int32 → Int32 → Int32 → List Sh → Dm → Option (List Sh × Dm)
  | 0, _, _, _, _, _, _ => none
  | n + 1, r0, x1, x2, x3, L, D => fc_J7_fill_53178_5_b (fc_J7_fill_53178_5 n) r0 x1 x2 x3 L D
def fc_J7_fill_53178 (r0 : Nat) (x1 : Int32) (L : List Sh) (D : Dm) : Option (List Sh × Dm) := (cA L r0 0).bind fun n1 => lt (Int32.ofNat n1) fun y3 => fc_J7_fill_53178_5 FU r0 x1 0 y3 L D
def fc_X9_init (r0 : Nat) (L : List Sh) (D : Dm) : Option (List Sh × Dm) := some (L, D)
def fc_X1_init (r0 : Nat) (L : List Sh) (D : Dm) : Option (List Sh × Dm) := lt L.length fun q1 => lt (L ++ [.inl (0, 2)]) fun L2 => lt (zr D L.length) fun D3 => (cA L2 q1 0).bind fun n7 => gd (inB 0 n7) (lt (ud D3 q1 (Int32.toNatClampNeg 0) (-1)) fun D10 => (cA L2 q1 0).bind fun n12 => gd (inB 1 n12) (lt (ud D10 q1 (Int32.toNatClampNeg 1) (-1)) fun D15 => (pR L2 r0 1 1 q1).bind fun L17 => some (L17, D15)))
def fc_X10_init (r0 : Nat) (L : List Sh) (D : Dm) : Option (List Sh × Dm) := lt L.length fun q1 => lt (L ++ [.inl (0, 20)]) fun L2 => lt (zr D L.length) fun D3 => (pR L2 r0 10 0 q1).bind fun L7 => lt L7.length fun q9 => lt (L7 ++ [.inl (0, 20)]) fun L10 => lt (zr D3 L7.length) fun D11 => (pR L10 r0 10 1 q9).bind fun L15 => lt L15.length fun q17 => lt (L15 ++ [.inl (0, 20)]) fun L18 => lt (zr D11 L15.length) fun D19 => (pR L18 r0 10 2 q17).bind fun L23 => some (L23, D19)
def fc_X4_clear (r0 : Nat) (L : List Sh) (D : Dm) : Option (List Sh × Dm) := gd (cI L r0 4 0) (lt (ud D r0 0 1) fun D2 => gd (cI L r0 4 1) (lt (ud D2 r0 1 0) fun D5 => gd (cI L r0 4 2) (lt (ud D5 r0 2 1) fun D8 => gd (cI L r0 4 3) (lt (ud D8 r0 3 0) fun D11 => (gR L r0 4 4).bind fun q13 => bC (fc_J7_fill_53178 q13 (-1) L D11) fun L15 D16 => (gR L15 r0 4 5).bind fun q18 => bC (fc_J7_fill_53178 q18 (-1) L15 D16) fun L20 D21 => (gR L20 r0 4 6).bind fun q23 => bC (fc_J7_fill_53178 q23 (-1) L20 D21) fun L25 D26 => some (L25, D26)))))
def fc_X4_init (r0 : Nat) (L : List Sh) (D : Dm) : Option (List Sh × Dm) := bC (fc_X9_init r0 L D) fun L1 D2 => lt L1.length fun q4 => lt (L1 ++ [.inl (0, 30)]) fun L5 => lt (zr D2 L1.length) fun D6 => (pR L5 r0 4 4 q4).bind fun L10 => lt L10.length fun q12 => lt (L10 ++ [.inl (0, 30)]) fun L13 => lt (zr D6 L10.length) fun D14 => (pR L13 r0 4 5 q12).bind fun L18 => lt L18.length fun q20 => lt (L18 ++ [.inl (0, 30)]) fun L21 => lt (zr D14 L18.length) fun D22 => (pR L21 r0 4 6 q20).bind fun L26 => gd (cS L26 r0 4) (bC (fc_X4_clear r0 L26 D22) fun L28 D29 => some (L28, D29))
def fc_X6_init (r0 : Nat) (L : List Sh) (D : Dm) : Option (List Sh × Dm) := lt L.length fun q1 => lt (L ++ [.inr (.inr (1, [none, some none]))]) fun L2 => lt (zr D L.length) fun D3 => bC (fc_X1_init q1 L2 D3) fun L7 D8 => (pR L7 r0 6 0 q1).bind fun L10 => lt L10.length fun q12 => lt (L10 ++ [.inl (0, 2)]) fun L13 => lt (zr D8 L10.length) fun D14 => (pR L13 r0 6 1 q12).bind fun L18 => lt L18.length fun q20 => lt (L18 ++ [.inl (0, 2)]) fun L21 => lt (zr D14 L18.length) fun D22 => (pR L21 r0 6 3 q20).bind fun L26 => lt L26.length fun q28 => lt (L26 ++ [.inl (0, 2)]) fun L29 => lt (zr D22 L26.length) fun D30 => (pR L29 r0 6 4 q28).bind fun L34 => lt L34.length fun q36 => lt (L34 ++ [.inl (0, 2)]) fun L37 => lt (zr D30 L34.length) fun D38 => (pR L37 r0 6 5 q36).bind fun L42 => lt L42.length fun q44 => lt (L42 ++ [.inl (0, 2)]) fun L45 => lt (zr D38 L42.length) fun D46 => (pR L45 r0 6 7 q44).bind fun L50 => lt L50.length fun q52 => lt (L50 ++ [.inl (0, 10)]) fun L53 => lt (zr D46 L50.length) fun D54 => (pR L53 r0 6 8 q52).bind fun L58 => lt L58.length fun q60 => lt (L58 ++ [.inl (0, 10)]) fun L61 => lt (zr D54 L58.length) fun D62 => (pR L61 r0 6 9 q60).bind fun L66 => some (L66, D62)
def fc_X2_init (r0 : Nat) (L : List Sh) (D : Dm) : Option (List Sh × Dm) := bC (fc_X9_init r0 L D) fun L1 D2 => lt L1.length fun q4 => lt (L1 ++ [.inl (0, 60)]) fun L5 => lt (zr D2 L1.length) fun D6 => (pR L5 r0 2 0 q4).bind fun L10 => lt L10.length fun q12 => lt (L10 ++ [.inl (0, 60)]) fun L13 => lt (zr D6 L10.length) fun D14 => (pR L13 r0 2 1 q12).bind fun L18 => lt L18.length fun q20 => lt (L18 ++ [.inl (0, 60)]) fun L21 => lt (zr D14 L18.length) fun D22 => (pR L21 r0 2 2 q20).bind fun L26 => some (L26, D22)
def fc_X7_init (r0 : Nat) (L : List Sh) (D : Dm) : Option (List Sh × Dm) := lt L.length fun q1 => lt (L ++ [.inl (0, 500)]) fun L2 => lt (zr D L.length) fun D3 => (pR L2 r0 7 0 q1).bind fun L7 => gd (cI L7 r0 7 7) (lt (ud D3 r0 7 (-1)) fun D10 => some (L7, D10))
def fc_X5_init (r0 : Nat) (L : List Sh) (D : Dm) : Option (List Sh × Dm) := lt L.length fun q1 => lt (L ++ [.inr (.inr (4, [none, none, none, none, some none, some none, some none]))]) fun L2 => lt (zr D L.length) fun D3 => bC (fc_X4_init q1 L2 D3) fun L7 D8 => (pR L7 r0 5 0 q1).bind fun L10 => some (L10, D8)
def fc_X8_init (r0 : Nat) (L : List Sh) (D : Dm) : Option (List Sh × Dm) := lt L.length fun q1 => lt (L ++ [.inl (0, 1290)]) fun L2 => lt (zr D L.length) fun D3 => (pR L2 r0 8 0 q1).bind fun L7 => lt L7.length fun q9 => lt (L7 ++ [.inl (0, 1351)]) fun L10 => lt (zr D3 L7.length) fun D11 => (pR L10 r0 8 1 q9).bind fun L15 => lt L15.length fun q17 => lt (L15 ++ [.inl (0, 1351)]) fun L18 => lt (zr D11 L15.length) fun D19 => (pR L18 r0 8 2 q17).bind fun L23 => lt L23.length fun q25 => lt (L23 ++ [.inl (0, 1351)]) fun L26 => lt (zr D19 L23.length) fun D27 => (pR L26 r0 8 3 q25).bind fun L31 => lt L31.length fun q33 => lt (L31 ++ [.inl (0, 1351)]) fun L34 => lt (zr D27 L31.length) fun D35 => (pR L34 r0 8 4 q33).bind fun L39 => lt L39.length fun q41 => lt (L39 ++ [.inl (0, 1351)]) fun L42 => lt (zr D35 L39.length) fun D43 => (pR L42 r0 8 5 q41).bind fun L47 => lt L47.length fun q49 => lt (L47 ++ [.inr (.inr (1, [none, some none]))]) fun L50 => lt (zr D43 L47.length) fun D51 => bC (fc_X1_init q49 L50 D51) fun L55 D56 => (pR L55 r0 8 6 q49).bind fun L58 => lt L58.length fun q60 => lt (L58 ++ [.inr (.inr (1, [none, some none]))]) fun L61 => lt (zr D56 L58.length) fun D62 => bC (fc_X1_init q60 L61 D62) fun L66 D67 => (pR L66 r0 8 7 q60).bind fun L69 => lt L69.length fun q71 => lt (L69 ++ [.inr (.inr (1, [none, some none]))]) fun L72 => lt (zr D67 L69.length) fun D73 => bC (fc_X1_init q71 L72 D73) fun L77 D78 => (pR L77 r0 8 8 q71).bind fun L80 => lt L80.length fun q82 => lt (L80 ++ [.inr (.inr (1, [none, some none]))]) fun L83 => lt (zr D78 L80.length) fun D84 => bC (fc_X1_init q82 L83 D84) fun L88 D89 => (pR L88 r0 8 9 q82).bind fun L91 => lt L91.length fun q93 => lt (L91 ++ [.inl (0, 4)]) fun L94 => lt (zr D89 L91.length) fun D95 => (pR L94 r0 8 10 q93).bind fun L99 => lt L99.length fun q101 => lt (L99 ++ [.inl (0, 5)]) fun L102 => lt (zr D95 L99.length) fun D103 => (pR L102 r0 8 11 q101).bind fun L107 => lt L107.length fun q109 => lt (L107 ++ [.inl (0, 20)]) fun L110 => lt (zr D103 L107.length) fun D111 => (pR L110 r0 8 12 q109).bind fun L115 => some (L115, D111)
def fc_X0_init (r0 : Nat) (r1 : Nat) (L : List Sh) (D : Dm) : Option (List Sh × Dm) := lt L.length fun q1 => lt (L ++ [.inr (.inl (5, List.replicate 10 none))]) fun L2 => lt (zr D L.length) fun D3 => (pR L2 r0 0 1 q1).bind fun L7 => lt L7.length fun q9 => lt (L7 ++ [.inl (0, 3)]) fun L10 => lt (zr D3 L7.length) fun D11 => (pR L10 r0 0 3 q9).bind fun L15 => lt L15.length fun q17 => lt (L15 ++ [.inl (0, 3)]) fun L18 => lt (zr D11 L15.length) fun D19 => (pR L18 r0 0 4 q17).bind fun L23 => lt L23.length fun q25 => lt (L23 ++ [.inr (.inr (1, [none, some none]))]) fun L26 => lt (zr D19 L23.length) fun D27 => bC (fc_X1_init q25 L26 D27) fun L31 D32 => (pR L31 r0 0 5 q25).bind fun L34 => (pR L34 r0 0 0 r1).bind fun L36 => (gR L36 r0 0 1).bind fun q38 => lt L36.length fun q40 => lt (L36 ++ [.inr (.inr (10, [some none, some none, some none, none, none]))]) fun L41 => lt (zr D32 L36.length) fun D42 => bC (fc_X10_init q40 L41 D42) fun L46 D47 => gd (cS L46 q40 10) ((pA L46 q38 5 (Int32.toNatClampNeg 0) q40).bind fun L50 => (gR L50 r0 0 1).bind fun q52 => lt L50.length fun q54 => lt (L50 ++ [.inr (.inr (10, [some none, some none, some none, none, none]))]) fun L55 => lt (zr D47 L50.length) fun D56 => bC (fc_X10_init q54 L55 D56) fun L60 D61 => gd (cS L60 q54 10) ((pA L60 q52 5 (Int32.toNatClampNeg 1) q54).bind fun L64 => (gR L64 r0 0 1).bind fun q66 => lt L64.length fun q68 => lt (L64 ++ [.inr (.inr (10, [some none, some none, some none, none, none]))]) fun L69 => lt (zr D61 L64.length) fun D70 => bC (fc_X10_init q68 L69 D70) fun L74 D75 => gd (cS L74 q68 10) ((pA L74 q66 5 (Int32.toNatClampNeg 2) q68).bind fun L78 => (gR L78 r0 0 1).bind fun q80 => lt L78.length fun q82 => lt (L78 ++ [.inr (.inr (10, [some none, some none, some none, none, none]))]) fun L83 => lt (zr D75 L78.length) fun D84 => bC (fc_X10_init q82 L83 D84) fun L88 D89 => gd (cS L88 q82 10) ((pA L88 q80 5 (Int32.toNatClampNeg 3) q82).bind fun L92 => (gR L92 r0 0 1).bind fun q94 => lt L92.length fun q96 => lt (L92 ++ [.inr (.inr (10, [some none, some none, some none, none, none]))]) fun L97 => lt (zr D89 L92.length) fun D98 => bC (fc_X10_init q96 L97 D98) fun L102 D103 => gd (cS L102 q96 10) ((pA L102 q94 5 (Int32.toNatClampNeg 4) q96).bind fun L106 => (gR L106 r0 0 1).bind fun q108 => lt L106.length fun q110 => lt (L106 ++ [.inr (.inr (10, [some none, some none, some none, none, none]))]) fun L111 => lt (zr D103 L106.length) fun D112 => bC (fc_X10_init q110 L111 D112) fun L116 D117 => gd (cS L116 q110 10) ((pA L116 q108 5 (Int32.toNatClampNeg 5) q110).bind fun L120 => (gR L120 r0 0 1).bind fun q122 => lt L120.length fun q124 => lt (L120 ++ [.inr (.inr (10, [some none, some none, some none, none, none]))]) fun L125 => lt (zr D117 L120.length) fun D126 => bC (fc_X10_init q124 L125 D126) fun L130 D131 => gd (cS L130 q124 10) ((pA L130 q122 5 (Int32.toNatClampNeg 6) q124).bind fun L134 => (gR L134 r0 0 1).bind fun q136 => lt L134.length fun q138 => lt (L134 ++ [.inr (.inr (10, [some none, some none, some none, none, none]))]) fun L139 => lt (zr D131 L134.length) fun D140 => bC (fc_X10_init q138 L139 D140) fun L144 D145 => gd (cS L144 q138 10) ((pA L144 q136 5 (Int32.toNatClampNeg 7) q138).bind fun L148 => (gR L148 r0 0 1).bind fun q150 => lt L148.length fun q152 => lt (L148 ++ [.inr (.inr (10, [some none, some none, some none, none, none]))]) fun L153 => lt (zr D145 L148.length) fun D154 => bC (fc_X10_init q152 L153 D154) fun L158 D159 => gd (cS L158 q152 10) ((pA L158 q150 5 (Int32.toNatClampNeg 8) q152).bind fun L162 => (gR L162 r0 0 1).bind fun q164 => lt L162.length fun q166 => lt (L162 ++ [.inr (.inr (10, [some none, some none, some none, none, none]))]) fun L167 => lt (zr D159 L162.length) fun D168 => bC (fc_X10_init q166 L167 D168) fun L172 D173 => gd (cS L172 q166 10) ((pA L172 q164 5 (Int32.toNatClampNeg 9) q166).bind fun L176 => some (L176, D173)))))))))))
def fc_X3_startAnew (r0 : Nat) (L : List Sh) (D : Dm) : Option (List Sh × Dm) := gd (cI L r0 3 4) (lt (ud D r0 4 1) fun D2 => (gR L r0 3 2).bind fun q4 => gd (cI L q4 0 2) (lt (ud D2 q4 2 1) fun D7 => gd (cI L r0 3 16) (lt (ud D7 r0 16 0) fun D10 => gd (cI L r0 3 17) (lt (ud D10 r0 17 0) fun D13 => some (L, D13)))))
def fc_X3_init (r0 : Nat) (r1 : Nat) (r2 : Nat) (L : List Sh) (D : Dm) : Option (List Sh × Dm) := lt L.length fun q1 => lt (L ++ [.inr (.inl (5, List.replicate 10 none))]) fun L2 => lt (zr D L.length) fun D3 => (pR L2 r0 3 3 q1).bind fun L7 => lt L7.length fun q9 => lt (L7 ++ [.inr (.inl (6, List.replicate 10 none))]) fun L10 => lt (zr D3 L7.length) fun D11 => (pR L10 r0 3 5 q9).bind fun L15 => lt L15.length fun q17 => lt (L15 ++ [.inr (.inr (6, [some none, some none, none, some none, some none, some none, none, some none, some none, some none, none]))]) fun L18 => lt (zr D11 L15.length) fun D19 => bC (fc_X6_init q17 L18 D19) fun L23 D24 => (pR L23 r0 3 6 q17).bind fun L26 => lt L26.length fun q28 => lt (L26 ++ [.inr (.inr (2, [some none, some none, some none, none]))]) fun L29 => lt (zr D24 L26.length) fun D30 => bC (fc_X2_init q28 L29 D30) fun L34 D35 => (pR L34 r0 3 7 q28).bind fun L37 => lt L37.length fun q39 => lt (L37 ++ [.inr (.inr (10, [some none, some none, some none, none, none]))]) fun L40 => lt (zr D35 L37.length) fun D41 => bC (fc_X10_init q39 L40 D41) fun L45 D46 => (pR L45 r0 3 8 q39).bind fun L48 => lt L48.length fun q50 => lt (L48 ++ [.inr (.inr (10, [some none, some none, some none, none, none]))]) fun L51 => lt (zr D46 L48.length) fun D52 => bC (fc_X10_init q50 L51 D52) fun L56 D57 => (pR L56 r0 3 9 q50).bind fun L59 => lt L59.length fun q61 => lt (L59 ++ [.inr (.inr (10, [some none, some none, some none, none, none]))]) fun L62 => lt (zr D57 L59.length) fun D63 => bC (fc_X10_init q61 L62 D63) fun L67 D68 => (pR L67 r0 3 10 q61).bind fun L70 => lt L70.length fun q72 => lt (L70 ++ [.inr (.inr (1, [none, some none]))]) fun L73 => lt (zr D68 L70.length) fun D74 => bC (fc_X1_init q72 L73 D74) fun L78 D79 => (pR L78 r0 3 11 q72).bind fun L81 => lt L81.length fun q83 => lt (L81 ++ [.inr (.inr (1, [none, some none]))]) fun L84 => lt (zr D79 L81.length) fun D85 => bC (fc_X1_init q83 L84 D85) fun L89 D90 => (pR L89 r0 3 12 q83).bind fun L92 => (pR L92 r0 3 0 r1).bind fun L94 => (pR L94 r0 3 1 r2).bind fun L96 => lt L96.length fun q98 => lt (L96 ++ [.inr (.inr (0, [some none, some none, none, some none, some none, some none]))]) fun L99 => lt (zr D90 L96.length) fun D100 => bC (fc_X0_init q98 r1 L99 D100) fun L104 D105 => (pR L104 r0 3 2 q98).bind fun L107 => (gR L107 r0 3 3).bind fun q109 => lt L107.length fun q111 => lt (L107 ++ [.inr (.inr (10, [some none, some none, some none, none, none]))]) fun L112 => lt (zr D105 L107.length) fun D113 => bC (fc_X10_init q111 L112 D113) fun L117 D118 => gd (cS L117 q111 10) ((pA L117 q109 5 (Int32.toNatClampNeg 0) q111).bind fun L121 => (gR L121 r0 3 5).bind fun q123 => lt L121.length fun q125 => lt (L121 ++ [.inr (.inr (6, [some none, some none, none, some none, some none, some none, none, some none, some none, some none, none]))]) fun L126 => lt (zr D118 L121.length) fun D127 => bC (fc_X6_init q125 L126 D127) fun L131 D132 => gd (cS L131 q125 6) ((pA L131 q123 6 (Int32.toNatClampNeg 0) q125).bind fun L135 => (gR L135 r0 3 3).bind fun q137 => lt L135.length fun q139 => lt (L135 ++ [.inr (.inr (10, [some none, some none, some none, none, none]))]) fun L140 => lt (zr D132 L135.length) fun D141 => bC (fc_X10_init q139 L140 D141) fun L145 D146 => gd (cS L145 q139 10) ((pA L145 q137 5 (Int32.toNatClampNeg 1) q139).bind fun L149 => (gR L149 r0 3 5).bind fun q151 => lt L149.length fun q153 => lt (L149 ++ [.inr (.inr (6, [some none, some none, none, some none, some none, some none, none, some none, some none, some none, none]))]) fun L154 => lt (zr D146 L149.length) fun D155 => bC (fc_X6_init q153 L154 D155) fun L159 D160 => gd (cS L159 q153 6) ((pA L159 q151 6 (Int32.toNatClampNeg 1) q153).bind fun L163 => (gR L163 r0 3 3).bind fun q165 => lt L163.length fun q167 => lt (L163 ++ [.inr (.inr (10, [some none, some none, some none, none, none]))]) fun L168 => lt (zr D160 L163.length) fun D169 => bC (fc_X10_init q167 L168 D169) fun L173 D174 => gd (cS L173 q167 10) ((pA L173 q165 5 (Int32.toNatClampNeg 2) q167).bind fun L177 => (gR L177 r0 3 5).bind fun q179 => lt L177.length fun q181 => lt (L177 ++ [.inr (.inr (6, [some none, some none, none, some none, some none, some none, none, some none, some none, some none, none]))]) fun L182 => lt (zr D174 L177.length) fun D183 => bC (fc_X6_init q181 L182 D183) fun L187 D188 => gd (cS L187 q181 6) ((pA L187 q179 6 (Int32.toNatClampNeg 2) q181).bind fun L191 => (gR L191 r0 3 3).bind fun q193 => lt L191.length fun q195 => lt (L191 ++ [.inr (.inr (10, [some none, some none, some none, none, none]))]) fun L196 => lt (zr D188 L191.length) fun D197 => bC (fc_X10_init q195 L196 D197) fun L201 D202 => gd (cS L201 q195 10) ((pA L201 q193 5 (Int32.toNatClampNeg 3) q195).bind fun L205 => (gR L205 r0 3 5).bind fun q207 => lt L205.length fun q209 => lt (L205 ++ [.inr (.inr (6, [some none, some none, none, some none, some none, some none, none, some none, some none, some none, none]))]) fun L210 => lt (zr D202 L205.length) fun D211 => bC (fc_X6_init q209 L210 D211) fun L215 D216 => gd (cS L215 q209 6) ((pA L215 q207 6 (Int32.toNatClampNeg 3) q209).bind fun L219 => (gR L219 r0 3 3).bind fun q221 => lt L219.length fun q223 => lt (L219 ++ [.inr (.inr (10, [some none, some none, some none, none, none]))]) fun L224 => lt (zr D216 L219.length) fun D225 => bC (fc_X10_init q223 L224 D225) fun L229 D230 => gd (cS L229 q223 10) ((pA L229 q221 5 (Int32.toNatClampNeg 4) q223).bind fun L233 => (gR L233 r0 3 5).bind fun q235 => lt L233.length fun q237 => lt (L233 ++ [.inr (.inr (6, [some none, some none, none, some none, some none, some none, none, some none, some none, some none, none]))]) fun L238 => lt (zr D230 L233.length) fun D239 => bC (fc_X6_init q237 L238 D239) fun L243 D244 => gd (cS L243 q237 6) ((pA L243 q235 6 (Int32.toNatClampNeg 4) q237).bind fun L247 => (gR L247 r0 3 3).bind fun q249 => lt L247.length fun q251 => lt (L247 ++ [.inr (.inr (10, [some none, some none, some none, none, none]))]) fun L252 => lt (zr D244 L247.length) fun D253 => bC (fc_X10_init q251 L252 D253) fun L257 D258 => gd (cS L257 q251 10) ((pA L257 q249 5 (Int32.toNatClampNeg 5) q251).bind fun L261 => (gR L261 r0 3 5).bind fun q263 => lt L261.length fun q265 => lt (L261 ++ [.inr (.inr (6, [some none, some none, none, some none, some none, some none, none, some none, some none, some none, none]))]) fun L266 => lt (zr D258 L261.length) fun D267 => bC (fc_X6_init q265 L266 D267) fun L271 D272 => gd (cS L271 q265 6) ((pA L271 q263 6 (Int32.toNatClampNeg 5) q265).bind fun L275 => (gR L275 r0 3 3).bind fun q277 => lt L275.length fun q279 => lt (L275 ++ [.inr (.inr (10, [some none, some none, some none, none, none]))]) fun L280 => lt (zr D272 L275.length) fun D281 => bC (fc_X10_init q279 L280 D281) fun L285 D286 => gd (cS L285 q279 10) ((pA L285 q277 5 (Int32.toNatClampNeg 6) q279).bind fun L289 => (gR L289 r0 3 5).bind fun q291 => lt L289.length fun q293 => lt (L289 ++ [.inr (.inr (6, [some none, some none, none, some none, some none, some none, none, some none, some none, some none, none]))]) fun L294 => lt (zr D286 L289.length) fun D295 => bC (fc_X6_init q293 L294 D295) fun L299 D300 => gd (cS L299 q293 6) ((pA L299 q291 6 (Int32.toNatClampNeg 6) q293).bind fun L303 => (gR L303 r0 3 3).bind fun q305 => lt L303.length fun q307 => lt (L303 ++ [.inr (.inr (10, [some none, some none, some none, none, none]))]) fun L308 => lt (zr D300 L303.length) fun D309 => bC (fc_X10_init q307 L308 D309) fun L313 D314 => gd (cS L313 q307 10) ((pA L313 q305 5 (Int32.toNatClampNeg 7) q307).bind fun L317 => (gR L317 r0 3 5).bind fun q319 => lt L317.length fun q321 => lt (L317 ++ [.inr (.inr (6, [some none, some none, none, some none, some none, some none, none, some none, some none, some none, none]))]) fun L322 => lt (zr D314 L317.length) fun D323 => bC (fc_X6_init q321 L322 D323) fun L327 D328 => gd (cS L327 q321 6) ((pA L327 q319 6 (Int32.toNatClampNeg 7) q321).bind fun L331 => (gR L331 r0 3 3).bind fun q333 => lt L331.length fun q335 => lt (L331 ++ [.inr (.inr (10, [some none, some none, some none, none, none]))]) fun L336 => lt (zr D328 L331.length) fun D337 => bC (fc_X10_init q335 L336 D337) fun L341 D342 => gd (cS L341 q335 10) ((pA L341 q333 5 (Int32.toNatClampNeg 8) q335).bind fun L345 => (gR L345 r0 3 5).bind fun q347 => lt L345.length fun q349 => lt (L345 ++ [.inr (.inr (6, [some none, some none, none, some none, some none, some none, none, some none, some none, some none, none]))]) fun L350 => lt (zr D342 L345.length) fun D351 => bC (fc_X6_init q349 L350 D351) fun L355 D356 => gd (cS L355 q349 6) ((pA L355 q347 6 (Int32.toNatClampNeg 8) q349).bind fun L359 => (gR L359 r0 3 3).bind fun q361 => lt L359.length fun q363 => lt (L359 ++ [.inr (.inr (10, [some none, some none, some none, none, none]))]) fun L364 => lt (zr D356 L359.length) fun D365 => bC (fc_X10_init q363 L364 D365) fun L369 D370 => gd (cS L369 q363 10) ((pA L369 q361 5 (Int32.toNatClampNeg 9) q363).bind fun L373 => (gR L373 r0 3 5).bind fun q375 => lt L373.length fun q377 => lt (L373 ++ [.inr (.inr (6, [some none, some none, none, some none, some none, some none, none, some none, some none, some none, none]))]) fun L378 => lt (zr D370 L373.length) fun D379 => bC (fc_X6_init q377 L378 D379) fun L383 D384 => gd (cS L383 q377 6) ((pA L383 q375 6 (Int32.toNatClampNeg 9) q377).bind fun L387 => gd (cS L387 r0 3) (bC (fc_X3_startAnew r0 L387 D384) fun L389 D390 => some (L389, D390))))))))))))))))))))))
def fc_X11_init (r0 : Nat) (L : List Sh) (D : Dm) : Option (List Sh × Dm) := lt L.length fun q1 => lt (L ++ [.inr (.inr (7, [some none, none, none, none, none, none, none, none]))]) fun L2 => lt (zr D L.length) fun D3 => bC (fc_X7_init q1 L2 D3) fun L7 D8 => (pR L7 r0 11 0 q1).bind fun L10 => lt L10.length fun q12 => lt (L10 ++ [.inr (.inr (5, [some none, none, none, none, none]))]) fun L13 => lt (zr D8 L10.length) fun D14 => bC (fc_X5_init q12 L13 D14) fun L18 D19 => (pR L18 r0 11 1 q12).bind fun L21 => lt L21.length fun q23 => lt (L21 ++ [.inr (.inl (3, List.replicate 2 none))]) fun L24 => lt (zr D19 L21.length) fun D25 => (pR L24 r0 11 2 q23).bind fun L29 => (gR L29 r0 11 2).bind fun q31 => lt L29.length fun q33 => lt (L29 ++ [.inr (.inr (4, [none, none, none, none, some none, some none, some none]))]) fun L34 => lt (zr D25 L29.length) fun D35 => bC (fc_X4_init q33 L34 D35) fun L39 D40 => gd (cS L39 q33 4) ((pA L39 q31 3 (Int32.toNatClampNeg 0) q33).bind fun L43 => (gR L43 r0 11 2).bind fun q45 => lt L43.length fun q47 => lt (L43 ++ [.inr (.inr (4, [none, none, none, none, some none, some none, some none]))]) fun L48 => lt (zr D40 L43.length) fun D49 => bC (fc_X4_init q47 L48 D49) fun L53 D54 => gd (cS L53 q47 4) ((pA L53 q45 3 (Int32.toNatClampNeg 1) q47).bind fun L57 => lt L57.length fun q59 => lt (L57 ++ [.inr (.inr (10, [some none, some none, some none, none, none]))]) fun L60 => lt (zr D54 L57.length) fun D61 => bC (fc_X10_init q59 L60 D61) fun L65 D66 => (pR L65 r0 11 3 q59).bind fun L68 => lt L68.length fun q70 => lt (L68 ++ [.inr (.inr (10, [some none, some none, some none, none, none]))]) fun L71 => lt (zr D66 L68.length) fun D72 => bC (fc_X10_init q70 L71 D72) fun L76 D77 => (pR L76 r0 11 4 q70).bind fun L79 => lt L79.length fun q81 => lt (L79 ++ [.inr (.inr (8, [some none, some none, some none, some none, some none, some none, some none, some none, some none, some none, some none, some none, some none, none, none]))]) fun L82 => lt (zr D77 L79.length) fun D83 => bC (fc_X8_init q81 L82 D83) fun L87 D88 => (pR L87 r0 11 6 q81).bind fun L90 => lt L90.length fun q92 => lt (L90 ++ [.inr (.inr (3, [some none, some none, some none, some none, none, some none, some none, some none, some none, some none, some none, some none, some none, none, none, none, none, none]))]) fun L93 => lt (zr D88 L90.length) fun D94 => (gR L93 r0 11 2).bind fun q98 => (gA L93 q98 3 (Int32.toNatClampNeg 0)).bind fun q100 => (gR L93 r0 11 6).bind fun q102 => bC (fc_X3_init q92 q100 q102 L93 D94) fun L104 D105 => (pR L104 r0 11 5 q92).bind fun L107 => lt L107.length fun q109 => lt (L107 ++ [.inr (.inr (10, [some none, some none, some none, none, none]))]) fun L110 => lt (zr D105 L107.length) fun D111 => bC (fc_X10_init q109 L110 D111) fun L115 D116 => (pR L115 r0 11 7 q109).bind fun L118 => lt L118.length fun q120 => lt (L118 ++ [.inr (.inr (1, [none, some none]))]) fun L121 => lt (zr D116 L118.length) fun D122 => bC (fc_X1_init q120 L121 D122) fun L126 D127 => (pR L126 r0 11 8 q120).bind fun L129 => lt L129.length fun q131 => lt (L129 ++ [.inr (.inl (4, List.replicate 6 none))]) fun L132 => lt (zr D127 L129.length) fun D133 => (pR L132 r0 11 9 q131).bind fun L137 => (gR L137 r0 11 9).bind fun q139 => lt L137.length fun q141 => lt (L137 ++ [.inr (.inr (1, [none, some none]))]) fun L142 => lt (zr D133 L137.length) fun D143 => bC (fc_X1_init q141 L142 D143) fun L147 D148 => gd (cS L147 q141 1) ((pA L147 q139 4 (Int32.toNatClampNeg 0) q141).bind fun L151 => (gR L151 r0 11 9).bind fun q153 => lt L151.length fun q155 => lt (L151 ++ [.inr (.inr (1, [none, some none]))]) fun L156 => lt (zr D148 L151.length) fun D157 => bC (fc_X1_init q155 L156 D157) fun L161 D162 => gd (cS L161 q155 1) ((pA L161 q153 4 (Int32.toNatClampNeg 1) q155).bind fun L165 => (gR L165 r0 11 9).bind fun q167 => lt L165.length fun q169 => lt (L165 ++ [.inr (.inr (1, [none, some none]))]) fun L170 => lt (zr D162 L165.length) fun D171 => bC (fc_X1_init q169 L170 D171) fun L175 D176 => gd (cS L175 q169 1) ((pA L175 q167 4 (Int32.toNatClampNeg 2) q169).bind fun L179 => (gR L179 r0 11 9).bind fun q181 => lt L179.length fun q183 => lt (L179 ++ [.inr (.inr (1, [none, some none]))]) fun L184 => lt (zr D176 L179.length) fun D185 => bC (fc_X1_init q183 L184 D185) fun L189 D190 => gd (cS L189 q183 1) ((pA L189 q181 4 (Int32.toNatClampNeg 3) q183).bind fun L193 => (gR L193 r0 11 9).bind fun q195 => lt L193.length fun q197 => lt (L193 ++ [.inr (.inr (1, [none, some none]))]) fun L198 => lt (zr D190 L193.length) fun D199 => bC (fc_X1_init q197 L198 D199) fun L203 D204 => gd (cS L203 q197 1) ((pA L203 q195 4 (Int32.toNatClampNeg 4) q197).bind fun L207 => (gR L207 r0 11 9).bind fun q209 => lt L207.length fun q211 => lt (L207 ++ [.inr (.inr (1, [none, some none]))]) fun L212 => lt (zr D204 L207.length) fun D213 => bC (fc_X1_init q211 L212 D213) fun L217 D218 => gd (cS L217 q211 1) ((pA L217 q209 4 (Int32.toNatClampNeg 5) q211).bind fun L221 => some (L221, D218)))))))))
def fc_X12_empties_18_b (k18 : Nat → Int32 → List Sh → Dm → Option (List Sh × Dm)) (r0 : Nat) (x1 : Int32) (L : List Sh) (D : Dm) : Option (List Sh × Dm) := if 94 ≤ x1 then (some (L, D)) else ((cA L r0 0).bind fun n2 => gd (inB x1 n2) (lt (ud D r0 (Int32.toNatClampNeg x1) (-1)) fun D5 => lt (x1 + 1) fun y7 => k18 r0 y7 L D5))
def fc_X12_empties_18 : Nat → Nat → Int32 → List Sh → Dm → Option (List Sh × Dm)
  | 0, _, _, _, _ => none
  | n + 1, r0, x1, L, D => fc_X12_empties_18_b (fc_X12_empties_18 n) r0 x1 L D
def fc_X12_empties (r0 : Nat) (L : List Sh) (D : Dm) : Option (List Sh × Dm) := (cA L r0 0).bind fun n1 => gd (inB 0 n1) (lt (ud D r0 (Int32.toNatClampNeg 0) 1) fun D4 => (cA L r0 0).bind fun n6 => gd (inB 1 n6) (lt (ud D4 r0 (Int32.toNatClampNeg 1) 0) fun D9 => (cA L r0 0).bind fun n11 => gd (inB 2 n11) (lt (ud D9 r0 (Int32.toNatClampNeg 2) 1) fun D14 => (cA L r0 0).bind fun n16 => gd (inB 3 n16) (lt (ud D14 r0 (Int32.toNatClampNeg 3) 0) fun D19 => fc_X12_empties_18 FU r0 4 L D19))))
def fc_X12_resets_54_b (k54 : Nat → Int32 → List Sh → Dm → Option (List Sh × Dm)) (r0 : Nat) (x1 : Int32) (L : List Sh) (D : Dm) : Option (List Sh × Dm) := if 80 ≤ x1 then (gd (cI L r0 12 33) (lt (ud D r0 33 0) fun D3 => some (L, D3))) else ((gR L r0 12 31).bind fun q5 => (cA L q5 0).bind fun n7 => gd (inB x1 n7) (lt (ud D q5 (Int32.toNatClampNeg x1) 0) fun D10 => (gR L r0 12 32).bind fun q12 => (cA L q12 0).bind fun n14 => gd (inB x1 n14) (lt (ud D10 q12 (Int32.toNatClampNeg x1) 0) fun D17 => lt (x1 + 1) fun y19 => k54 r0 y19 L D17)))
def fc_X12_resets_54 : Nat → Nat → Int32 → List Sh → Dm → Option (List Sh × Dm)
  | 0, _, _, _, _ => none
  | n + 1, r0, x1, L, D => fc_X12_resets_54_b (fc_X12_resets_54 n) r0 x1 L D
def fc_X12_resets_26_b (k26 : Nat → Int32 → List Sh → Dm → Option (List Sh × Dm)) (r0 : Nat) (x1 : Int32) (L : List Sh) (D : Dm) : Option (List Sh × Dm) := if 10 ≤ x1 then (fc_X12_resets_54 FU r0 0 L D) else ((gR L r0 12 29).bind fun q2 => (cA L q2 0).bind fun n4 => gd (inB x1 n4) (lt (ud D q2 (Int32.toNatClampNeg x1) 0) fun D7 => (gR L r0 12 30).bind fun q9 => (cA L q9 0).bind fun n11 => gd (inB x1 n11) (lt (ud D7 q9 (Int32.toNatClampNeg x1) 0) fun D14 => lt (x1 + 1) fun y16 => k26 r0 y16 L D14)))
def fc_X12_resets_26 : Nat → Nat → Int32 → List Sh → Dm → Option (List Sh × Dm)
  | 0, _, _, _, _ => none
  | n + 1, r0, x1, L, D => fc_X12_resets_26_b (fc_X12_resets_26 n) r0 x1 L D
def fc_X12_resets (r0 : Nat) (L : List Sh) (D : Dm) : Option (List Sh × Dm) := gd (cI L r0 12 27) (lt (ud D r0 27 1) fun D2 => gd (cI L r0 12 28) (lt (ud D2 r0 28 1) fun D5 => (gR L r0 12 21).bind fun q7 => (cA L q7 0).bind fun n9 => gd (inB 0 n9) (lt (ud D5 q7 (Int32.toNatClampNeg 0) 0) fun D12 => (gR L r0 12 24).bind fun q14 => (cA L q14 0).bind fun n16 => gd (inB 0 n16) (lt (ud D12 q14 (Int32.toNatClampNeg 0) 0) fun D19 => fc_X12_resets_26 FU r0 0 L D19))))
def fc_X12_init_317_b (k310 : Nat → Int32 → List Sh → Dm → Option (List Sh × Dm)) (k317 : Nat → Int32 → Int32 → List Sh → Dm → Option (List Sh × Dm)) (r0 : Nat) (x1 : Int32) (x2 : Int32) (L : List Sh) (D : Dm) : Option (List Sh × Dm) := if 94 ≤ x2 then (lt (x1 + 1) fun y2 => k310 r0 y2 L D) else ((gR L r0 12 1).bind fun q4 => (gR L r0 12 2).bind fun q6 => (cA L q6 0).bind fun n8 => gd (inB x2 n8) ((cA L q4 0).bind fun n11 => gd (inB ((94 * x1) + x2) n11) (lt (ud D q4 (Int32.toNatClampNeg ((94 * x1) + x2)) (D q6 (Int32.toNatClampNeg x2))) fun D14 => lt (x2 + 1) fun y16 => k317 r0 x1 y16 L D14)))
def fc_X12_init_317 (k310 : Nat → Int32 → List Sh → Dm → Option (List Sh × Dm)) : Nat → Nat → Int32 → Int32 → List Sh → Dm → Option (List Sh × Dm)
  | 0, _, _, _, _, _ => none
  | n + 1, r0, x1, x2, L, D => fc_X12_init_317_b k310 (fc_X12_init_317 k310 n) r0 x1 x2 L D
def fc_X12_init_310_b (k310 : Nat → Int32 → List Sh → Dm → Option (List Sh × Dm)) (r0 : Nat) (x1 : Int32) (L : List Sh) (D : Dm) : Option (List Sh × Dm) := if 2 ≤ x1 then (gd (cS L r0 12) (bC (fc_X12_resets r0 L D) fun L2 D3 => some (L2, D3))) else (fc_X12_init_317 k310 FU r0 x1 0 L D)
def fc_X12_init_310 : Nat → Nat → Int32 → List Sh → Dm → Option (List Sh × Dm)
  | 0, _, _, _, _ => none
  | n + 1, r0, x1, L, D => fc_X12_init_310_b (fc_X12_init_310 n) r0 x1 L D
def fc_X12_init (r0 : Nat) (L : List Sh) (D : Dm) : Option (List Sh × Dm) := lt L.length fun q1 => lt (L ++ [.inl (0, 188)]) fun L2 => lt (zr D L.length) fun D3 => (pR L2 r0 12 1 q1).bind fun L7 => lt L7.length fun q9 => lt (L7 ++ [.inl (0, 94)]) fun L10 => lt (zr D3 L7.length) fun D11 => (pR L10 r0 12 2 q9).bind fun L15 => lt L15.length fun q17 => lt (L15 ++ [.inl (1, 500)]) fun L18 => lt (zr D11 L15.length) fun D19 => (pR L18 r0 12 6 q17).bind fun L23 => gd (cI L23 r0 12 11) (lt (ud D19 r0 11 (-1)) fun D26 => lt L23.length fun q28 => lt (L23 ++ [.inl (0, 12)]) fun L29 => lt (zr D26 L23.length) fun D30 => (pR L29 r0 12 14 q28).bind fun L34 => lt L34.length fun q36 => lt (L34 ++ [.inl (0, 12)]) fun L37 => lt (zr D30 L34.length) fun D38 => (pR L37 r0 12 15 q36).bind fun L42 => lt L42.length fun q44 => lt (L42 ++ [.inl (0, 12)]) fun L45 => lt (zr D38 L42.length) fun D46 => (pR L45 r0 12 16 q44).bind fun L50 => lt L50.length fun q52 => lt (L50 ++ [.inl (0, 12)]) fun L53 => lt (zr D46 L50.length) fun D54 => (pR L53 r0 12 17 q52).bind fun L58 => lt L58.length fun q60 => lt (L58 ++ [.inl (0, 10)]) fun L61 => lt (zr D54 L58.length) fun D62 => (pR L61 r0 12 21 q60).bind fun L66 => lt L66.length fun q68 => lt (L66 ++ [.inl (0, 60)]) fun L69 => lt (zr D62 L66.length) fun D70 => (pR L69 r0 12 22 q68).bind fun L74 => lt L74.length fun q76 => lt (L74 ++ [.inl (0, 60)]) fun L77 => lt (zr D70 L74.length) fun D78 => (pR L77 r0 12 23 q76).bind fun L82 => lt L82.length fun q84 => lt (L82 ++ [.inl (0, 10)]) fun L85 => lt (zr D78 L82.length) fun D86 => (pR L85 r0 12 24 q84).bind fun L90 => lt L90.length fun q92 => lt (L90 ++ [.inl (0, 60)]) fun L93 => lt (zr D86 L90.length) fun D94 => (pR L93 r0 12 25 q92).bind fun L98 => lt L98.length fun q100 => lt (L98 ++ [.inl (0, 60)]) fun L101 => lt (zr D94 L98.length) fun D102 => (pR L101 r0 12 26 q100).bind fun L106 => lt L106.length fun q108 => lt (L106 ++ [.inl (0, 10)]) fun L109 => lt (zr D102 L106.length) fun D110 => (pR L109 r0 12 29 q108).bind fun L114 => lt L114.length fun q116 => lt (L114 ++ [.inl (0, 10)]) fun L117 => lt (zr D110 L114.length) fun D118 => (pR L117 r0 12 30 q116).bind fun L122 => lt L122.length fun q124 => lt (L122 ++ [.inl (0, 80)]) fun L125 => lt (zr D118 L122.length) fun D126 => (pR L125 r0 12 31 q124).bind fun L130 => lt L130.length fun q132 => lt (L130 ++ [.inl (0, 80)]) fun L133 => lt (zr D126 L130.length) fun D134 => (pR L133 r0 12 32 q132).bind fun L138 => lt L138.length fun q140 => lt (L138 ++ [.inl (0, 40)]) fun L141 => lt (zr D134 L138.length) fun D142 => (pR L141 r0 12 34 q140).bind fun L146 => lt L146.length fun q148 => lt (L146 ++ [.inl (0, 40)]) fun L149 => lt (zr D142 L146.length) fun D150 => (pR L149 r0 12 35 q148).bind fun L154 => lt L154.length fun q156 => lt (L154 ++ [.inl (0, 3)]) fun L157 => lt (zr D150 L154.length) fun D158 => (pR L157 r0 12 40 q156).bind fun L162 => lt L162.length fun q164 => lt (L162 ++ [.inl (0, 3)]) fun L165 => lt (zr D158 L162.length) fun D166 => (pR L165 r0 12 41 q164).bind fun L170 => lt L170.length fun q172 => lt (L170 ++ [.inl (0, 3)]) fun L173 => lt (zr D166 L170.length) fun D174 => (pR L173 r0 12 46 q172).bind fun L178 => lt L178.length fun q180 => lt (L178 ++ [.inl (0, 40)]) fun L181 => lt (zr D174 L178.length) fun D182 => (pR L181 r0 12 52 q180).bind fun L186 => lt L186.length fun q188 => lt (L186 ++ [.inl (0, 40)]) fun L189 => lt (zr D182 L186.length) fun D190 => (pR L189 r0 12 53 q188).bind fun L194 => lt L194.length fun q196 => lt (L194 ++ [.inl (0, 80)]) fun L197 => lt (zr D190 L194.length) fun D198 => (pR L197 r0 12 60 q196).bind fun L202 => lt L202.length fun q204 => lt (L202 ++ [.inl (0, 80)]) fun L205 => lt (zr D198 L202.length) fun D206 => (pR L205 r0 12 61 q204).bind fun L210 => lt L210.length fun q212 => lt (L210 ++ [.inl (0, 20)]) fun L213 => lt (zr D206 L210.length) fun D214 => (pR L213 r0 12 62 q212).bind fun L218 => lt L218.length fun q220 => lt (L218 ++ [.inl (0, 20)]) fun L221 => lt (zr D214 L218.length) fun D222 => (pR L221 r0 12 63 q220).bind fun L226 => lt L226.length fun q228 => lt (L226 ++ [.inl (0, 3500)]) fun L229 => lt (zr D222 L226.length) fun D230 => (pR L229 r0 12 69 q228).bind fun L234 => lt L234.length fun q236 => lt (L234 ++ [.inl (0, 3500)]) fun L237 => lt (zr D230 L234.length) fun D238 => (pR L237 r0 12 70 q236).bind fun L242 => lt L242.length fun q244 => lt (L242 ++ [.inl (0, 3500)]) fun L245 => lt (zr D238 L242.length) fun D246 => (pR L245 r0 12 71 q244).bind fun L250 => lt L250.length fun q252 => lt (L250 ++ [.inl (0, 3500)]) fun L253 => lt (zr D246 L250.length) fun D254 => (pR L253 r0 12 72 q252).bind fun L258 => lt L258.length fun q260 => lt (L258 ++ [.inl (0, 3500)]) fun L261 => lt (zr D254 L258.length) fun D262 => (pR L261 r0 12 73 q260).bind fun L266 => lt L266.length fun q268 => lt (L266 ++ [.inl (0, 21000)]) fun L269 => lt (zr D262 L266.length) fun D270 => (pR L269 r0 12 74 q268).bind fun L274 => lt L274.length fun q276 => lt (L274 ++ [.inl (0, 4)]) fun L277 => lt (zr D270 L274.length) fun D278 => (pR L277 r0 12 75 q276).bind fun L282 => lt L282.length fun q284 => lt (L282 ++ [.inl (2, 41250)]) fun L285 => lt (zr D278 L282.length) fun D286 => (pR L285 r0 12 76 q284).bind fun L290 => (gR L290 r0 12 2).bind fun q292 => bC (fc_X12_empties q292 L290 D286) fun L294 D295 => fc_X12_init_310 FU r0 0 L294 D295)
set_option maxHeartbeats 4000000 in
theorem v_J7_fill_53178_5_b {G : va_G} {tA : Nat → ClassId} {z : Nat} {E : Ex} {p : Program} {l : Launch} {e : Env} {s : State} {m : MethodId} {args : Array Value} {below : List Frame} {meth : Method} {c : Code} {L' : List Sh} {D' : Dm} (O : Ok G tA z E cJ7_fill_53178 RJ7 4 p s m args c) (hnm : meth.name = "fill") (hr : meth.sig.returnType = none) (hlk : meth.locks = false) {k5 : Nat → Int32 → Int32 → Int32 → List Sh → Dm → Option (List Sh × Dm)} (hk5 : ∀ (r0 : Nat) (x1 : Int32) (x2 : Int32) (x3 : Int32) (L : List Sh) (D : Dm), k5 r0 x1 x2 x3 L D = some (L', D') → BC G tA z E p l e (rmC 1 0 0) s m args below meth c 0 0 0 0 L D L' D' 4 5 [(0, .ref (z + r0)), (1, .int x1), (2, .int x2), (3, .int x3)] []) (r0 : Nat) (x1 : Int32) (x2 : Int32) (x3 : Int32) (L : List Sh) (D : Dm) (h : fc_J7_fill_53178_5_b k5 r0 x1 x2 x3 L D = some (L', D')) : BC G tA z E p l e (rmC 1 0 0) s m args below meth c 0 0 0 0 L D L' D' 4 5 [(0, .ref (z + r0)), (1, .int x1), (2, .int x2), (3, .int x3)] [] := by
  obtain ⟨hx, hb, -, hown, hts, -⟩ := id O
  unfold fc_J7_fill_53178_5_b at h
  intro H locs ls hH hl
  refine lv_iload_n hx hb dJ7_fill_53178_5 rfl (lv_at hl 2 rfl) ?_
  refine lv_iload_n hx hb dJ7_fill_53178_6 rfl (lv_at hl 3 rfl) ?_
  refine lv_icmp_ge (tgt := 20) hx hb dJ7_fill_53178_7 (by decide) (fun c1 => ?_) (fun c1 => ?_)
  · have h := it_pos h c1
    obtain ⟨rfl, rfl⟩ := ret_c h
    exact h_vret O hr hlk hH dJ7_fill_53178_20
  · have h := it_neg h c1
    refine lv_aload_n hx hb dJ7_fill_53178_10 rfl (lv_at hl 0 rfl) ?_
    refine lv_iload_n hx hb dJ7_fill_53178_11 rfl (lv_at hl 2 rfl) ?_
    refine lv_iload_n hx hb dJ7_fill_53178_12 rfl (lv_at hl 1 rfl) ?_
    obtain ⟨n2, h3, h⟩ := bnd_some h
    obtain ⟨g4, h⟩ := gd_some h
    obtain ⟨D5, e6, h⟩ := lt_some h
    refine hc_iast O hH (cA_ok h3) g4 e6 dJ7_fill_53178_13 (fun H locs hH => ?_)
    obtain ⟨y7, e8, h⟩ := lt_some h
    refine lv_iinc (v := y7) (lv' := [(2, .int y7), (0, .ref (z + r0)), (1, .int x1), (3, .int x3)]) hx hb dJ7_fill_53178_14 hl (k := 2) rfl (by rw [e8]; rfl) (by decide) rfl (fun ls hl => ?_)
    refine lv_goto (tgt := 5) hx hb dJ7_fill_53178_17 (by decide) ?_
    exact hk5 _ _ _ _ _ _ h _ _ _ hH (lv_sub hl [1, 2, 0, 3] rfl)
set_option maxHeartbeats 4000000 in
theorem v_J7_fill_53178_5 {G : va_G} {tA : Nat → ClassId} {z : Nat} {E : Ex} {p : Program} {l : Launch} {e : Env} {s : State} {m : MethodId} {args : Array Value} {below : List Frame} {meth : Method} {c : Code} {L' : List Sh} {D' : Dm} (O : Ok G tA z E cJ7_fill_53178 RJ7 4 p s m args c) (hnm : meth.name = "fill") (hr : meth.sig.returnType = none) (hlk : meth.locks = false) : ∀ (n : Nat) (r0 : Nat) (x1 : Int32) (x2 : Int32) (x3 : Int32) (L : List Sh) (D : Dm) (h : fc_J7_fill_53178_5 n r0 x1 x2 x3 L D = some (L', D')), BC G tA z E p l e (rmC 1 0 0) s m args below meth c 0 0 0 0 L D L' D' 4 5 [(0, .ref (z + r0)), (1, .int x1), (2, .int x2), (3, .int x3)] [] := by
  intro n
  induction n with
  | zero => intro r0 x1 x2 x3 L D h; exact no_some h
  | succ n ih => intro r0 x1 x2 x3 L D h; exact v_J7_fill_53178_5_b O hnm hr hlk (fun r0 x1 x2 x3 L D h => ih r0 x1 x2 x3 L D h) r0 x1 x2 x3 L D h
set_option maxHeartbeats 4000000 in
theorem v_J7_fill_53178 {G : va_G} {tA : Nat → ClassId} {z : Nat} {E : Ex} {p : Program} {l : Launch} {e : Env} {s : State} {m : MethodId} {args : Array Value} {below : List Frame} {meth : Method} {c : Code} {L' : List Sh} {D' : Dm} (O : Ok G tA z E cJ7_fill_53178 RJ7 4 p s m args c) (hnm : meth.name = "fill") (hr : meth.sig.returnType = none) (hlk : meth.locks = false) (r0 : Nat) (x1 : Int32) (L : List Sh) (D : Dm) (h : fc_J7_fill_53178 r0 x1 L D = some (L', D')) : BC G tA z E p l e (rmC 1 0 0) s m args below meth c 0 0 0 0 L D L' D' 4 0 [(0, .ref (z + r0)), (1, .int x1)] [] := by
  obtain ⟨hx, hb, -, hown, hts, -⟩ := id O
  unfold fc_J7_fill_53178 at h
  intro H locs ls hH hl
  refine lv_iconst (v := 0) hx hb dJ7_fill_53178_0 (by decide) ?_
  refine lv_istore_n (lv' := [(2, .int 0), (0, .ref (z + r0)), (1, .int x1)]) hx hb dJ7_fill_53178_1 rfl hl (by decide) rfl (fun ls hl => ?_)
  refine lv_aload_n hx hb dJ7_fill_53178_2 rfl (lv_at hl 1 rfl) ?_
  obtain ⟨n1, h2, h⟩ := bnd_some h
  obtain ⟨y3, e4, h⟩ := lt_some h
  refine h_alen O hH (cA_ok h2) rfl e4.symm dJ7_fill_53178_3 ?_
  refine lv_istore_n (lv' := [(3, .int y3), (2, .int 0), (0, .ref (z + r0)), (1, .int x1)]) hx hb dJ7_fill_53178_4 rfl hl (by decide) rfl (fun ls hl => ?_)
  exact v_J7_fill_53178_5 O hnm hr hlk FU _ _ _ _ _ _ h _ _ _ hH (lv_sub hl [2, 3, 1, 0] rfl)
set_option maxHeartbeats 4000000 in
theorem cc_J7_fill_53178 {l : Launch} {G : va_G} {tA : Nat → ClassId} {z : Nat} {E : Ex} {r0 : Nat} {x1 : Int32} {L L' : List Sh} {D D' : Dm} (h : fc_J7_fill_53178 r0 x1 L D = some (L', D')) : CtV l yJ7_fill_53178 cJ7_fill_53178 4 G tA z E 1 0 0 [.ref (z + r0), .int x1] L D L' D' :=
  ct_BC (by decide +kernel) (Nat.le_of_ble_eq_true rfl) (fun _ _ _ _ _ _ _ _ O hr hlk hnm => v_J7_fill_53178 O hnm hr hlk _ _ _ _ h)
set_option maxHeartbeats 4000000 in
theorem v_X9_init {G : va_G} {tA : Nat → ClassId} {z : Nat} {E : Ex} {p : Program} {l : Launch} {e : Env} {s : State} {m : MethodId} {args : Array Value} {below : List Frame} {meth : Method} {c : Code} {L' : List Sh} {D' : Dm} (O : Ok G tA z E cX9_init RX9 1 p s m args c) (hnm : meth.name = "<init>") (hr : meth.sig.returnType = none) (hlk : meth.locks = false) (r0 : Nat) (L : List Sh) (D : Dm) (h : fc_X9_init r0 L D = some (L', D')) : BC G tA z E p l e (rmC 1 0 0) s m args below meth c 0 0 0 0 L D L' D' 1 0 [(0, .ref (z + r0))] [] := by
  obtain ⟨hx, hb, -, hown, hts, -⟩ := id O
  unfold fc_X9_init at h
  intro H locs ls hH hl
  refine lv_aload_n hx hb dX9_init_0 rfl (lv_at hl 0 rfl) ?_
  refine hc_oinit O hl.1 ww_82 ⟨(Nat.le_of_ble_eq_true rfl), (Nat.le_of_ble_eq_true rfl)⟩ (rest := []) (Nat.le_of_ble_eq_true rfl) dX9_init_1 ?_
  obtain ⟨rfl, rfl⟩ := ret_c h
  exact h_vret O hr hlk hH dX9_init_4
set_option maxHeartbeats 4000000 in
theorem cc_X9_init {l : Launch} {G : va_G} {tA : Nat → ClassId} {z : Nat} {E : Ex} {r0 : Nat} {L L' : List Sh} {D D' : Dm} (h : fc_X9_init r0 L D = some (L', D')) : CtV l yX9_init cX9_init 1 G tA z E 1 0 0 [.ref (z + r0)] L D L' D' :=
  ct_BC (by decide +kernel) (Nat.le_of_ble_eq_true rfl) (fun _ _ _ _ _ _ _ _ O hr hlk hnm => v_X9_init O hnm hr hlk _ _ _ h)
set_option maxHeartbeats 4000000 in
theorem v_X1_init {G : va_G} {tA : Nat → ClassId} {z : Nat} {E : Ex} {p : Program} {l : Launch} {e : Env} {s : State} {m : MethodId} {args : Array Value} {below : List Frame} {meth : Method} {c : Code} {L' : List Sh} {D' : Dm} (O : Ok G tA z E cX1_init RX1 1 p s m args c) (hnm : meth.name = "<init>") (hr : meth.sig.returnType = none) (hlk : meth.locks = false) (r0 : Nat) (L : List Sh) (D : Dm) (h : fc_X1_init r0 L D = some (L', D')) : BC G tA z E p l e (rmC 1 1 2) s m args below meth c 0 0 1 2 L D L' D' 1 0 [(0, .ref (z + r0))] [] := by
  obtain ⟨hx, hb, -, hown, hts, -⟩ := id O
  unfold fc_X1_init at h
  intro H locs ls hH hl
  refine lv_aload_n hx hb dX1_init_0 rfl (lv_at hl 0 rfl) ?_
  refine hc_oinit O hl.1 ww_195 ⟨(Nat.le_of_ble_eq_true rfl), (Nat.le_of_ble_eq_true rfl)⟩ (rest := []) (Nat.le_of_ble_eq_true rfl) dX1_init_1 ?_
  refine lv_aload_n hx hb dX1_init_4 rfl (lv_at hl 0 rfl) ?_
  refine lv_iconst (v := 2) hx hb dX1_init_5 (by decide) ?_
  obtain ⟨q1, e4, h⟩ := lt_some h
  obtain ⟨L2, e5, h⟩ := lt_some h
  obtain ⟨D3, e6, h⟩ := lt_some h
  refine hc_newa (atype := .int) (t := 0) (N' := 2) O hH ww_67 rfl rfl (fun _ => rfl) rfl (by decide) (by decide) (by decide) (Nat.le_of_ble_eq_true rfl) (Nat.le_of_ble_eq_true rfl) e4 e5 e6 dX1_init_6 (fun H hH => ?_)
  refine lv_dup hx hb dX1_init_8 rfl ?_
  refine lv_iconst (v := 0) hx hb dX1_init_9 (by decide) ?_
  refine lv_iconst (v := (-1)) hx hb dX1_init_10 (by decide) ?_
  obtain ⟨n7, h8, h⟩ := bnd_some h
  obtain ⟨g9, h⟩ := gd_some h
  obtain ⟨D10, e11, h⟩ := lt_some h
  refine hc_iast O hH (cA_ok h8) g9 e11 dX1_init_11 (fun H locs hH => ?_)
  refine lv_dup hx hb dX1_init_12 rfl ?_
  refine lv_iconst (v := 1) hx hb dX1_init_13 (by decide) ?_
  refine lv_iconst (v := (-1)) hx hb dX1_init_14 (by decide) ?_
  obtain ⟨n12, h13, h⟩ := bnd_some h
  obtain ⟨g14, h⟩ := gd_some h
  obtain ⟨D15, e16, h⟩ := lt_some h
  refine hc_iast O hH (cA_ok h13) g14 e16 dX1_init_15 (fun H locs hH => ?_)
  obtain ⟨L17, h18, h⟩ := bnd_some h
  obtain ⟨fs, o, a1, a2, a3⟩ := pR_ok h18
  refine hc_putr O hnm hH a1 a2 fl_X1_9 (fun _ _ _ h => by cases h; rfl) (fun _ => ⟨rfl, rfl⟩) a3 dX1_init_16 (fun H locs hH => ?_)
  obtain ⟨rfl, rfl⟩ := ret_c h
  exact h_vret O hr hlk hH dX1_init_19
set_option maxHeartbeats 4000000 in
theorem cc_X1_init {l : Launch} {G : va_G} {tA : Nat → ClassId} {z : Nat} {E : Ex} {r0 : Nat} {L L' : List Sh} {D D' : Dm} (h : fc_X1_init r0 L D = some (L', D')) : CtV l yX1_init cX1_init 1 G tA z E 1 1 2 [.ref (z + r0)] L D L' D' :=
  ct_BC (by decide +kernel) (Nat.le_of_ble_eq_true rfl) (fun _ _ _ _ _ _ _ _ O hr hlk hnm => v_X1_init O hnm hr hlk _ _ _ h)
set_option maxHeartbeats 4000000 in
theorem v_X10_init {G : va_G} {tA : Nat → ClassId} {z : Nat} {E : Ex} {p : Program} {l : Launch} {e : Env} {s : State} {m : MethodId} {args : Array Value} {below : List Frame} {meth : Method} {c : Code} {L' : List Sh} {D' : Dm} (O : Ok G tA z E cX10_init RX10 1 p s m args c) (hnm : meth.name = "<init>") (hr : meth.sig.returnType = none) (hlk : meth.locks = false) (r0 : Nat) (L : List Sh) (D : Dm) (h : fc_X10_init r0 L D = some (L', D')) : BC G tA z E p l e (rmC 1 3 60) s m args below meth c 0 0 3 60 L D L' D' 1 0 [(0, .ref (z + r0))] [] := by
  obtain ⟨hx, hb, -, hown, hts, -⟩ := id O
  unfold fc_X10_init at h
  intro H locs ls hH hl
  refine lv_aload_n hx hb dX10_init_0 rfl (lv_at hl 0 rfl) ?_
  refine hc_oinit O hl.1 ww_150 ⟨(Nat.le_of_ble_eq_true rfl), (Nat.le_of_ble_eq_true rfl)⟩ (rest := []) (Nat.le_of_ble_eq_true rfl) dX10_init_1 ?_
  refine lv_aload_n hx hb dX10_init_4 rfl (lv_at hl 0 rfl) ?_
  refine lv_bipush (v := 20) hx hb dX10_init_5 (by decide) ?_
  obtain ⟨q1, e4, h⟩ := lt_some h
  obtain ⟨L2, e5, h⟩ := lt_some h
  obtain ⟨D3, e6, h⟩ := lt_some h
  refine hc_newa (atype := .int) (t := 0) (N' := 20) O hH ww_67 rfl rfl (fun _ => rfl) rfl (by decide) (by decide) (by decide) (Nat.le_of_ble_eq_true rfl) (Nat.le_of_ble_eq_true rfl) e4 e5 e6 dX10_init_7 (fun H hH => ?_)
  obtain ⟨L7, h8, h⟩ := bnd_some h
  obtain ⟨fs, o, a1, a2, a3⟩ := pR_ok h8
  refine hc_putr O hnm hH a1 a2 fl_X10_9 (fun _ _ _ h => by cases h; rfl) (fun _ => ⟨rfl, rfl⟩) a3 dX10_init_9 (fun H locs hH => ?_)
  refine lv_aload_n hx hb dX10_init_12 rfl (lv_at hl 0 rfl) ?_
  refine lv_bipush (v := 20) hx hb dX10_init_13 (by decide) ?_
  obtain ⟨q9, e12, h⟩ := lt_some h
  obtain ⟨L10, e13, h⟩ := lt_some h
  obtain ⟨D11, e14, h⟩ := lt_some h
  refine hc_newa (atype := .int) (t := 0) (N' := 20) O hH ww_67 rfl rfl (fun _ => rfl) rfl (by decide) (by decide) (by decide) (Nat.le_of_ble_eq_true rfl) (Nat.le_of_ble_eq_true rfl) e12 e13 e14 dX10_init_15 (fun H hH => ?_)
  obtain ⟨L15, h16, h⟩ := bnd_some h
  obtain ⟨fs, o, a1, a2, a3⟩ := pR_ok h16
  refine hc_putr O hnm hH a1 a2 fl_X10_15 (fun _ _ _ h => by cases h; rfl) (fun _ => ⟨rfl, rfl⟩) a3 dX10_init_17 (fun H locs hH => ?_)
  refine lv_aload_n hx hb dX10_init_20 rfl (lv_at hl 0 rfl) ?_
  refine lv_bipush (v := 20) hx hb dX10_init_21 (by decide) ?_
  obtain ⟨q17, e20, h⟩ := lt_some h
  obtain ⟨L18, e21, h⟩ := lt_some h
  obtain ⟨D19, e22, h⟩ := lt_some h
  refine hc_newa (atype := .int) (t := 0) (N' := 20) O hH ww_67 rfl rfl (fun _ => rfl) rfl (by decide) (by decide) (by decide) (Nat.le_of_ble_eq_true rfl) (Nat.le_of_ble_eq_true rfl) e20 e21 e22 dX10_init_23 (fun H hH => ?_)
  obtain ⟨L23, h24, h⟩ := bnd_some h
  obtain ⟨fs, o, a1, a2, a3⟩ := pR_ok h24
  refine hc_putr O hnm hH a1 a2 fl_X10_18 (fun _ _ _ h => by cases h; rfl) (fun _ => ⟨rfl, rfl⟩) a3 dX10_init_25 (fun H locs hH => ?_)
  obtain ⟨rfl, rfl⟩ := ret_c h
  exact h_vret O hr hlk hH dX10_init_28
set_option maxHeartbeats 4000000 in
theorem cc_X10_init {l : Launch} {G : va_G} {tA : Nat → ClassId} {z : Nat} {E : Ex} {r0 : Nat} {L L' : List Sh} {D D' : Dm} (h : fc_X10_init r0 L D = some (L', D')) : CtV l yX10_init cX10_init 1 G tA z E 1 3 60 [.ref (z + r0)] L D L' D' :=
  ct_BC (by decide +kernel) (Nat.le_of_ble_eq_true rfl) (fun _ _ _ _ _ _ _ _ O hr hlk hnm => v_X10_init O hnm hr hlk _ _ _ h)
set_option maxHeartbeats 4000000 in
theorem v_X4_clear {G : va_G} {tA : Nat → ClassId} {z : Nat} {E : Ex} {p : Program} {l : Launch} {e : Env} {s : State} {m : MethodId} {args : Array Value} {below : List Frame} {meth : Method} {c : Code} {L' : List Sh} {D' : Dm} (O : Ok G tA z E cX4_clear RX4 1 p s m args c) (hnm : meth.name = "clear") (hr : meth.sig.returnType = none) (hlk : meth.locks = false) (r0 : Nat) (L : List Sh) (D : Dm) (h : fc_X4_clear r0 L D = some (L', D')) : BC G tA z E p l e (rmC 2 0 0) s m args below meth c 0 0 0 0 L D L' D' 1 0 [(0, .ref (z + r0))] [] := by
  obtain ⟨hx, hb, -, hown, hts, -⟩ := id O
  unfold fc_X4_clear at h
  intro H locs ls hH hl
  refine lv_aload_n hx hb dX4_clear_0 rfl (lv_at hl 0 rfl) ?_
  refine lv_iconst (v := 1) hx hb dX4_clear_1 (by decide) ?_
  obtain ⟨g1, h⟩ := gd_some h
  obtain ⟨fs, a1, a2⟩ := cI_ok g1
  obtain ⟨D2, e3, h⟩ := lt_some h
  refine hc_puti O hH a1 a2 fl_X4_24 rfl rfl e3 dX4_clear_2 (fun H locs hH => ?_)
  refine lv_aload_n hx hb dX4_clear_5 rfl (lv_at hl 0 rfl) ?_
  refine lv_iconst (v := 0) hx hb dX4_clear_6 (by decide) ?_
  obtain ⟨g4, h⟩ := gd_some h
  obtain ⟨fs, a1, a2⟩ := cI_ok g4
  obtain ⟨D5, e6, h⟩ := lt_some h
  refine hc_puti O hH a1 a2 fl_X4_28 rfl rfl e6 dX4_clear_7 (fun H locs hH => ?_)
  refine lv_aload_n hx hb dX4_clear_10 rfl (lv_at hl 0 rfl) ?_
  refine lv_iconst (v := 1) hx hb dX4_clear_11 (by decide) ?_
  obtain ⟨g7, h⟩ := gd_some h
  obtain ⟨fs, a1, a2⟩ := cI_ok g7
  obtain ⟨D8, e9, h⟩ := lt_some h
  refine hc_puti O hH a1 a2 fl_X4_31 rfl rfl e9 dX4_clear_12 (fun H locs hH => ?_)
  refine lv_aload_n hx hb dX4_clear_15 rfl (lv_at hl 0 rfl) ?_
  refine lv_iconst (v := 0) hx hb dX4_clear_16 (by decide) ?_
  obtain ⟨g10, h⟩ := gd_some h
  obtain ⟨fs, a1, a2⟩ := cI_ok g10
  obtain ⟨D11, e12, h⟩ := lt_some h
  refine hc_puti O hH a1 a2 fl_X4_34 rfl rfl e12 dX4_clear_17 (fun H locs hH => ?_)
  refine lv_aload_n hx hb dX4_clear_20 rfl (lv_at hl 0 rfl) ?_
  obtain ⟨q13, h14, h⟩ := bnd_some h
  obtain ⟨fs, a1, a2⟩ := gR_ok h14
  refine h_getr O hH a1 a2 fl_X4_11 dX4_clear_21 ?_
  refine lv_iconst (v := (-1)) hx hb dX4_clear_24 (by decide) ?_
  obtain ⟨L15, D16, h17, h⟩ := bC_some h
  refine hc_callS (As := [.ref (z + q13), .int (-1)]) (rest := []) O hH (cc_J7_fill_53178 h17) ml_X4_37 rfl hl.1 rfl ⟨(Nat.le_of_ble_eq_true rfl), (Nat.le_of_ble_eq_true rfl)⟩ (Nat.le_of_ble_eq_true rfl) ⟨(Nat.le_of_ble_eq_true rfl), (Nat.le_of_ble_eq_true rfl)⟩ dX4_clear_25 (fun H locs hH => ?_)
  refine lv_aload_n hx hb dX4_clear_28 rfl (lv_at hl 0 rfl) ?_
  obtain ⟨q18, h19, h⟩ := bnd_some h
  obtain ⟨fs, a1, a2⟩ := gR_ok h19
  refine h_getr O hH a1 a2 fl_X4_15 dX4_clear_29 ?_
  refine lv_iconst (v := (-1)) hx hb dX4_clear_32 (by decide) ?_
  obtain ⟨L20, D21, h22, h⟩ := bC_some h
  refine hc_callS (As := [.ref (z + q18), .int (-1)]) (rest := []) O hH (cc_J7_fill_53178 h22) ml_X4_37 rfl hl.1 rfl ⟨(Nat.le_of_ble_eq_true rfl), (Nat.le_of_ble_eq_true rfl)⟩ (Nat.le_of_ble_eq_true rfl) ⟨(Nat.le_of_ble_eq_true rfl), (Nat.le_of_ble_eq_true rfl)⟩ dX4_clear_33 (fun H locs hH => ?_)
  refine lv_aload_n hx hb dX4_clear_36 rfl (lv_at hl 0 rfl) ?_
  obtain ⟨q23, h24, h⟩ := bnd_some h
  obtain ⟨fs, a1, a2⟩ := gR_ok h24
  refine h_getr O hH a1 a2 fl_X4_18 dX4_clear_37 ?_
  refine lv_iconst (v := (-1)) hx hb dX4_clear_40 (by decide) ?_
  obtain ⟨L25, D26, h27, h⟩ := bC_some h
  refine hc_callS (As := [.ref (z + q23), .int (-1)]) (rest := []) O hH (cc_J7_fill_53178 h27) ml_X4_37 rfl hl.1 rfl ⟨(Nat.le_of_ble_eq_true rfl), (Nat.le_of_ble_eq_true rfl)⟩ (Nat.le_of_ble_eq_true rfl) ⟨(Nat.le_of_ble_eq_true rfl), (Nat.le_of_ble_eq_true rfl)⟩ dX4_clear_41 (fun H locs hH => ?_)
  obtain ⟨rfl, rfl⟩ := ret_c h
  exact h_vret O hr hlk hH dX4_clear_44
set_option maxHeartbeats 4000000 in
theorem cc_X4_clear {l : Launch} {G : va_G} {tA : Nat → ClassId} {z : Nat} {E : Ex} {r0 : Nat} {L L' : List Sh} {D D' : Dm} (h : fc_X4_clear r0 L D = some (L', D')) : CtV l yX4_clear cX4_clear 1 G tA z E 2 0 0 [.ref (z + r0)] L D L' D' :=
  ct_BC (by decide +kernel) (Nat.le_of_ble_eq_true rfl) (fun _ _ _ _ _ _ _ _ O hr hlk hnm => v_X4_clear O hnm hr hlk _ _ _ h)
set_option maxHeartbeats 4000000 in
theorem v_X4_init {G : va_G} {tA : Nat → ClassId} {z : Nat} {E : Ex} {p : Program} {l : Launch} {e : Env} {s : State} {m : MethodId} {args : Array Value} {below : List Frame} {meth : Method} {c : Code} {L' : List Sh} {D' : Dm} (O : Ok G tA z E cX4_init RX4 1 p s m args c) (hnm : meth.name = "<init>") (hr : meth.sig.returnType = none) (hlk : meth.locks = false) (r0 : Nat) (L : List Sh) (D : Dm) (h : fc_X4_init r0 L D = some (L', D')) : BC G tA z E p l e (rmC 3 3 90) s m args below meth c 0 0 3 90 L D L' D' 1 0 [(0, .ref (z + r0))] [] := by
  obtain ⟨hx, hb, -, hown, hts, -⟩ := id O
  unfold fc_X4_init at h
  intro H locs ls hH hl
  refine lv_aload_n hx hb dX4_init_0 rfl (lv_at hl 0 rfl) ?_
  obtain ⟨L1, D2, h3, h⟩ := bC_some h
  refine hc_callN (As := []) (rest := []) O hH (cc_X9_init h3) mn_X4_3 rfl hl.1 rfl ⟨(Nat.le_of_ble_eq_true rfl), (Nat.le_of_ble_eq_true rfl)⟩ (Nat.le_of_ble_eq_true rfl) ⟨(Nat.le_of_ble_eq_true rfl), (Nat.le_of_ble_eq_true rfl)⟩ dX4_init_1 (fun H locs hH => ?_)
  refine lv_aload_n hx hb dX4_init_4 rfl (lv_at hl 0 rfl) ?_
  refine lv_bipush (v := 30) hx hb dX4_init_5 (by decide) ?_
  obtain ⟨q4, e7, h⟩ := lt_some h
  obtain ⟨L5, e8, h⟩ := lt_some h
  obtain ⟨D6, e9, h⟩ := lt_some h
  refine hc_newa (atype := .int) (t := 0) (N' := 30) O hH ww_67 rfl rfl (fun _ => rfl) rfl (by decide) (by decide) (by decide) (Nat.le_of_ble_eq_true rfl) (Nat.le_of_ble_eq_true rfl) e7 e8 e9 dX4_init_7 (fun H hH => ?_)
  obtain ⟨L10, h11, h⟩ := bnd_some h
  obtain ⟨fs, o, a1, a2, a3⟩ := pR_ok h11
  refine hc_putr O hnm hH a1 a2 fl_X4_11 (fun _ _ _ h => by cases h; rfl) (fun _ => ⟨rfl, rfl⟩) a3 dX4_init_9 (fun H locs hH => ?_)
  refine lv_aload_n hx hb dX4_init_12 rfl (lv_at hl 0 rfl) ?_
  refine lv_bipush (v := 30) hx hb dX4_init_13 (by decide) ?_
  obtain ⟨q12, e15, h⟩ := lt_some h
  obtain ⟨L13, e16, h⟩ := lt_some h
  obtain ⟨D14, e17, h⟩ := lt_some h
  refine hc_newa (atype := .int) (t := 0) (N' := 30) O hH ww_67 rfl rfl (fun _ => rfl) rfl (by decide) (by decide) (by decide) (Nat.le_of_ble_eq_true rfl) (Nat.le_of_ble_eq_true rfl) e15 e16 e17 dX4_init_15 (fun H hH => ?_)
  obtain ⟨L18, h19, h⟩ := bnd_some h
  obtain ⟨fs, o, a1, a2, a3⟩ := pR_ok h19
  refine hc_putr O hnm hH a1 a2 fl_X4_15 (fun _ _ _ h => by cases h; rfl) (fun _ => ⟨rfl, rfl⟩) a3 dX4_init_17 (fun H locs hH => ?_)
  refine lv_aload_n hx hb dX4_init_20 rfl (lv_at hl 0 rfl) ?_
  refine lv_bipush (v := 30) hx hb dX4_init_21 (by decide) ?_
  obtain ⟨q20, e23, h⟩ := lt_some h
  obtain ⟨L21, e24, h⟩ := lt_some h
  obtain ⟨D22, e25, h⟩ := lt_some h
  refine hc_newa (atype := .int) (t := 0) (N' := 30) O hH ww_67 rfl rfl (fun _ => rfl) rfl (by decide) (by decide) (by decide) (Nat.le_of_ble_eq_true rfl) (Nat.le_of_ble_eq_true rfl) e23 e24 e25 dX4_init_23 (fun H hH => ?_)
  obtain ⟨L26, h27, h⟩ := bnd_some h
  obtain ⟨fs, o, a1, a2, a3⟩ := pR_ok h27
  refine hc_putr O hnm hH a1 a2 fl_X4_18 (fun _ _ _ h => by cases h; rfl) (fun _ => ⟨rfl, rfl⟩) a3 dX4_init_25 (fun H locs hH => ?_)
  refine lv_aload_n hx hb dX4_init_28 rfl (lv_at hl 0 rfl) ?_
  obtain ⟨g31, h⟩ := gd_some h
  obtain ⟨L28, D29, h30, h⟩ := bC_some h
  obtain ⟨fs, b1⟩ := cS_ok g31
  refine hc_callV (As := []) (rest := []) O hH (cc_X4_clear h30) ml_X4_21 b1 rfl rfl hl.1 rfl ⟨(Nat.le_of_ble_eq_true rfl), (Nat.le_of_ble_eq_true rfl)⟩ (Nat.le_of_ble_eq_true rfl) ⟨(Nat.le_of_ble_eq_true rfl), (Nat.le_of_ble_eq_true rfl)⟩ dX4_init_29 (fun H locs hH => ?_)
  obtain ⟨rfl, rfl⟩ := ret_c h
  exact h_vret O hr hlk hH dX4_init_32
set_option maxHeartbeats 4000000 in
theorem cc_X4_init {l : Launch} {G : va_G} {tA : Nat → ClassId} {z : Nat} {E : Ex} {r0 : Nat} {L L' : List Sh} {D D' : Dm} (h : fc_X4_init r0 L D = some (L', D')) : CtV l yX4_init cX4_init 1 G tA z E 3 3 90 [.ref (z + r0)] L D L' D' :=
  ct_BC (by decide +kernel) (Nat.le_of_ble_eq_true rfl) (fun _ _ _ _ _ _ _ _ O hr hlk hnm => v_X4_init O hnm hr hlk _ _ _ h)
set_option maxHeartbeats 4000000 in
theorem v_X6_init {G : va_G} {tA : Nat → ClassId} {z : Nat} {E : Ex} {p : Program} {l : Launch} {e : Env} {s : State} {m : MethodId} {args : Array Value} {below : List Frame} {meth : Method} {c : Code} {L' : List Sh} {D' : Dm} (O : Ok G tA z E cX6_init RX6 1 p s m args c) (hnm : meth.name = "<init>") (hr : meth.sig.returnType = none) (hlk : meth.locks = false) (r0 : Nat) (L : List Sh) (D : Dm) (h : fc_X6_init r0 L D = some (L', D')) : BC G tA z E p l e (rmC 2 9 34) s m args below meth c 0 0 9 34 L D L' D' 1 0 [(0, .ref (z + r0))] [] := by
  obtain ⟨hx, hb, -, hown, hts, -⟩ := id O
  unfold fc_X6_init at h
  intro H locs ls hH hl
  refine lv_aload_n hx hb dX6_init_0 rfl (lv_at hl 0 rfl) ?_
  refine hc_oinit O hl.1 ww_274 ⟨(Nat.le_of_ble_eq_true rfl), (Nat.le_of_ble_eq_true rfl)⟩ (rest := []) (Nat.le_of_ble_eq_true rfl) dX6_init_1 ?_
  refine lv_aload_n hx hb dX6_init_4 rfl (lv_at hl 0 rfl) ?_
  obtain ⟨q1, e4, h⟩ := lt_some h
  obtain ⟨L2, e5, h⟩ := lt_some h
  obtain ⟨D3, e6, h⟩ := lt_some h
  refine hc_new O hH cb_1 nb_1 ww_275 ww_191 ww_9 (Nat.le_of_ble_eq_true rfl) (Nat.le_of_ble_eq_true rfl) e4 e5 e6 dX6_init_5 (fun H hH => ?_)
  refine lv_dup hx hb dX6_init_8 rfl ?_
  obtain ⟨L7, D8, h9, h⟩ := bC_some h
  refine hc_callN (As := []) (rest := [.ref (z + q1), .ref (z + r0)]) O hH (cc_X1_init h9) mn_X6_11 rfl hl.1 rfl ⟨(Nat.le_of_ble_eq_true rfl), (Nat.le_of_ble_eq_true rfl)⟩ (Nat.le_of_ble_eq_true rfl) ⟨(Nat.le_of_ble_eq_true rfl), (Nat.le_of_ble_eq_true rfl)⟩ dX6_init_9 (fun H locs hH => ?_)
  obtain ⟨L10, h11, h⟩ := bnd_some h
  obtain ⟨fs, o, a1, a2, a3⟩ := pR_ok h11
  refine hc_putr O hnm hH a1 a2 fl_X6_12 (fun _ _ _ h => by cases h; rfl) (fun _ => ⟨rfl, rfl⟩) a3 dX6_init_12 (fun H locs hH => ?_)
  refine lv_aload_n hx hb dX6_init_15 rfl (lv_at hl 0 rfl) ?_
  refine lv_iconst (v := 2) hx hb dX6_init_16 (by decide) ?_
  obtain ⟨q12, e15, h⟩ := lt_some h
  obtain ⟨L13, e16, h⟩ := lt_some h
  obtain ⟨D14, e17, h⟩ := lt_some h
  refine hc_newa (atype := .int) (t := 0) (N' := 2) O hH ww_67 rfl rfl (fun _ => rfl) rfl (by decide) (by decide) (by decide) (Nat.le_of_ble_eq_true rfl) (Nat.le_of_ble_eq_true rfl) e15 e16 e17 dX6_init_17 (fun H hH => ?_)
  obtain ⟨L18, h19, h⟩ := bnd_some h
  obtain ⟨fs, o, a1, a2, a3⟩ := pR_ok h19
  refine hc_putr O hnm hH a1 a2 fl_X6_18 (fun _ _ _ h => by cases h; rfl) (fun _ => ⟨rfl, rfl⟩) a3 dX6_init_19 (fun H locs hH => ?_)
  refine lv_aload_n hx hb dX6_init_22 rfl (lv_at hl 0 rfl) ?_
  refine lv_iconst (v := 2) hx hb dX6_init_23 (by decide) ?_
  obtain ⟨q20, e23, h⟩ := lt_some h
  obtain ⟨L21, e24, h⟩ := lt_some h
  obtain ⟨D22, e25, h⟩ := lt_some h
  refine hc_newa (atype := .int) (t := 0) (N' := 2) O hH ww_67 rfl rfl (fun _ => rfl) rfl (by decide) (by decide) (by decide) (Nat.le_of_ble_eq_true rfl) (Nat.le_of_ble_eq_true rfl) e23 e24 e25 dX6_init_24 (fun H hH => ?_)
  obtain ⟨L26, h27, h⟩ := bnd_some h
  obtain ⟨fs, o, a1, a2, a3⟩ := pR_ok h27
  refine hc_putr O hnm hH a1 a2 fl_X6_22 (fun _ _ _ h => by cases h; rfl) (fun _ => ⟨rfl, rfl⟩) a3 dX6_init_26 (fun H locs hH => ?_)
  refine lv_aload_n hx hb dX6_init_29 rfl (lv_at hl 0 rfl) ?_
  refine lv_iconst (v := 2) hx hb dX6_init_30 (by decide) ?_
  obtain ⟨q28, e31, h⟩ := lt_some h
  obtain ⟨L29, e32, h⟩ := lt_some h
  obtain ⟨D30, e33, h⟩ := lt_some h
  refine hc_newa (atype := .int) (t := 0) (N' := 2) O hH ww_67 rfl rfl (fun _ => rfl) rfl (by decide) (by decide) (by decide) (Nat.le_of_ble_eq_true rfl) (Nat.le_of_ble_eq_true rfl) e31 e32 e33 dX6_init_31 (fun H hH => ?_)
  obtain ⟨L34, h35, h⟩ := bnd_some h
  obtain ⟨fs, o, a1, a2, a3⟩ := pR_ok h35
  refine hc_putr O hnm hH a1 a2 fl_X6_25 (fun _ _ _ h => by cases h; rfl) (fun _ => ⟨rfl, rfl⟩) a3 dX6_init_33 (fun H locs hH => ?_)
  refine lv_aload_n hx hb dX6_init_36 rfl (lv_at hl 0 rfl) ?_
  refine lv_iconst (v := 2) hx hb dX6_init_37 (by decide) ?_
  obtain ⟨q36, e39, h⟩ := lt_some h
  obtain ⟨L37, e40, h⟩ := lt_some h
  obtain ⟨D38, e41, h⟩ := lt_some h
  refine hc_newa (atype := .int) (t := 0) (N' := 2) O hH ww_67 rfl rfl (fun _ => rfl) rfl (by decide) (by decide) (by decide) (Nat.le_of_ble_eq_true rfl) (Nat.le_of_ble_eq_true rfl) e39 e40 e41 dX6_init_38 (fun H hH => ?_)
  obtain ⟨L42, h43, h⟩ := bnd_some h
  obtain ⟨fs, o, a1, a2, a3⟩ := pR_ok h43
  refine hc_putr O hnm hH a1 a2 fl_X6_28 (fun _ _ _ h => by cases h; rfl) (fun _ => ⟨rfl, rfl⟩) a3 dX6_init_40 (fun H locs hH => ?_)
  refine lv_aload_n hx hb dX6_init_43 rfl (lv_at hl 0 rfl) ?_
  refine lv_iconst (v := 2) hx hb dX6_init_44 (by decide) ?_
  obtain ⟨q44, e47, h⟩ := lt_some h
  obtain ⟨L45, e48, h⟩ := lt_some h
  obtain ⟨D46, e49, h⟩ := lt_some h
  refine hc_newa (atype := .int) (t := 0) (N' := 2) O hH ww_67 rfl rfl (fun _ => rfl) rfl (by decide) (by decide) (by decide) (Nat.le_of_ble_eq_true rfl) (Nat.le_of_ble_eq_true rfl) e47 e48 e49 dX6_init_45 (fun H hH => ?_)
  obtain ⟨L50, h51, h⟩ := bnd_some h
  obtain ⟨fs, o, a1, a2, a3⟩ := pR_ok h51
  refine hc_putr O hnm hH a1 a2 fl_X6_31 (fun _ _ _ h => by cases h; rfl) (fun _ => ⟨rfl, rfl⟩) a3 dX6_init_47 (fun H locs hH => ?_)
  refine lv_aload_n hx hb dX6_init_50 rfl (lv_at hl 0 rfl) ?_
  refine lv_bipush (v := 10) hx hb dX6_init_51 (by decide) ?_
  obtain ⟨q52, e55, h⟩ := lt_some h
  obtain ⟨L53, e56, h⟩ := lt_some h
  obtain ⟨D54, e57, h⟩ := lt_some h
  refine hc_newa (atype := .int) (t := 0) (N' := 10) O hH ww_67 rfl rfl (fun _ => rfl) rfl (by decide) (by decide) (by decide) (Nat.le_of_ble_eq_true rfl) (Nat.le_of_ble_eq_true rfl) e55 e56 e57 dX6_init_53 (fun H hH => ?_)
  obtain ⟨L58, h59, h⟩ := bnd_some h
  obtain ⟨fs, o, a1, a2, a3⟩ := pR_ok h59
  refine hc_putr O hnm hH a1 a2 fl_X6_34 (fun _ _ _ h => by cases h; rfl) (fun _ => ⟨rfl, rfl⟩) a3 dX6_init_55 (fun H locs hH => ?_)
  refine lv_aload_n hx hb dX6_init_58 rfl (lv_at hl 0 rfl) ?_
  refine lv_bipush (v := 10) hx hb dX6_init_59 (by decide) ?_
  obtain ⟨q60, e63, h⟩ := lt_some h
  obtain ⟨L61, e64, h⟩ := lt_some h
  obtain ⟨D62, e65, h⟩ := lt_some h
  refine hc_newa (atype := .int) (t := 0) (N' := 10) O hH ww_67 rfl rfl (fun _ => rfl) rfl (by decide) (by decide) (by decide) (Nat.le_of_ble_eq_true rfl) (Nat.le_of_ble_eq_true rfl) e63 e64 e65 dX6_init_61 (fun H hH => ?_)
  obtain ⟨L66, h67, h⟩ := bnd_some h
  obtain ⟨fs, o, a1, a2, a3⟩ := pR_ok h67
  refine hc_putr O hnm hH a1 a2 fl_X6_37 (fun _ _ _ h => by cases h; rfl) (fun _ => ⟨rfl, rfl⟩) a3 dX6_init_63 (fun H locs hH => ?_)
  obtain ⟨rfl, rfl⟩ := ret_c h
  exact h_vret O hr hlk hH dX6_init_66
set_option maxHeartbeats 4000000 in
theorem cc_X6_init {l : Launch} {G : va_G} {tA : Nat → ClassId} {z : Nat} {E : Ex} {r0 : Nat} {L L' : List Sh} {D D' : Dm} (h : fc_X6_init r0 L D = some (L', D')) : CtV l yX6_init cX6_init 1 G tA z E 2 9 34 [.ref (z + r0)] L D L' D' :=
  ct_BC (by decide +kernel) (Nat.le_of_ble_eq_true rfl) (fun _ _ _ _ _ _ _ _ O hr hlk hnm => v_X6_init O hnm hr hlk _ _ _ h)
set_option maxHeartbeats 4000000 in
theorem v_X2_init {G : va_G} {tA : Nat → ClassId} {z : Nat} {E : Ex} {p : Program} {l : Launch} {e : Env} {s : State} {m : MethodId} {args : Array Value} {below : List Frame} {meth : Method} {c : Code} {L' : List Sh} {D' : Dm} (O : Ok G tA z E cX2_init RX2 1 p s m args c) (hnm : meth.name = "<init>") (hr : meth.sig.returnType = none) (hlk : meth.locks = false) (r0 : Nat) (L : List Sh) (D : Dm) (h : fc_X2_init r0 L D = some (L', D')) : BC G tA z E p l e (rmC 2 3 180) s m args below meth c 0 0 3 180 L D L' D' 1 0 [(0, .ref (z + r0))] [] := by
  obtain ⟨hx, hb, -, hown, hts, -⟩ := id O
  unfold fc_X2_init at h
  intro H locs ls hH hl
  refine lv_aload_n hx hb dX2_init_0 rfl (lv_at hl 0 rfl) ?_
  obtain ⟨L1, D2, h3, h⟩ := bC_some h
  refine hc_callN (As := []) (rest := []) O hH (cc_X9_init h3) mn_X2_3 rfl hl.1 rfl ⟨(Nat.le_of_ble_eq_true rfl), (Nat.le_of_ble_eq_true rfl)⟩ (Nat.le_of_ble_eq_true rfl) ⟨(Nat.le_of_ble_eq_true rfl), (Nat.le_of_ble_eq_true rfl)⟩ dX2_init_1 (fun H locs hH => ?_)
  refine lv_aload_n hx hb dX2_init_4 rfl (lv_at hl 0 rfl) ?_
  refine lv_bipush (v := 60) hx hb dX2_init_5 (by decide) ?_
  obtain ⟨q4, e7, h⟩ := lt_some h
  obtain ⟨L5, e8, h⟩ := lt_some h
  obtain ⟨D6, e9, h⟩ := lt_some h
  refine hc_newa (atype := .int) (t := 0) (N' := 60) O hH ww_67 rfl rfl (fun _ => rfl) rfl (by decide) (by decide) (by decide) (Nat.le_of_ble_eq_true rfl) (Nat.le_of_ble_eq_true rfl) e7 e8 e9 dX2_init_7 (fun H hH => ?_)
  obtain ⟨L10, h11, h⟩ := bnd_some h
  obtain ⟨fs, o, a1, a2, a3⟩ := pR_ok h11
  refine hc_putr O hnm hH a1 a2 fl_X2_11 (fun _ _ _ h => by cases h; rfl) (fun _ => ⟨rfl, rfl⟩) a3 dX2_init_9 (fun H locs hH => ?_)
  refine lv_aload_n hx hb dX2_init_12 rfl (lv_at hl 0 rfl) ?_
  refine lv_bipush (v := 60) hx hb dX2_init_13 (by decide) ?_
  obtain ⟨q12, e15, h⟩ := lt_some h
  obtain ⟨L13, e16, h⟩ := lt_some h
  obtain ⟨D14, e17, h⟩ := lt_some h
  refine hc_newa (atype := .int) (t := 0) (N' := 60) O hH ww_67 rfl rfl (fun _ => rfl) rfl (by decide) (by decide) (by decide) (Nat.le_of_ble_eq_true rfl) (Nat.le_of_ble_eq_true rfl) e15 e16 e17 dX2_init_15 (fun H hH => ?_)
  obtain ⟨L18, h19, h⟩ := bnd_some h
  obtain ⟨fs, o, a1, a2, a3⟩ := pR_ok h19
  refine hc_putr O hnm hH a1 a2 fl_X2_15 (fun _ _ _ h => by cases h; rfl) (fun _ => ⟨rfl, rfl⟩) a3 dX2_init_17 (fun H locs hH => ?_)
  refine lv_aload_n hx hb dX2_init_20 rfl (lv_at hl 0 rfl) ?_
  refine lv_bipush (v := 60) hx hb dX2_init_21 (by decide) ?_
  obtain ⟨q20, e23, h⟩ := lt_some h
  obtain ⟨L21, e24, h⟩ := lt_some h
  obtain ⟨D22, e25, h⟩ := lt_some h
  refine hc_newa (atype := .int) (t := 0) (N' := 60) O hH ww_67 rfl rfl (fun _ => rfl) rfl (by decide) (by decide) (by decide) (Nat.le_of_ble_eq_true rfl) (Nat.le_of_ble_eq_true rfl) e23 e24 e25 dX2_init_23 (fun H hH => ?_)
  obtain ⟨L26, h27, h⟩ := bnd_some h
  obtain ⟨fs, o, a1, a2, a3⟩ := pR_ok h27
  refine hc_putr O hnm hH a1 a2 fl_X2_18 (fun _ _ _ h => by cases h; rfl) (fun _ => ⟨rfl, rfl⟩) a3 dX2_init_25 (fun H locs hH => ?_)
  obtain ⟨rfl, rfl⟩ := ret_c h
  exact h_vret O hr hlk hH dX2_init_28
set_option maxHeartbeats 4000000 in
theorem cc_X2_init {l : Launch} {G : va_G} {tA : Nat → ClassId} {z : Nat} {E : Ex} {r0 : Nat} {L L' : List Sh} {D D' : Dm} (h : fc_X2_init r0 L D = some (L', D')) : CtV l yX2_init cX2_init 1 G tA z E 2 3 180 [.ref (z + r0)] L D L' D' :=
  ct_BC (by decide +kernel) (Nat.le_of_ble_eq_true rfl) (fun _ _ _ _ _ _ _ _ O hr hlk hnm => v_X2_init O hnm hr hlk _ _ _ h)
set_option maxHeartbeats 4000000 in
theorem v_X7_init {G : va_G} {tA : Nat → ClassId} {z : Nat} {E : Ex} {p : Program} {l : Launch} {e : Env} {s : State} {m : MethodId} {args : Array Value} {below : List Frame} {meth : Method} {c : Code} {L' : List Sh} {D' : Dm} (O : Ok G tA z E cX7_init RX7 1 p s m args c) (hnm : meth.name = "<init>") (hr : meth.sig.returnType = none) (hlk : meth.locks = false) (r0 : Nat) (L : List Sh) (D : Dm) (h : fc_X7_init r0 L D = some (L', D')) : BC G tA z E p l e (rmC 1 1 500) s m args below meth c 0 0 1 500 L D L' D' 1 0 [(0, .ref (z + r0))] [] := by
  obtain ⟨hx, hb, -, hown, hts, -⟩ := id O
  unfold fc_X7_init at h
  intro H locs ls hH hl
  refine lv_aload_n hx hb dX7_init_0 rfl (lv_at hl 0 rfl) ?_
  refine hc_oinit O hl.1 ww_35 ⟨(Nat.le_of_ble_eq_true rfl), (Nat.le_of_ble_eq_true rfl)⟩ (rest := []) (Nat.le_of_ble_eq_true rfl) dX7_init_1 ?_
  refine lv_aload_n hx hb dX7_init_4 rfl (lv_at hl 0 rfl) ?_
  refine lv_sipush (v := 500) hx hb dX7_init_5 (by decide) ?_
  obtain ⟨q1, e4, h⟩ := lt_some h
  obtain ⟨L2, e5, h⟩ := lt_some h
  obtain ⟨D3, e6, h⟩ := lt_some h
  refine hc_newa (atype := .int) (t := 0) (N' := 500) O hH ww_67 rfl rfl (fun _ => rfl) rfl (by decide) (by decide) (by decide) (Nat.le_of_ble_eq_true rfl) (Nat.le_of_ble_eq_true rfl) e4 e5 e6 dX7_init_8 (fun H hH => ?_)
  obtain ⟨L7, h8, h⟩ := bnd_some h
  obtain ⟨fs, o, a1, a2, a3⟩ := pR_ok h8
  refine hc_putr O hnm hH a1 a2 fl_X7_9 (fun _ _ _ h => by cases h; rfl) (fun _ => ⟨rfl, rfl⟩) a3 dX7_init_10 (fun H locs hH => ?_)
  refine lv_aload_n hx hb dX7_init_13 rfl (lv_at hl 0 rfl) ?_
  refine lv_iconst (v := (-1)) hx hb dX7_init_14 (by decide) ?_
  obtain ⟨g9, h⟩ := gd_some h
  obtain ⟨fs, a1, a2⟩ := cI_ok g9
  obtain ⟨D10, e11, h⟩ := lt_some h
  refine hc_puti O hH a1 a2 fl_X7_15 rfl rfl e11 dX7_init_15 (fun H locs hH => ?_)
  obtain ⟨rfl, rfl⟩ := ret_c h
  exact h_vret O hr hlk hH dX7_init_18
set_option maxHeartbeats 4000000 in
theorem cc_X7_init {l : Launch} {G : va_G} {tA : Nat → ClassId} {z : Nat} {E : Ex} {r0 : Nat} {L L' : List Sh} {D D' : Dm} (h : fc_X7_init r0 L D = some (L', D')) : CtV l yX7_init cX7_init 1 G tA z E 1 1 500 [.ref (z + r0)] L D L' D' :=
  ct_BC (by decide +kernel) (Nat.le_of_ble_eq_true rfl) (fun _ _ _ _ _ _ _ _ O hr hlk hnm => v_X7_init O hnm hr hlk _ _ _ h)
set_option maxHeartbeats 4000000 in
theorem v_X5_init {G : va_G} {tA : Nat → ClassId} {z : Nat} {E : Ex} {p : Program} {l : Launch} {e : Env} {s : State} {m : MethodId} {args : Array Value} {below : List Frame} {meth : Method} {c : Code} {L' : List Sh} {D' : Dm} (O : Ok G tA z E cX5_init RX5 1 p s m args c) (hnm : meth.name = "<init>") (hr : meth.sig.returnType = none) (hlk : meth.locks = false) (r0 : Nat) (L : List Sh) (D : Dm) (h : fc_X5_init r0 L D = some (L', D')) : BC G tA z E p l e (rmC 4 4 97) s m args below meth c 0 0 4 97 L D L' D' 1 0 [(0, .ref (z + r0))] [] := by
  obtain ⟨hx, hb, -, hown, hts, -⟩ := id O
  unfold fc_X5_init at h
  intro H locs ls hH hl
  refine lv_aload_n hx hb dX5_init_0 rfl (lv_at hl 0 rfl) ?_
  refine hc_oinit O hl.1 ww_73 ⟨(Nat.le_of_ble_eq_true rfl), (Nat.le_of_ble_eq_true rfl)⟩ (rest := []) (Nat.le_of_ble_eq_true rfl) dX5_init_1 ?_
  refine lv_aload_n hx hb dX5_init_4 rfl (lv_at hl 0 rfl) ?_
  obtain ⟨q1, e4, h⟩ := lt_some h
  obtain ⟨L2, e5, h⟩ := lt_some h
  obtain ⟨D3, e6, h⟩ := lt_some h
  refine hc_new O hH cb_4 nb_4 ww_74 ww_75 ww_5 (Nat.le_of_ble_eq_true rfl) (Nat.le_of_ble_eq_true rfl) e4 e5 e6 dX5_init_5 (fun H hH => ?_)
  refine lv_dup hx hb dX5_init_8 rfl ?_
  obtain ⟨L7, D8, h9, h⟩ := bC_some h
  refine hc_callI (As := []) (rest := [.ref (z + q1), .ref (z + r0)]) O hH (cc_X4_init h9) mi_X5_11 rfl hl.1 rfl ⟨(Nat.le_of_ble_eq_true rfl), (Nat.le_of_ble_eq_true rfl)⟩ (Nat.le_of_ble_eq_true rfl) ⟨(Nat.le_of_ble_eq_true rfl), (Nat.le_of_ble_eq_true rfl)⟩ dX5_init_9 (fun H locs hH => ?_)
  obtain ⟨L10, h11, h⟩ := bnd_some h
  obtain ⟨fs, o, a1, a2, a3⟩ := pR_ok h11
  refine hc_putr O hnm hH a1 a2 fl_X5_12 (fun _ _ _ h => by cases h; rfl) (fun _ => ⟨rfl, rfl⟩) a3 dX5_init_12 (fun H locs hH => ?_)
  obtain ⟨rfl, rfl⟩ := ret_c h
  exact h_vret O hr hlk hH dX5_init_15
set_option maxHeartbeats 4000000 in
theorem cc_X5_init {l : Launch} {G : va_G} {tA : Nat → ClassId} {z : Nat} {E : Ex} {r0 : Nat} {L L' : List Sh} {D D' : Dm} (h : fc_X5_init r0 L D = some (L', D')) : CtV l yX5_init cX5_init 1 G tA z E 4 4 97 [.ref (z + r0)] L D L' D' :=
  ct_BC (by decide +kernel) (Nat.le_of_ble_eq_true rfl) (fun _ _ _ _ _ _ _ _ O hr hlk hnm => v_X5_init O hnm hr hlk _ _ _ h)
set_option maxHeartbeats 4000000 in
theorem v_X8_init {G : va_G} {tA : Nat → ClassId} {z : Nat} {E : Ex} {p : Program} {l : Launch} {e : Env} {s : State} {m : MethodId} {args : Array Value} {below : List Frame} {meth : Method} {c : Code} {L' : List Sh} {D' : Dm} (O : Ok G tA z E cX8_init RX8 1 p s m args c) (hnm : meth.name = "<init>") (hr : meth.sig.returnType = none) (hlk : meth.locks = false) (r0 : Nat) (L : List Sh) (D : Dm) (h : fc_X8_init r0 L D = some (L', D')) : BC G tA z E p l e (rmC 2 17 8090) s m args below meth c 0 0 17 8090 L D L' D' 1 0 [(0, .ref (z + r0))] [] := by
  obtain ⟨hx, hb, -, hown, hts, -⟩ := id O
  unfold fc_X8_init at h
  intro H locs ls hH hl
  refine lv_aload_n hx hb dX8_init_0 rfl (lv_at hl 0 rfl) ?_
  refine hc_oinit O hl.1 ww_189 ⟨(Nat.le_of_ble_eq_true rfl), (Nat.le_of_ble_eq_true rfl)⟩ (rest := []) (Nat.le_of_ble_eq_true rfl) dX8_init_1 ?_
  refine lv_aload_n hx hb dX8_init_4 rfl (lv_at hl 0 rfl) ?_
  refine lv_sipush (v := 1290) hx hb dX8_init_5 (by decide) ?_
  obtain ⟨q1, e4, h⟩ := lt_some h
  obtain ⟨L2, e5, h⟩ := lt_some h
  obtain ⟨D3, e6, h⟩ := lt_some h
  refine hc_newa (atype := .int) (t := 0) (N' := 1290) O hH ww_67 rfl rfl (fun _ => rfl) rfl (by decide) (by decide) (by decide) (Nat.le_of_ble_eq_true rfl) (Nat.le_of_ble_eq_true rfl) e4 e5 e6 dX8_init_8 (fun H hH => ?_)
  obtain ⟨L7, h8, h⟩ := bnd_some h
  obtain ⟨fs, o, a1, a2, a3⟩ := pR_ok h8
  refine hc_putr O hnm hH a1 a2 fl_X8_11 (fun _ _ _ h => by cases h; rfl) (fun _ => ⟨rfl, rfl⟩) a3 dX8_init_10 (fun H locs hH => ?_)
  refine lv_aload_n hx hb dX8_init_13 rfl (lv_at hl 0 rfl) ?_
  refine lv_sipush (v := 1351) hx hb dX8_init_14 (by decide) ?_
  obtain ⟨q9, e12, h⟩ := lt_some h
  obtain ⟨L10, e13, h⟩ := lt_some h
  obtain ⟨D11, e14, h⟩ := lt_some h
  refine hc_newa (atype := .int) (t := 0) (N' := 1351) O hH ww_67 rfl rfl (fun _ => rfl) rfl (by decide) (by decide) (by decide) (Nat.le_of_ble_eq_true rfl) (Nat.le_of_ble_eq_true rfl) e12 e13 e14 dX8_init_17 (fun H hH => ?_)
  obtain ⟨L15, h16, h⟩ := bnd_some h
  obtain ⟨fs, o, a1, a2, a3⟩ := pR_ok h16
  refine hc_putr O hnm hH a1 a2 fl_X8_15 (fun _ _ _ h => by cases h; rfl) (fun _ => ⟨rfl, rfl⟩) a3 dX8_init_19 (fun H locs hH => ?_)
  refine lv_aload_n hx hb dX8_init_22 rfl (lv_at hl 0 rfl) ?_
  refine lv_sipush (v := 1351) hx hb dX8_init_23 (by decide) ?_
  obtain ⟨q17, e20, h⟩ := lt_some h
  obtain ⟨L18, e21, h⟩ := lt_some h
  obtain ⟨D19, e22, h⟩ := lt_some h
  refine hc_newa (atype := .int) (t := 0) (N' := 1351) O hH ww_67 rfl rfl (fun _ => rfl) rfl (by decide) (by decide) (by decide) (Nat.le_of_ble_eq_true rfl) (Nat.le_of_ble_eq_true rfl) e20 e21 e22 dX8_init_26 (fun H hH => ?_)
  obtain ⟨L23, h24, h⟩ := bnd_some h
  obtain ⟨fs, o, a1, a2, a3⟩ := pR_ok h24
  refine hc_putr O hnm hH a1 a2 fl_X8_18 (fun _ _ _ h => by cases h; rfl) (fun _ => ⟨rfl, rfl⟩) a3 dX8_init_28 (fun H locs hH => ?_)
  refine lv_aload_n hx hb dX8_init_31 rfl (lv_at hl 0 rfl) ?_
  refine lv_sipush (v := 1351) hx hb dX8_init_32 (by decide) ?_
  obtain ⟨q25, e28, h⟩ := lt_some h
  obtain ⟨L26, e29, h⟩ := lt_some h
  obtain ⟨D27, e30, h⟩ := lt_some h
  refine hc_newa (atype := .int) (t := 0) (N' := 1351) O hH ww_67 rfl rfl (fun _ => rfl) rfl (by decide) (by decide) (by decide) (Nat.le_of_ble_eq_true rfl) (Nat.le_of_ble_eq_true rfl) e28 e29 e30 dX8_init_35 (fun H hH => ?_)
  obtain ⟨L31, h32, h⟩ := bnd_some h
  obtain ⟨fs, o, a1, a2, a3⟩ := pR_ok h32
  refine hc_putr O hnm hH a1 a2 fl_X8_21 (fun _ _ _ h => by cases h; rfl) (fun _ => ⟨rfl, rfl⟩) a3 dX8_init_37 (fun H locs hH => ?_)
  refine lv_aload_n hx hb dX8_init_40 rfl (lv_at hl 0 rfl) ?_
  refine lv_sipush (v := 1351) hx hb dX8_init_41 (by decide) ?_
  obtain ⟨q33, e36, h⟩ := lt_some h
  obtain ⟨L34, e37, h⟩ := lt_some h
  obtain ⟨D35, e38, h⟩ := lt_some h
  refine hc_newa (atype := .int) (t := 0) (N' := 1351) O hH ww_67 rfl rfl (fun _ => rfl) rfl (by decide) (by decide) (by decide) (Nat.le_of_ble_eq_true rfl) (Nat.le_of_ble_eq_true rfl) e36 e37 e38 dX8_init_44 (fun H hH => ?_)
  obtain ⟨L39, h40, h⟩ := bnd_some h
  obtain ⟨fs, o, a1, a2, a3⟩ := pR_ok h40
  refine hc_putr O hnm hH a1 a2 fl_X8_24 (fun _ _ _ h => by cases h; rfl) (fun _ => ⟨rfl, rfl⟩) a3 dX8_init_46 (fun H locs hH => ?_)
  refine lv_aload_n hx hb dX8_init_49 rfl (lv_at hl 0 rfl) ?_
  refine lv_sipush (v := 1351) hx hb dX8_init_50 (by decide) ?_
  obtain ⟨q41, e44, h⟩ := lt_some h
  obtain ⟨L42, e45, h⟩ := lt_some h
  obtain ⟨D43, e46, h⟩ := lt_some h
  refine hc_newa (atype := .int) (t := 0) (N' := 1351) O hH ww_67 rfl rfl (fun _ => rfl) rfl (by decide) (by decide) (by decide) (Nat.le_of_ble_eq_true rfl) (Nat.le_of_ble_eq_true rfl) e44 e45 e46 dX8_init_53 (fun H hH => ?_)
  obtain ⟨L47, h48, h⟩ := bnd_some h
  obtain ⟨fs, o, a1, a2, a3⟩ := pR_ok h48
  refine hc_putr O hnm hH a1 a2 fl_X8_27 (fun _ _ _ h => by cases h; rfl) (fun _ => ⟨rfl, rfl⟩) a3 dX8_init_55 (fun H locs hH => ?_)
  refine lv_aload_n hx hb dX8_init_58 rfl (lv_at hl 0 rfl) ?_
  obtain ⟨q49, e52, h⟩ := lt_some h
  obtain ⟨L50, e53, h⟩ := lt_some h
  obtain ⟨D51, e54, h⟩ := lt_some h
  refine hc_new O hH cb_1 nb_1 ww_190 ww_191 ww_9 (Nat.le_of_ble_eq_true rfl) (Nat.le_of_ble_eq_true rfl) e52 e53 e54 dX8_init_59 (fun H hH => ?_)
  refine lv_dup hx hb dX8_init_62 rfl ?_
  obtain ⟨L55, D56, h57, h⟩ := bC_some h
  refine hc_callN (As := []) (rest := [.ref (z + q49), .ref (z + r0)]) O hH (cc_X1_init h57) mn_X8_32 rfl hl.1 rfl ⟨(Nat.le_of_ble_eq_true rfl), (Nat.le_of_ble_eq_true rfl)⟩ (Nat.le_of_ble_eq_true rfl) ⟨(Nat.le_of_ble_eq_true rfl), (Nat.le_of_ble_eq_true rfl)⟩ dX8_init_63 (fun H locs hH => ?_)
  obtain ⟨L58, h59, h⟩ := bnd_some h
  obtain ⟨fs, o, a1, a2, a3⟩ := pR_ok h59
  refine hc_putr O hnm hH a1 a2 fl_X8_33 (fun _ _ _ h => by cases h; rfl) (fun _ => ⟨rfl, rfl⟩) a3 dX8_init_66 (fun H locs hH => ?_)
  refine lv_aload_n hx hb dX8_init_69 rfl (lv_at hl 0 rfl) ?_
  obtain ⟨q60, e63, h⟩ := lt_some h
  obtain ⟨L61, e64, h⟩ := lt_some h
  obtain ⟨D62, e65, h⟩ := lt_some h
  refine hc_new O hH cb_1 nb_1 ww_190 ww_191 ww_9 (Nat.le_of_ble_eq_true rfl) (Nat.le_of_ble_eq_true rfl) e63 e64 e65 dX8_init_70 (fun H hH => ?_)
  refine lv_dup hx hb dX8_init_73 rfl ?_
  obtain ⟨L66, D67, h68, h⟩ := bC_some h
  refine hc_callN (As := []) (rest := [.ref (z + q60), .ref (z + r0)]) O hH (cc_X1_init h68) mn_X8_32 rfl hl.1 rfl ⟨(Nat.le_of_ble_eq_true rfl), (Nat.le_of_ble_eq_true rfl)⟩ (Nat.le_of_ble_eq_true rfl) ⟨(Nat.le_of_ble_eq_true rfl), (Nat.le_of_ble_eq_true rfl)⟩ dX8_init_74 (fun H locs hH => ?_)
  obtain ⟨L69, h70, h⟩ := bnd_some h
  obtain ⟨fs, o, a1, a2, a3⟩ := pR_ok h70
  refine hc_putr O hnm hH a1 a2 fl_X8_37 (fun _ _ _ h => by cases h; rfl) (fun _ => ⟨rfl, rfl⟩) a3 dX8_init_77 (fun H locs hH => ?_)
  refine lv_aload_n hx hb dX8_init_80 rfl (lv_at hl 0 rfl) ?_
  obtain ⟨q71, e74, h⟩ := lt_some h
  obtain ⟨L72, e75, h⟩ := lt_some h
  obtain ⟨D73, e76, h⟩ := lt_some h
  refine hc_new O hH cb_1 nb_1 ww_190 ww_191 ww_9 (Nat.le_of_ble_eq_true rfl) (Nat.le_of_ble_eq_true rfl) e74 e75 e76 dX8_init_81 (fun H hH => ?_)
  refine lv_dup hx hb dX8_init_84 rfl ?_
  obtain ⟨L77, D78, h79, h⟩ := bC_some h
  refine hc_callN (As := []) (rest := [.ref (z + q71), .ref (z + r0)]) O hH (cc_X1_init h79) mn_X8_32 rfl hl.1 rfl ⟨(Nat.le_of_ble_eq_true rfl), (Nat.le_of_ble_eq_true rfl)⟩ (Nat.le_of_ble_eq_true rfl) ⟨(Nat.le_of_ble_eq_true rfl), (Nat.le_of_ble_eq_true rfl)⟩ dX8_init_85 (fun H locs hH => ?_)
  obtain ⟨L80, h81, h⟩ := bnd_some h
  obtain ⟨fs, o, a1, a2, a3⟩ := pR_ok h81
  refine hc_putr O hnm hH a1 a2 fl_X8_40 (fun _ _ _ h => by cases h; rfl) (fun _ => ⟨rfl, rfl⟩) a3 dX8_init_88 (fun H locs hH => ?_)
  refine lv_aload_n hx hb dX8_init_91 rfl (lv_at hl 0 rfl) ?_
  obtain ⟨q82, e85, h⟩ := lt_some h
  obtain ⟨L83, e86, h⟩ := lt_some h
  obtain ⟨D84, e87, h⟩ := lt_some h
  refine hc_new O hH cb_1 nb_1 ww_190 ww_191 ww_9 (Nat.le_of_ble_eq_true rfl) (Nat.le_of_ble_eq_true rfl) e85 e86 e87 dX8_init_92 (fun H hH => ?_)
  refine lv_dup hx hb dX8_init_95 rfl ?_
  obtain ⟨L88, D89, h90, h⟩ := bC_some h
  refine hc_callN (As := []) (rest := [.ref (z + q82), .ref (z + r0)]) O hH (cc_X1_init h90) mn_X8_32 rfl hl.1 rfl ⟨(Nat.le_of_ble_eq_true rfl), (Nat.le_of_ble_eq_true rfl)⟩ (Nat.le_of_ble_eq_true rfl) ⟨(Nat.le_of_ble_eq_true rfl), (Nat.le_of_ble_eq_true rfl)⟩ dX8_init_96 (fun H locs hH => ?_)
  obtain ⟨L91, h92, h⟩ := bnd_some h
  obtain ⟨fs, o, a1, a2, a3⟩ := pR_ok h92
  refine hc_putr O hnm hH a1 a2 fl_X8_43 (fun _ _ _ h => by cases h; rfl) (fun _ => ⟨rfl, rfl⟩) a3 dX8_init_99 (fun H locs hH => ?_)
  refine lv_aload_n hx hb dX8_init_102 rfl (lv_at hl 0 rfl) ?_
  refine lv_iconst (v := 4) hx hb dX8_init_103 (by decide) ?_
  obtain ⟨q93, e96, h⟩ := lt_some h
  obtain ⟨L94, e97, h⟩ := lt_some h
  obtain ⟨D95, e98, h⟩ := lt_some h
  refine hc_newa (atype := .int) (t := 0) (N' := 4) O hH ww_67 rfl rfl (fun _ => rfl) rfl (by decide) (by decide) (by decide) (Nat.le_of_ble_eq_true rfl) (Nat.le_of_ble_eq_true rfl) e96 e97 e98 dX8_init_104 (fun H hH => ?_)
  obtain ⟨L99, h100, h⟩ := bnd_some h
  obtain ⟨fs, o, a1, a2, a3⟩ := pR_ok h100
  refine hc_putr O hnm hH a1 a2 fl_X8_46 (fun _ _ _ h => by cases h; rfl) (fun _ => ⟨rfl, rfl⟩) a3 dX8_init_106 (fun H locs hH => ?_)
  refine lv_aload_n hx hb dX8_init_109 rfl (lv_at hl 0 rfl) ?_
  refine lv_iconst (v := 5) hx hb dX8_init_110 (by decide) ?_
  obtain ⟨q101, e104, h⟩ := lt_some h
  obtain ⟨L102, e105, h⟩ := lt_some h
  obtain ⟨D103, e106, h⟩ := lt_some h
  refine hc_newa (atype := .int) (t := 0) (N' := 5) O hH ww_67 rfl rfl (fun _ => rfl) rfl (by decide) (by decide) (by decide) (Nat.le_of_ble_eq_true rfl) (Nat.le_of_ble_eq_true rfl) e104 e105 e106 dX8_init_111 (fun H hH => ?_)
  obtain ⟨L107, h108, h⟩ := bnd_some h
  obtain ⟨fs, o, a1, a2, a3⟩ := pR_ok h108
  refine hc_putr O hnm hH a1 a2 fl_X8_49 (fun _ _ _ h => by cases h; rfl) (fun _ => ⟨rfl, rfl⟩) a3 dX8_init_113 (fun H locs hH => ?_)
  refine lv_aload_n hx hb dX8_init_116 rfl (lv_at hl 0 rfl) ?_
  refine lv_bipush (v := 20) hx hb dX8_init_117 (by decide) ?_
  obtain ⟨q109, e112, h⟩ := lt_some h
  obtain ⟨L110, e113, h⟩ := lt_some h
  obtain ⟨D111, e114, h⟩ := lt_some h
  refine hc_newa (atype := .int) (t := 0) (N' := 20) O hH ww_67 rfl rfl (fun _ => rfl) rfl (by decide) (by decide) (by decide) (Nat.le_of_ble_eq_true rfl) (Nat.le_of_ble_eq_true rfl) e112 e113 e114 dX8_init_119 (fun H hH => ?_)
  obtain ⟨L115, h116, h⟩ := bnd_some h
  obtain ⟨fs, o, a1, a2, a3⟩ := pR_ok h116
  refine hc_putr O hnm hH a1 a2 fl_X8_52 (fun _ _ _ h => by cases h; rfl) (fun _ => ⟨rfl, rfl⟩) a3 dX8_init_121 (fun H locs hH => ?_)
  obtain ⟨rfl, rfl⟩ := ret_c h
  exact h_vret O hr hlk hH dX8_init_124
set_option maxHeartbeats 4000000 in
theorem cc_X8_init {l : Launch} {G : va_G} {tA : Nat → ClassId} {z : Nat} {E : Ex} {r0 : Nat} {L L' : List Sh} {D D' : Dm} (h : fc_X8_init r0 L D = some (L', D')) : CtV l yX8_init cX8_init 1 G tA z E 2 17 8090 [.ref (z + r0)] L D L' D' :=
  ct_BC (by decide +kernel) (Nat.le_of_ble_eq_true rfl) (fun _ _ _ _ _ _ _ _ O hr hlk hnm => v_X8_init O hnm hr hlk _ _ _ h)
set_option maxHeartbeats 4000000 in
theorem v_X0_init {G : va_G} {tA : Nat → ClassId} {z : Nat} {E : Ex} {p : Program} {l : Launch} {e : Env} {s : State} {m : MethodId} {args : Array Value} {below : List Frame} {meth : Method} {c : Code} {L' : List Sh} {D' : Dm} (O : Ok G tA z E cX0_init RX0 3 p s m args c) (hnm : meth.name = "<init>") (hr : meth.sig.returnType = none) (hlk : meth.locks = false) (r0 : Nat) (r1 : Nat) (L : List Sh) (D : Dm) (h : fc_X0_init r0 r1 L D = some (L', D')) : BC G tA z E p l e (rmC 2 45 670) s m args below meth c 0 0 45 670 L D L' D' 3 0 [(0, .ref (z + r0)), (1, .ref (z + r1))] [] := by
  obtain ⟨hx, hb, -, hown, hts, -⟩ := id O
  unfold fc_X0_init at h
  intro H locs ls hH hl
  refine lv_aload_n hx hb dX0_init_0 rfl (lv_at hl 0 rfl) ?_
  refine hc_oinit O hl.1 ww_345 ⟨(Nat.le_of_ble_eq_true rfl), (Nat.le_of_ble_eq_true rfl)⟩ (rest := []) (Nat.le_of_ble_eq_true rfl) dX0_init_1 ?_
  refine lv_aload_n hx hb dX0_init_4 rfl (lv_at hl 0 rfl) ?_
  refine lv_bipush (v := 10) hx hb dX0_init_5 (by decide) ?_
  obtain ⟨q1, e4, h⟩ := lt_some h
  obtain ⟨L2, e5, h⟩ := lt_some h
  obtain ⟨D3, e6, h⟩ := lt_some h
  refine hc_anew (t := 5) (N' := 10) O hH ww_346 (by decide) rfl (by decide) (by decide) (by decide) (Nat.le_of_ble_eq_true rfl) (Nat.le_of_ble_eq_true rfl) e4 e5 e6 dX0_init_7 (fun H hH => ?_)
  obtain ⟨L7, h8, h⟩ := bnd_some h
  obtain ⟨fs, o, a1, a2, a3⟩ := pR_ok h8
  refine hc_putr O hnm hH a1 a2 fl_X0_11 (fun _ _ _ h => by cases h; rfl) (fun _ => ⟨rfl, rfl⟩) a3 dX0_init_10 (fun H locs hH => ?_)
  refine lv_aload_n hx hb dX0_init_13 rfl (lv_at hl 0 rfl) ?_
  refine lv_iconst (v := 3) hx hb dX0_init_14 (by decide) ?_
  obtain ⟨q9, e12, h⟩ := lt_some h
  obtain ⟨L10, e13, h⟩ := lt_some h
  obtain ⟨D11, e14, h⟩ := lt_some h
  refine hc_newa (atype := .int) (t := 0) (N' := 3) O hH ww_67 rfl rfl (fun _ => rfl) rfl (by decide) (by decide) (by decide) (Nat.le_of_ble_eq_true rfl) (Nat.le_of_ble_eq_true rfl) e12 e13 e14 dX0_init_15 (fun H hH => ?_)
  obtain ⟨L15, h16, h⟩ := bnd_some h
  obtain ⟨fs, o, a1, a2, a3⟩ := pR_ok h16
  refine hc_putr O hnm hH a1 a2 fl_X0_17 (fun _ _ _ h => by cases h; rfl) (fun _ => ⟨rfl, rfl⟩) a3 dX0_init_17 (fun H locs hH => ?_)
  refine lv_aload_n hx hb dX0_init_20 rfl (lv_at hl 0 rfl) ?_
  refine lv_iconst (v := 3) hx hb dX0_init_21 (by decide) ?_
  obtain ⟨q17, e20, h⟩ := lt_some h
  obtain ⟨L18, e21, h⟩ := lt_some h
  obtain ⟨D19, e22, h⟩ := lt_some h
  refine hc_newa (atype := .int) (t := 0) (N' := 3) O hH ww_67 rfl rfl (fun _ => rfl) rfl (by decide) (by decide) (by decide) (Nat.le_of_ble_eq_true rfl) (Nat.le_of_ble_eq_true rfl) e20 e21 e22 dX0_init_22 (fun H hH => ?_)
  obtain ⟨L23, h24, h⟩ := bnd_some h
  obtain ⟨fs, o, a1, a2, a3⟩ := pR_ok h24
  refine hc_putr O hnm hH a1 a2 fl_X0_21 (fun _ _ _ h => by cases h; rfl) (fun _ => ⟨rfl, rfl⟩) a3 dX0_init_24 (fun H locs hH => ?_)
  refine lv_aload_n hx hb dX0_init_27 rfl (lv_at hl 0 rfl) ?_
  obtain ⟨q25, e28, h⟩ := lt_some h
  obtain ⟨L26, e29, h⟩ := lt_some h
  obtain ⟨D27, e30, h⟩ := lt_some h
  refine hc_new O hH cb_1 nb_1 ww_347 ww_191 ww_9 (Nat.le_of_ble_eq_true rfl) (Nat.le_of_ble_eq_true rfl) e28 e29 e30 dX0_init_28 (fun H hH => ?_)
  refine lv_dup hx hb dX0_init_31 rfl ?_
  obtain ⟨L31, D32, h33, h⟩ := bC_some h
  refine hc_callN (As := []) (rest := [.ref (z + q25), .ref (z + r0)]) O hH (cc_X1_init h33) mn_X0_26 rfl hl.1 rfl ⟨(Nat.le_of_ble_eq_true rfl), (Nat.le_of_ble_eq_true rfl)⟩ (Nat.le_of_ble_eq_true rfl) ⟨(Nat.le_of_ble_eq_true rfl), (Nat.le_of_ble_eq_true rfl)⟩ dX0_init_32 (fun H locs hH => ?_)
  obtain ⟨L34, h35, h⟩ := bnd_some h
  obtain ⟨fs, o, a1, a2, a3⟩ := pR_ok h35
  refine hc_putr O hnm hH a1 a2 fl_X0_27 (fun _ _ _ h => by cases h; rfl) (fun _ => ⟨rfl, rfl⟩) a3 dX0_init_35 (fun H locs hH => ?_)
  refine lv_aload_n hx hb dX0_init_38 rfl (lv_at hl 0 rfl) ?_
  refine lv_aload_n hx hb dX0_init_39 rfl (lv_at hl 1 rfl) ?_
  obtain ⟨L36, h37, h⟩ := bnd_some h
  obtain ⟨fs, o, a1, a2, a3⟩ := pR_ok h37
  refine hc_putr O hnm hH a1 a2 fl_X0_31 (fun _ _ _ h => by cases h; rfl) (fun _ => ⟨rfl, rfl⟩) a3 dX0_init_40 (fun H locs hH => ?_)
  refine lv_iconst (v := 0) hx hb dX0_init_43 (by decide) ?_
  refine lv_istore_n (lv' := [(2, .int 0), (0, .ref (z + r0)), (1, .ref (z + r1))]) hx hb dX0_init_44 rfl hl (by decide) rfl (fun ls hl => ?_)
  refine lv_iload_n hx hb dX0_init_45 rfl (lv_at hl 0 rfl) ?_
  refine lv_bipush (v := 10) hx hb dX0_init_46 (by decide) ?_
  refine lv_icmp_ge (tgt := 70) hx hb dX0_init_48 (by decide) (fun c => absurd c (by decide)) (fun _ => ?_)
  refine lv_aload_n hx hb dX0_init_51 rfl (lv_at hl 1 rfl) ?_
  obtain ⟨q38, h39, h⟩ := bnd_some h
  obtain ⟨fs, a1, a2⟩ := gR_ok h39
  refine h_getr O hH a1 a2 fl_X0_11 dX0_init_52 ?_
  refine lv_iload_n hx hb dX0_init_55 rfl (lv_at hl 0 rfl) ?_
  obtain ⟨q40, e43, h⟩ := lt_some h
  obtain ⟨L41, e44, h⟩ := lt_some h
  obtain ⟨D42, e45, h⟩ := lt_some h
  refine hc_new O hH cb_10 nb_10 ww_346 ww_146 ww_7 (Nat.le_of_ble_eq_true rfl) (Nat.le_of_ble_eq_true rfl) e43 e44 e45 dX0_init_56 (fun H hH => ?_)
  refine lv_dup hx hb dX0_init_59 rfl ?_
  obtain ⟨L46, D47, h48, h⟩ := bC_some h
  refine hc_callN (As := []) (rest := [.ref (z + q40), .int 0, .ref (z + q38)]) O hH (cc_X10_init h48) mn_X0_35 rfl hl.1 rfl ⟨(Nat.le_of_ble_eq_true rfl), (Nat.le_of_ble_eq_true rfl)⟩ (Nat.le_of_ble_eq_true rfl) ⟨(Nat.le_of_ble_eq_true rfl), (Nat.le_of_ble_eq_true rfl)⟩ dX0_init_60 (fun H locs hH => ?_)
  obtain ⟨g49, h⟩ := gd_some h
  obtain ⟨fs, b1⟩ := cS_ok g49
  obtain ⟨L50, h51, h⟩ := bnd_some h
  obtain ⟨rs, a1, a2, a3⟩ := pA_ok h51
  refine hc_aast O hH a1 rfl b1 rfl a2 (by decide) a3 dX0_init_63 (fun H locs hH => ?_)
  refine lv_iinc (v := 1) (lv' := [(2, .int 1), (0, .ref (z + r0)), (1, .ref (z + r1))]) hx hb dX0_init_64 hl (k := 0) rfl (by decide) (by decide) rfl (fun ls hl => ?_)
  refine lv_goto (tgt := 45) hx hb dX0_init_67 (by decide) ?_
  refine lv_iload_n hx hb dX0_init_45 rfl (lv_at hl 0 rfl) ?_
  refine lv_bipush (v := 10) hx hb dX0_init_46 (by decide) ?_
  refine lv_icmp_ge (tgt := 70) hx hb dX0_init_48 (by decide) (fun c => absurd c (by decide)) (fun _ => ?_)
  refine lv_aload_n hx hb dX0_init_51 rfl (lv_at hl 1 rfl) ?_
  obtain ⟨q52, h53, h⟩ := bnd_some h
  obtain ⟨fs, a1, a2⟩ := gR_ok h53
  refine h_getr O hH a1 a2 fl_X0_11 dX0_init_52 ?_
  refine lv_iload_n hx hb dX0_init_55 rfl (lv_at hl 0 rfl) ?_
  obtain ⟨q54, e57, h⟩ := lt_some h
  obtain ⟨L55, e58, h⟩ := lt_some h
  obtain ⟨D56, e59, h⟩ := lt_some h
  refine hc_new O hH cb_10 nb_10 ww_346 ww_146 ww_7 (Nat.le_of_ble_eq_true rfl) (Nat.le_of_ble_eq_true rfl) e57 e58 e59 dX0_init_56 (fun H hH => ?_)
  refine lv_dup hx hb dX0_init_59 rfl ?_
  obtain ⟨L60, D61, h62, h⟩ := bC_some h
  refine hc_callN (As := []) (rest := [.ref (z + q54), .int 1, .ref (z + q52)]) O hH (cc_X10_init h62) mn_X0_35 rfl hl.1 rfl ⟨(Nat.le_of_ble_eq_true rfl), (Nat.le_of_ble_eq_true rfl)⟩ (Nat.le_of_ble_eq_true rfl) ⟨(Nat.le_of_ble_eq_true rfl), (Nat.le_of_ble_eq_true rfl)⟩ dX0_init_60 (fun H locs hH => ?_)
  obtain ⟨g63, h⟩ := gd_some h
  obtain ⟨fs, b1⟩ := cS_ok g63
  obtain ⟨L64, h65, h⟩ := bnd_some h
  obtain ⟨rs, a1, a2, a3⟩ := pA_ok h65
  refine hc_aast O hH a1 rfl b1 rfl a2 (by decide) a3 dX0_init_63 (fun H locs hH => ?_)
  refine lv_iinc (v := 2) (lv' := [(2, .int 2), (0, .ref (z + r0)), (1, .ref (z + r1))]) hx hb dX0_init_64 hl (k := 0) rfl (by decide) (by decide) rfl (fun ls hl => ?_)
  refine lv_goto (tgt := 45) hx hb dX0_init_67 (by decide) ?_
  refine lv_iload_n hx hb dX0_init_45 rfl (lv_at hl 0 rfl) ?_
  refine lv_bipush (v := 10) hx hb dX0_init_46 (by decide) ?_
  refine lv_icmp_ge (tgt := 70) hx hb dX0_init_48 (by decide) (fun c => absurd c (by decide)) (fun _ => ?_)
  refine lv_aload_n hx hb dX0_init_51 rfl (lv_at hl 1 rfl) ?_
  obtain ⟨q66, h67, h⟩ := bnd_some h
  obtain ⟨fs, a1, a2⟩ := gR_ok h67
  refine h_getr O hH a1 a2 fl_X0_11 dX0_init_52 ?_
  refine lv_iload_n hx hb dX0_init_55 rfl (lv_at hl 0 rfl) ?_
  obtain ⟨q68, e71, h⟩ := lt_some h
  obtain ⟨L69, e72, h⟩ := lt_some h
  obtain ⟨D70, e73, h⟩ := lt_some h
  refine hc_new O hH cb_10 nb_10 ww_346 ww_146 ww_7 (Nat.le_of_ble_eq_true rfl) (Nat.le_of_ble_eq_true rfl) e71 e72 e73 dX0_init_56 (fun H hH => ?_)
  refine lv_dup hx hb dX0_init_59 rfl ?_
  obtain ⟨L74, D75, h76, h⟩ := bC_some h
  refine hc_callN (As := []) (rest := [.ref (z + q68), .int 2, .ref (z + q66)]) O hH (cc_X10_init h76) mn_X0_35 rfl hl.1 rfl ⟨(Nat.le_of_ble_eq_true rfl), (Nat.le_of_ble_eq_true rfl)⟩ (Nat.le_of_ble_eq_true rfl) ⟨(Nat.le_of_ble_eq_true rfl), (Nat.le_of_ble_eq_true rfl)⟩ dX0_init_60 (fun H locs hH => ?_)
  obtain ⟨g77, h⟩ := gd_some h
  obtain ⟨fs, b1⟩ := cS_ok g77
  obtain ⟨L78, h79, h⟩ := bnd_some h
  obtain ⟨rs, a1, a2, a3⟩ := pA_ok h79
  refine hc_aast O hH a1 rfl b1 rfl a2 (by decide) a3 dX0_init_63 (fun H locs hH => ?_)
  refine lv_iinc (v := 3) (lv' := [(2, .int 3), (0, .ref (z + r0)), (1, .ref (z + r1))]) hx hb dX0_init_64 hl (k := 0) rfl (by decide) (by decide) rfl (fun ls hl => ?_)
  refine lv_goto (tgt := 45) hx hb dX0_init_67 (by decide) ?_
  refine lv_iload_n hx hb dX0_init_45 rfl (lv_at hl 0 rfl) ?_
  refine lv_bipush (v := 10) hx hb dX0_init_46 (by decide) ?_
  refine lv_icmp_ge (tgt := 70) hx hb dX0_init_48 (by decide) (fun c => absurd c (by decide)) (fun _ => ?_)
  refine lv_aload_n hx hb dX0_init_51 rfl (lv_at hl 1 rfl) ?_
  obtain ⟨q80, h81, h⟩ := bnd_some h
  obtain ⟨fs, a1, a2⟩ := gR_ok h81
  refine h_getr O hH a1 a2 fl_X0_11 dX0_init_52 ?_
  refine lv_iload_n hx hb dX0_init_55 rfl (lv_at hl 0 rfl) ?_
  obtain ⟨q82, e85, h⟩ := lt_some h
  obtain ⟨L83, e86, h⟩ := lt_some h
  obtain ⟨D84, e87, h⟩ := lt_some h
  refine hc_new O hH cb_10 nb_10 ww_346 ww_146 ww_7 (Nat.le_of_ble_eq_true rfl) (Nat.le_of_ble_eq_true rfl) e85 e86 e87 dX0_init_56 (fun H hH => ?_)
  refine lv_dup hx hb dX0_init_59 rfl ?_
  obtain ⟨L88, D89, h90, h⟩ := bC_some h
  refine hc_callN (As := []) (rest := [.ref (z + q82), .int 3, .ref (z + q80)]) O hH (cc_X10_init h90) mn_X0_35 rfl hl.1 rfl ⟨(Nat.le_of_ble_eq_true rfl), (Nat.le_of_ble_eq_true rfl)⟩ (Nat.le_of_ble_eq_true rfl) ⟨(Nat.le_of_ble_eq_true rfl), (Nat.le_of_ble_eq_true rfl)⟩ dX0_init_60 (fun H locs hH => ?_)
  obtain ⟨g91, h⟩ := gd_some h
  obtain ⟨fs, b1⟩ := cS_ok g91
  obtain ⟨L92, h93, h⟩ := bnd_some h
  obtain ⟨rs, a1, a2, a3⟩ := pA_ok h93
  refine hc_aast O hH a1 rfl b1 rfl a2 (by decide) a3 dX0_init_63 (fun H locs hH => ?_)
  refine lv_iinc (v := 4) (lv' := [(2, .int 4), (0, .ref (z + r0)), (1, .ref (z + r1))]) hx hb dX0_init_64 hl (k := 0) rfl (by decide) (by decide) rfl (fun ls hl => ?_)
  refine lv_goto (tgt := 45) hx hb dX0_init_67 (by decide) ?_
  refine lv_iload_n hx hb dX0_init_45 rfl (lv_at hl 0 rfl) ?_
  refine lv_bipush (v := 10) hx hb dX0_init_46 (by decide) ?_
  refine lv_icmp_ge (tgt := 70) hx hb dX0_init_48 (by decide) (fun c => absurd c (by decide)) (fun _ => ?_)
  refine lv_aload_n hx hb dX0_init_51 rfl (lv_at hl 1 rfl) ?_
  obtain ⟨q94, h95, h⟩ := bnd_some h
  obtain ⟨fs, a1, a2⟩ := gR_ok h95
  refine h_getr O hH a1 a2 fl_X0_11 dX0_init_52 ?_
  refine lv_iload_n hx hb dX0_init_55 rfl (lv_at hl 0 rfl) ?_
  obtain ⟨q96, e99, h⟩ := lt_some h
  obtain ⟨L97, e100, h⟩ := lt_some h
  obtain ⟨D98, e101, h⟩ := lt_some h
  refine hc_new O hH cb_10 nb_10 ww_346 ww_146 ww_7 (Nat.le_of_ble_eq_true rfl) (Nat.le_of_ble_eq_true rfl) e99 e100 e101 dX0_init_56 (fun H hH => ?_)
  refine lv_dup hx hb dX0_init_59 rfl ?_
  obtain ⟨L102, D103, h104, h⟩ := bC_some h
  refine hc_callN (As := []) (rest := [.ref (z + q96), .int 4, .ref (z + q94)]) O hH (cc_X10_init h104) mn_X0_35 rfl hl.1 rfl ⟨(Nat.le_of_ble_eq_true rfl), (Nat.le_of_ble_eq_true rfl)⟩ (Nat.le_of_ble_eq_true rfl) ⟨(Nat.le_of_ble_eq_true rfl), (Nat.le_of_ble_eq_true rfl)⟩ dX0_init_60 (fun H locs hH => ?_)
  obtain ⟨g105, h⟩ := gd_some h
  obtain ⟨fs, b1⟩ := cS_ok g105
  obtain ⟨L106, h107, h⟩ := bnd_some h
  obtain ⟨rs, a1, a2, a3⟩ := pA_ok h107
  refine hc_aast O hH a1 rfl b1 rfl a2 (by decide) a3 dX0_init_63 (fun H locs hH => ?_)
  refine lv_iinc (v := 5) (lv' := [(2, .int 5), (0, .ref (z + r0)), (1, .ref (z + r1))]) hx hb dX0_init_64 hl (k := 0) rfl (by decide) (by decide) rfl (fun ls hl => ?_)
  refine lv_goto (tgt := 45) hx hb dX0_init_67 (by decide) ?_
  refine lv_iload_n hx hb dX0_init_45 rfl (lv_at hl 0 rfl) ?_
  refine lv_bipush (v := 10) hx hb dX0_init_46 (by decide) ?_
  refine lv_icmp_ge (tgt := 70) hx hb dX0_init_48 (by decide) (fun c => absurd c (by decide)) (fun _ => ?_)
  refine lv_aload_n hx hb dX0_init_51 rfl (lv_at hl 1 rfl) ?_
  obtain ⟨q108, h109, h⟩ := bnd_some h
  obtain ⟨fs, a1, a2⟩ := gR_ok h109
  refine h_getr O hH a1 a2 fl_X0_11 dX0_init_52 ?_
  refine lv_iload_n hx hb dX0_init_55 rfl (lv_at hl 0 rfl) ?_
  obtain ⟨q110, e113, h⟩ := lt_some h
  obtain ⟨L111, e114, h⟩ := lt_some h
  obtain ⟨D112, e115, h⟩ := lt_some h
  refine hc_new O hH cb_10 nb_10 ww_346 ww_146 ww_7 (Nat.le_of_ble_eq_true rfl) (Nat.le_of_ble_eq_true rfl) e113 e114 e115 dX0_init_56 (fun H hH => ?_)
  refine lv_dup hx hb dX0_init_59 rfl ?_
  obtain ⟨L116, D117, h118, h⟩ := bC_some h
  refine hc_callN (As := []) (rest := [.ref (z + q110), .int 5, .ref (z + q108)]) O hH (cc_X10_init h118) mn_X0_35 rfl hl.1 rfl ⟨(Nat.le_of_ble_eq_true rfl), (Nat.le_of_ble_eq_true rfl)⟩ (Nat.le_of_ble_eq_true rfl) ⟨(Nat.le_of_ble_eq_true rfl), (Nat.le_of_ble_eq_true rfl)⟩ dX0_init_60 (fun H locs hH => ?_)
  obtain ⟨g119, h⟩ := gd_some h
  obtain ⟨fs, b1⟩ := cS_ok g119
  obtain ⟨L120, h121, h⟩ := bnd_some h
  obtain ⟨rs, a1, a2, a3⟩ := pA_ok h121
  refine hc_aast O hH a1 rfl b1 rfl a2 (by decide) a3 dX0_init_63 (fun H locs hH => ?_)
  refine lv_iinc (v := 6) (lv' := [(2, .int 6), (0, .ref (z + r0)), (1, .ref (z + r1))]) hx hb dX0_init_64 hl (k := 0) rfl (by decide) (by decide) rfl (fun ls hl => ?_)
  refine lv_goto (tgt := 45) hx hb dX0_init_67 (by decide) ?_
  refine lv_iload_n hx hb dX0_init_45 rfl (lv_at hl 0 rfl) ?_
  refine lv_bipush (v := 10) hx hb dX0_init_46 (by decide) ?_
  refine lv_icmp_ge (tgt := 70) hx hb dX0_init_48 (by decide) (fun c => absurd c (by decide)) (fun _ => ?_)
  refine lv_aload_n hx hb dX0_init_51 rfl (lv_at hl 1 rfl) ?_
  obtain ⟨q122, h123, h⟩ := bnd_some h
  obtain ⟨fs, a1, a2⟩ := gR_ok h123
  refine h_getr O hH a1 a2 fl_X0_11 dX0_init_52 ?_
  refine lv_iload_n hx hb dX0_init_55 rfl (lv_at hl 0 rfl) ?_
  obtain ⟨q124, e127, h⟩ := lt_some h
  obtain ⟨L125, e128, h⟩ := lt_some h
  obtain ⟨D126, e129, h⟩ := lt_some h
  refine hc_new O hH cb_10 nb_10 ww_346 ww_146 ww_7 (Nat.le_of_ble_eq_true rfl) (Nat.le_of_ble_eq_true rfl) e127 e128 e129 dX0_init_56 (fun H hH => ?_)
  refine lv_dup hx hb dX0_init_59 rfl ?_
  obtain ⟨L130, D131, h132, h⟩ := bC_some h
  refine hc_callN (As := []) (rest := [.ref (z + q124), .int 6, .ref (z + q122)]) O hH (cc_X10_init h132) mn_X0_35 rfl hl.1 rfl ⟨(Nat.le_of_ble_eq_true rfl), (Nat.le_of_ble_eq_true rfl)⟩ (Nat.le_of_ble_eq_true rfl) ⟨(Nat.le_of_ble_eq_true rfl), (Nat.le_of_ble_eq_true rfl)⟩ dX0_init_60 (fun H locs hH => ?_)
  obtain ⟨g133, h⟩ := gd_some h
  obtain ⟨fs, b1⟩ := cS_ok g133
  obtain ⟨L134, h135, h⟩ := bnd_some h
  obtain ⟨rs, a1, a2, a3⟩ := pA_ok h135
  refine hc_aast O hH a1 rfl b1 rfl a2 (by decide) a3 dX0_init_63 (fun H locs hH => ?_)
  refine lv_iinc (v := 7) (lv' := [(2, .int 7), (0, .ref (z + r0)), (1, .ref (z + r1))]) hx hb dX0_init_64 hl (k := 0) rfl (by decide) (by decide) rfl (fun ls hl => ?_)
  refine lv_goto (tgt := 45) hx hb dX0_init_67 (by decide) ?_
  refine lv_iload_n hx hb dX0_init_45 rfl (lv_at hl 0 rfl) ?_
  refine lv_bipush (v := 10) hx hb dX0_init_46 (by decide) ?_
  refine lv_icmp_ge (tgt := 70) hx hb dX0_init_48 (by decide) (fun c => absurd c (by decide)) (fun _ => ?_)
  refine lv_aload_n hx hb dX0_init_51 rfl (lv_at hl 1 rfl) ?_
  obtain ⟨q136, h137, h⟩ := bnd_some h
  obtain ⟨fs, a1, a2⟩ := gR_ok h137
  refine h_getr O hH a1 a2 fl_X0_11 dX0_init_52 ?_
  refine lv_iload_n hx hb dX0_init_55 rfl (lv_at hl 0 rfl) ?_
  obtain ⟨q138, e141, h⟩ := lt_some h
  obtain ⟨L139, e142, h⟩ := lt_some h
  obtain ⟨D140, e143, h⟩ := lt_some h
  refine hc_new O hH cb_10 nb_10 ww_346 ww_146 ww_7 (Nat.le_of_ble_eq_true rfl) (Nat.le_of_ble_eq_true rfl) e141 e142 e143 dX0_init_56 (fun H hH => ?_)
  refine lv_dup hx hb dX0_init_59 rfl ?_
  obtain ⟨L144, D145, h146, h⟩ := bC_some h
  refine hc_callN (As := []) (rest := [.ref (z + q138), .int 7, .ref (z + q136)]) O hH (cc_X10_init h146) mn_X0_35 rfl hl.1 rfl ⟨(Nat.le_of_ble_eq_true rfl), (Nat.le_of_ble_eq_true rfl)⟩ (Nat.le_of_ble_eq_true rfl) ⟨(Nat.le_of_ble_eq_true rfl), (Nat.le_of_ble_eq_true rfl)⟩ dX0_init_60 (fun H locs hH => ?_)
  obtain ⟨g147, h⟩ := gd_some h
  obtain ⟨fs, b1⟩ := cS_ok g147
  obtain ⟨L148, h149, h⟩ := bnd_some h
  obtain ⟨rs, a1, a2, a3⟩ := pA_ok h149
  refine hc_aast O hH a1 rfl b1 rfl a2 (by decide) a3 dX0_init_63 (fun H locs hH => ?_)
  refine lv_iinc (v := 8) (lv' := [(2, .int 8), (0, .ref (z + r0)), (1, .ref (z + r1))]) hx hb dX0_init_64 hl (k := 0) rfl (by decide) (by decide) rfl (fun ls hl => ?_)
  refine lv_goto (tgt := 45) hx hb dX0_init_67 (by decide) ?_
  refine lv_iload_n hx hb dX0_init_45 rfl (lv_at hl 0 rfl) ?_
  refine lv_bipush (v := 10) hx hb dX0_init_46 (by decide) ?_
  refine lv_icmp_ge (tgt := 70) hx hb dX0_init_48 (by decide) (fun c => absurd c (by decide)) (fun _ => ?_)
  refine lv_aload_n hx hb dX0_init_51 rfl (lv_at hl 1 rfl) ?_
  obtain ⟨q150, h151, h⟩ := bnd_some h
  obtain ⟨fs, a1, a2⟩ := gR_ok h151
  refine h_getr O hH a1 a2 fl_X0_11 dX0_init_52 ?_
  refine lv_iload_n hx hb dX0_init_55 rfl (lv_at hl 0 rfl) ?_
  obtain ⟨q152, e155, h⟩ := lt_some h
  obtain ⟨L153, e156, h⟩ := lt_some h
  obtain ⟨D154, e157, h⟩ := lt_some h
  refine hc_new O hH cb_10 nb_10 ww_346 ww_146 ww_7 (Nat.le_of_ble_eq_true rfl) (Nat.le_of_ble_eq_true rfl) e155 e156 e157 dX0_init_56 (fun H hH => ?_)
  refine lv_dup hx hb dX0_init_59 rfl ?_
  obtain ⟨L158, D159, h160, h⟩ := bC_some h
  refine hc_callN (As := []) (rest := [.ref (z + q152), .int 8, .ref (z + q150)]) O hH (cc_X10_init h160) mn_X0_35 rfl hl.1 rfl ⟨(Nat.le_of_ble_eq_true rfl), (Nat.le_of_ble_eq_true rfl)⟩ (Nat.le_of_ble_eq_true rfl) ⟨(Nat.le_of_ble_eq_true rfl), (Nat.le_of_ble_eq_true rfl)⟩ dX0_init_60 (fun H locs hH => ?_)
  obtain ⟨g161, h⟩ := gd_some h
  obtain ⟨fs, b1⟩ := cS_ok g161
  obtain ⟨L162, h163, h⟩ := bnd_some h
  obtain ⟨rs, a1, a2, a3⟩ := pA_ok h163
  refine hc_aast O hH a1 rfl b1 rfl a2 (by decide) a3 dX0_init_63 (fun H locs hH => ?_)
  refine lv_iinc (v := 9) (lv' := [(2, .int 9), (0, .ref (z + r0)), (1, .ref (z + r1))]) hx hb dX0_init_64 hl (k := 0) rfl (by decide) (by decide) rfl (fun ls hl => ?_)
  refine lv_goto (tgt := 45) hx hb dX0_init_67 (by decide) ?_
  refine lv_iload_n hx hb dX0_init_45 rfl (lv_at hl 0 rfl) ?_
  refine lv_bipush (v := 10) hx hb dX0_init_46 (by decide) ?_
  refine lv_icmp_ge (tgt := 70) hx hb dX0_init_48 (by decide) (fun c => absurd c (by decide)) (fun _ => ?_)
  refine lv_aload_n hx hb dX0_init_51 rfl (lv_at hl 1 rfl) ?_
  obtain ⟨q164, h165, h⟩ := bnd_some h
  obtain ⟨fs, a1, a2⟩ := gR_ok h165
  refine h_getr O hH a1 a2 fl_X0_11 dX0_init_52 ?_
  refine lv_iload_n hx hb dX0_init_55 rfl (lv_at hl 0 rfl) ?_
  obtain ⟨q166, e169, h⟩ := lt_some h
  obtain ⟨L167, e170, h⟩ := lt_some h
  obtain ⟨D168, e171, h⟩ := lt_some h
  refine hc_new O hH cb_10 nb_10 ww_346 ww_146 ww_7 (Nat.le_of_ble_eq_true rfl) (Nat.le_of_ble_eq_true rfl) e169 e170 e171 dX0_init_56 (fun H hH => ?_)
  refine lv_dup hx hb dX0_init_59 rfl ?_
  obtain ⟨L172, D173, h174, h⟩ := bC_some h
  refine hc_callN (As := []) (rest := [.ref (z + q166), .int 9, .ref (z + q164)]) O hH (cc_X10_init h174) mn_X0_35 rfl hl.1 rfl ⟨(Nat.le_of_ble_eq_true rfl), (Nat.le_of_ble_eq_true rfl)⟩ (Nat.le_of_ble_eq_true rfl) ⟨(Nat.le_of_ble_eq_true rfl), (Nat.le_of_ble_eq_true rfl)⟩ dX0_init_60 (fun H locs hH => ?_)
  obtain ⟨g175, h⟩ := gd_some h
  obtain ⟨fs, b1⟩ := cS_ok g175
  obtain ⟨L176, h177, h⟩ := bnd_some h
  obtain ⟨rs, a1, a2, a3⟩ := pA_ok h177
  refine hc_aast O hH a1 rfl b1 rfl a2 (by decide) a3 dX0_init_63 (fun H locs hH => ?_)
  refine lv_iinc (v := 10) (lv' := [(2, .int 10), (0, .ref (z + r0)), (1, .ref (z + r1))]) hx hb dX0_init_64 hl (k := 0) rfl (by decide) (by decide) rfl (fun ls hl => ?_)
  refine lv_goto (tgt := 45) hx hb dX0_init_67 (by decide) ?_
  refine lv_iload_n hx hb dX0_init_45 rfl (lv_at hl 0 rfl) ?_
  refine lv_bipush (v := 10) hx hb dX0_init_46 (by decide) ?_
  refine lv_icmp_ge (tgt := 70) hx hb dX0_init_48 (by decide) (fun _ => ?_) (fun c => absurd (by decide) c)
  obtain ⟨rfl, rfl⟩ := ret_c h
  exact h_vret O hr hlk hH dX0_init_70
set_option maxHeartbeats 4000000 in
theorem cc_X0_init {l : Launch} {G : va_G} {tA : Nat → ClassId} {z : Nat} {E : Ex} {r0 : Nat} {r1 : Nat} {L L' : List Sh} {D D' : Dm} (h : fc_X0_init r0 r1 L D = some (L', D')) : CtV l yX0_init cX0_init 3 G tA z E 2 45 670 [.ref (z + r0), .ref (z + r1)] L D L' D' :=
  ct_BC (by decide +kernel) (Nat.le_of_ble_eq_true rfl) (fun _ _ _ _ _ _ _ _ O hr hlk hnm => v_X0_init O hnm hr hlk _ _ _ _ h)
set_option maxHeartbeats 4000000 in
theorem v_X3_startAnew {G : va_G} {tA : Nat → ClassId} {z : Nat} {E : Ex} {p : Program} {l : Launch} {e : Env} {s : State} {m : MethodId} {args : Array Value} {below : List Frame} {meth : Method} {c : Code} {L' : List Sh} {D' : Dm} (O : Ok G tA z E cX3_startAnew RX3 1 p s m args c) (hnm : meth.name = "startAnew") (hr : meth.sig.returnType = none) (hlk : meth.locks = false) (r0 : Nat) (L : List Sh) (D : Dm) (h : fc_X3_startAnew r0 L D = some (L', D')) : BC G tA z E p l e (rmC 1 0 0) s m args below meth c 0 0 0 0 L D L' D' 1 0 [(0, .ref (z + r0))] [] := by
  obtain ⟨hx, hb, -, hown, hts, -⟩ := id O
  unfold fc_X3_startAnew at h
  intro H locs ls hH hl
  refine lv_aload_n hx hb dX3_startAnew_0 rfl (lv_at hl 0 rfl) ?_
  refine lv_iconst (v := 1) hx hb dX3_startAnew_1 (by decide) ?_
  obtain ⟨g1, h⟩ := gd_some h
  obtain ⟨fs, a1, a2⟩ := cI_ok g1
  obtain ⟨D2, e3, h⟩ := lt_some h
  refine hc_puti O hH a1 a2 fl_X3_76 rfl rfl e3 dX3_startAnew_2 (fun H locs hH => ?_)
  refine lv_aload_n hx hb dX3_startAnew_5 rfl (lv_at hl 0 rfl) ?_
  obtain ⟨q4, h5, h⟩ := bnd_some h
  obtain ⟨fs, a1, a2⟩ := gR_ok h5
  refine h_getr O hH a1 a2 fl_X3_69 dX3_startAnew_6 ?_
  refine lv_iconst (v := 1) hx hb dX3_startAnew_9 (by decide) ?_
  obtain ⟨g6, h⟩ := gd_some h
  obtain ⟨fs, a1, a2⟩ := cI_ok g6
  obtain ⟨D7, e8, h⟩ := lt_some h
  refine hc_puti O hH a1 a2 fl_X3_80 rfl rfl e8 dX3_startAnew_10 (fun H locs hH => ?_)
  refine lv_aload_n hx hb dX3_startAnew_13 rfl (lv_at hl 0 rfl) ?_
  refine lv_iconst (v := 0) hx hb dX3_startAnew_14 (by decide) ?_
  obtain ⟨g9, h⟩ := gd_some h
  obtain ⟨fs, a1, a2⟩ := cI_ok g9
  obtain ⟨D10, e11, h⟩ := lt_some h
  refine hc_puti O hH a1 a2 fl_X3_83 rfl rfl e11 dX3_startAnew_15 (fun H locs hH => ?_)
  refine lv_aload_n hx hb dX3_startAnew_18 rfl (lv_at hl 0 rfl) ?_
  refine lv_iconst (v := 0) hx hb dX3_startAnew_19 (by decide) ?_
  obtain ⟨g12, h⟩ := gd_some h
  obtain ⟨fs, a1, a2⟩ := cI_ok g12
  obtain ⟨D13, e14, h⟩ := lt_some h
  refine hc_puti O hH a1 a2 fl_X3_87 rfl rfl e14 dX3_startAnew_20 (fun H locs hH => ?_)
  obtain ⟨rfl, rfl⟩ := ret_c h
  exact h_vret O hr hlk hH dX3_startAnew_23
set_option maxHeartbeats 4000000 in
theorem cc_X3_startAnew {l : Launch} {G : va_G} {tA : Nat → ClassId} {z : Nat} {E : Ex} {r0 : Nat} {L L' : List Sh} {D D' : Dm} (h : fc_X3_startAnew r0 L D = some (L', D')) : CtV l yX3_startAnew cX3_startAnew 1 G tA z E 1 0 0 [.ref (z + r0)] L D L' D' :=
  ct_BC (by decide +kernel) (Nat.le_of_ble_eq_true rfl) (fun _ _ _ _ _ _ _ _ O hr hlk hnm => v_X3_startAnew O hnm hr hlk _ _ _ h)
set_option maxHeartbeats 4000000 in
theorem v_X3_init {G : va_G} {tA : Nat → ClassId} {z : Nat} {E : Ex} {p : Program} {l : Launch} {e : Env} {s : State} {m : MethodId} {args : Array Value} {below : List Frame} {meth : Method} {c : Code} {L' : List Sh} {D' : Dm} (O : Ok G tA z E cX3_init RX3 4 p s m args c) (hnm : meth.name = "<init>") (hr : meth.sig.returnType = none) (hlk : meth.locks = false) (r0 : Nat) (r1 : Nat) (r2 : Nat) (L : List Sh) (D : Dm) (h : fc_X3_init r0 r1 r2 L D = some (L', D')) : BC G tA z E p l e (rmC 3 218 2228) s m args below meth c 0 0 218 2228 L D L' D' 4 0 [(0, .ref (z + r0)), (1, .ref (z + r1)), (2, .ref (z + r2))] [] := by
  obtain ⟨hx, hb, -, hown, hts, -⟩ := id O
  unfold fc_X3_init at h
  intro H locs ls hH hl
  refine lv_aload_n hx hb dX3_init_0 rfl (lv_at hl 0 rfl) ?_
  refine hc_oinit O hl.1 ww_265 ⟨(Nat.le_of_ble_eq_true rfl), (Nat.le_of_ble_eq_true rfl)⟩ (rest := []) (Nat.le_of_ble_eq_true rfl) dX3_init_1 ?_
  refine lv_aload_n hx hb dX3_init_4 rfl (lv_at hl 0 rfl) ?_
  refine lv_bipush (v := 10) hx hb dX3_init_5 (by decide) ?_
  obtain ⟨q1, e4, h⟩ := lt_some h
  obtain ⟨L2, e5, h⟩ := lt_some h
  obtain ⟨D3, e6, h⟩ := lt_some h
  refine hc_anew (t := 5) (N' := 10) O hH ww_266 (by decide) rfl (by decide) (by decide) (by decide) (Nat.le_of_ble_eq_true rfl) (Nat.le_of_ble_eq_true rfl) e4 e5 e6 dX3_init_7 (fun H hH => ?_)
  obtain ⟨L7, h8, h⟩ := bnd_some h
  obtain ⟨fs, o, a1, a2, a3⟩ := pR_ok h8
  refine hc_putr O hnm hH a1 a2 fl_X3_11 (fun _ _ _ h => by cases h; rfl) (fun _ => ⟨rfl, rfl⟩) a3 dX3_init_10 (fun H locs hH => ?_)
  refine lv_aload_n hx hb dX3_init_13 rfl (lv_at hl 0 rfl) ?_
  refine lv_bipush (v := 10) hx hb dX3_init_14 (by decide) ?_
  obtain ⟨q9, e12, h⟩ := lt_some h
  obtain ⟨L10, e13, h⟩ := lt_some h
  obtain ⟨D11, e14, h⟩ := lt_some h
  refine hc_anew (t := 6) (N' := 10) O hH ww_268 (by decide) rfl (by decide) (by decide) (by decide) (Nat.le_of_ble_eq_true rfl) (Nat.le_of_ble_eq_true rfl) e12 e13 e14 dX3_init_16 (fun H hH => ?_)
  obtain ⟨L15, h16, h⟩ := bnd_some h
  obtain ⟨fs, o, a1, a2, a3⟩ := pR_ok h16
  refine hc_putr O hnm hH a1 a2 fl_X3_19 (fun _ _ _ h => by cases h; rfl) (fun _ => ⟨rfl, rfl⟩) a3 dX3_init_19 (fun H locs hH => ?_)
  refine lv_aload_n hx hb dX3_init_22 rfl (lv_at hl 0 rfl) ?_
  obtain ⟨q17, e20, h⟩ := lt_some h
  obtain ⟨L18, e21, h⟩ := lt_some h
  obtain ⟨D19, e22, h⟩ := lt_some h
  refine hc_new O hH cb_6 nb_6 ww_268 ww_270 ww_11 (Nat.le_of_ble_eq_true rfl) (Nat.le_of_ble_eq_true rfl) e20 e21 e22 dX3_init_23 (fun H hH => ?_)
  refine lv_dup hx hb dX3_init_26 rfl ?_
  obtain ⟨L23, D24, h25, h⟩ := bC_some h
  refine hc_callN (As := []) (rest := [.ref (z + q17), .ref (z + r0)]) O hH (cc_X6_init h25) mn_X3_23 rfl hl.1 rfl ⟨(Nat.le_of_ble_eq_true rfl), (Nat.le_of_ble_eq_true rfl)⟩ (Nat.le_of_ble_eq_true rfl) ⟨(Nat.le_of_ble_eq_true rfl), (Nat.le_of_ble_eq_true rfl)⟩ dX3_init_27 (fun H locs hH => ?_)
  obtain ⟨L26, h27, h⟩ := bnd_some h
  obtain ⟨fs, o, a1, a2, a3⟩ := pR_ok h27
  refine hc_putr O hnm hH a1 a2 fl_X3_24 (fun _ _ _ h => by cases h; rfl) (fun _ => ⟨rfl, rfl⟩) a3 dX3_init_30 (fun H locs hH => ?_)
  refine lv_aload_n hx hb dX3_init_33 rfl (lv_at hl 0 rfl) ?_
  obtain ⟨q28, e31, h⟩ := lt_some h
  obtain ⟨L29, e32, h⟩ := lt_some h
  obtain ⟨D30, e33, h⟩ := lt_some h
  refine hc_new O hH cb_2 nb_2 ww_318 ww_319 ww_12 (Nat.le_of_ble_eq_true rfl) (Nat.le_of_ble_eq_true rfl) e31 e32 e33 dX3_init_34 (fun H hH => ?_)
  refine lv_dup hx hb dX3_init_37 rfl ?_
  obtain ⟨L34, D35, h36, h⟩ := bC_some h
  refine hc_callN (As := []) (rest := [.ref (z + q28), .ref (z + r0)]) O hH (cc_X2_init h36) mn_X3_30 rfl hl.1 rfl ⟨(Nat.le_of_ble_eq_true rfl), (Nat.le_of_ble_eq_true rfl)⟩ (Nat.le_of_ble_eq_true rfl) ⟨(Nat.le_of_ble_eq_true rfl), (Nat.le_of_ble_eq_true rfl)⟩ dX3_init_38 (fun H locs hH => ?_)
  obtain ⟨L37, h38, h⟩ := bnd_some h
  obtain ⟨fs, o, a1, a2, a3⟩ := pR_ok h38
  refine hc_putr O hnm hH a1 a2 fl_X3_31 (fun _ _ _ h => by cases h; rfl) (fun _ => ⟨rfl, rfl⟩) a3 dX3_init_41 (fun H locs hH => ?_)
  refine lv_aload_n hx hb dX3_init_44 rfl (lv_at hl 0 rfl) ?_
  obtain ⟨q39, e42, h⟩ := lt_some h
  obtain ⟨L40, e43, h⟩ := lt_some h
  obtain ⟨D41, e44, h⟩ := lt_some h
  refine hc_new O hH cb_10 nb_10 ww_266 ww_146 ww_7 (Nat.le_of_ble_eq_true rfl) (Nat.le_of_ble_eq_true rfl) e42 e43 e44 dX3_init_45 (fun H hH => ?_)
  refine lv_dup hx hb dX3_init_48 rfl ?_
  obtain ⟨L45, D46, h47, h⟩ := bC_some h
  refine hc_callN (As := []) (rest := [.ref (z + q39), .ref (z + r0)]) O hH (cc_X10_init h47) mn_X3_35 rfl hl.1 rfl ⟨(Nat.le_of_ble_eq_true rfl), (Nat.le_of_ble_eq_true rfl)⟩ (Nat.le_of_ble_eq_true rfl) ⟨(Nat.le_of_ble_eq_true rfl), (Nat.le_of_ble_eq_true rfl)⟩ dX3_init_49 (fun H locs hH => ?_)
  obtain ⟨L48, h49, h⟩ := bnd_some h
  obtain ⟨fs, o, a1, a2, a3⟩ := pR_ok h49
  refine hc_putr O hnm hH a1 a2 fl_X3_36 (fun _ _ _ h => by cases h; rfl) (fun _ => ⟨rfl, rfl⟩) a3 dX3_init_52 (fun H locs hH => ?_)
  refine lv_aload_n hx hb dX3_init_55 rfl (lv_at hl 0 rfl) ?_
  obtain ⟨q50, e53, h⟩ := lt_some h
  obtain ⟨L51, e54, h⟩ := lt_some h
  obtain ⟨D52, e55, h⟩ := lt_some h
  refine hc_new O hH cb_10 nb_10 ww_266 ww_146 ww_7 (Nat.le_of_ble_eq_true rfl) (Nat.le_of_ble_eq_true rfl) e53 e54 e55 dX3_init_56 (fun H hH => ?_)
  refine lv_dup hx hb dX3_init_59 rfl ?_
  obtain ⟨L56, D57, h58, h⟩ := bC_some h
  refine hc_callN (As := []) (rest := [.ref (z + q50), .ref (z + r0)]) O hH (cc_X10_init h58) mn_X3_35 rfl hl.1 rfl ⟨(Nat.le_of_ble_eq_true rfl), (Nat.le_of_ble_eq_true rfl)⟩ (Nat.le_of_ble_eq_true rfl) ⟨(Nat.le_of_ble_eq_true rfl), (Nat.le_of_ble_eq_true rfl)⟩ dX3_init_60 (fun H locs hH => ?_)
  obtain ⟨L59, h60, h⟩ := bnd_some h
  obtain ⟨fs, o, a1, a2, a3⟩ := pR_ok h60
  refine hc_putr O hnm hH a1 a2 fl_X3_40 (fun _ _ _ h => by cases h; rfl) (fun _ => ⟨rfl, rfl⟩) a3 dX3_init_63 (fun H locs hH => ?_)
  refine lv_aload_n hx hb dX3_init_66 rfl (lv_at hl 0 rfl) ?_
  obtain ⟨q61, e64, h⟩ := lt_some h
  obtain ⟨L62, e65, h⟩ := lt_some h
  obtain ⟨D63, e66, h⟩ := lt_some h
  refine hc_new O hH cb_10 nb_10 ww_266 ww_146 ww_7 (Nat.le_of_ble_eq_true rfl) (Nat.le_of_ble_eq_true rfl) e64 e65 e66 dX3_init_67 (fun H hH => ?_)
  refine lv_dup hx hb dX3_init_70 rfl ?_
  obtain ⟨L67, D68, h69, h⟩ := bC_some h
  refine hc_callN (As := []) (rest := [.ref (z + q61), .ref (z + r0)]) O hH (cc_X10_init h69) mn_X3_35 rfl hl.1 rfl ⟨(Nat.le_of_ble_eq_true rfl), (Nat.le_of_ble_eq_true rfl)⟩ (Nat.le_of_ble_eq_true rfl) ⟨(Nat.le_of_ble_eq_true rfl), (Nat.le_of_ble_eq_true rfl)⟩ dX3_init_71 (fun H locs hH => ?_)
  obtain ⟨L70, h71, h⟩ := bnd_some h
  obtain ⟨fs, o, a1, a2, a3⟩ := pR_ok h71
  refine hc_putr O hnm hH a1 a2 fl_X3_43 (fun _ _ _ h => by cases h; rfl) (fun _ => ⟨rfl, rfl⟩) a3 dX3_init_74 (fun H locs hH => ?_)
  refine lv_aload_n hx hb dX3_init_77 rfl (lv_at hl 0 rfl) ?_
  obtain ⟨q72, e75, h⟩ := lt_some h
  obtain ⟨L73, e76, h⟩ := lt_some h
  obtain ⟨D74, e77, h⟩ := lt_some h
  refine hc_new O hH cb_1 nb_1 ww_338 ww_191 ww_9 (Nat.le_of_ble_eq_true rfl) (Nat.le_of_ble_eq_true rfl) e75 e76 e77 dX3_init_78 (fun H hH => ?_)
  refine lv_dup hx hb dX3_init_81 rfl ?_
  obtain ⟨L78, D79, h80, h⟩ := bC_some h
  refine hc_callN (As := []) (rest := [.ref (z + q72), .ref (z + r0)]) O hH (cc_X1_init h80) mn_X3_48 rfl hl.1 rfl ⟨(Nat.le_of_ble_eq_true rfl), (Nat.le_of_ble_eq_true rfl)⟩ (Nat.le_of_ble_eq_true rfl) ⟨(Nat.le_of_ble_eq_true rfl), (Nat.le_of_ble_eq_true rfl)⟩ dX3_init_82 (fun H locs hH => ?_)
  obtain ⟨L81, h82, h⟩ := bnd_some h
  obtain ⟨fs, o, a1, a2, a3⟩ := pR_ok h82
  refine hc_putr O hnm hH a1 a2 fl_X3_49 (fun _ _ _ h => by cases h; rfl) (fun _ => ⟨rfl, rfl⟩) a3 dX3_init_85 (fun H locs hH => ?_)
  refine lv_aload_n hx hb dX3_init_88 rfl (lv_at hl 0 rfl) ?_
  obtain ⟨q83, e86, h⟩ := lt_some h
  obtain ⟨L84, e87, h⟩ := lt_some h
  obtain ⟨D85, e88, h⟩ := lt_some h
  refine hc_new O hH cb_1 nb_1 ww_338 ww_191 ww_9 (Nat.le_of_ble_eq_true rfl) (Nat.le_of_ble_eq_true rfl) e86 e87 e88 dX3_init_89 (fun H hH => ?_)
  refine lv_dup hx hb dX3_init_92 rfl ?_
  obtain ⟨L89, D90, h91, h⟩ := bC_some h
  refine hc_callN (As := []) (rest := [.ref (z + q83), .ref (z + r0)]) O hH (cc_X1_init h91) mn_X3_48 rfl hl.1 rfl ⟨(Nat.le_of_ble_eq_true rfl), (Nat.le_of_ble_eq_true rfl)⟩ (Nat.le_of_ble_eq_true rfl) ⟨(Nat.le_of_ble_eq_true rfl), (Nat.le_of_ble_eq_true rfl)⟩ dX3_init_93 (fun H locs hH => ?_)
  obtain ⟨L92, h93, h⟩ := bnd_some h
  obtain ⟨fs, o, a1, a2, a3⟩ := pR_ok h93
  refine hc_putr O hnm hH a1 a2 fl_X3_53 (fun _ _ _ h => by cases h; rfl) (fun _ => ⟨rfl, rfl⟩) a3 dX3_init_96 (fun H locs hH => ?_)
  refine lv_aload_n hx hb dX3_init_99 rfl (lv_at hl 0 rfl) ?_
  refine lv_aload_n hx hb dX3_init_100 rfl (lv_at hl 1 rfl) ?_
  obtain ⟨L94, h95, h⟩ := bnd_some h
  obtain ⟨fs, o, a1, a2, a3⟩ := pR_ok h95
  refine hc_putr O hnm hH a1 a2 fl_X3_56 (fun _ _ _ h => by cases h; rfl) (fun _ => ⟨rfl, rfl⟩) a3 dX3_init_101 (fun H locs hH => ?_)
  refine lv_aload_n hx hb dX3_init_104 rfl (lv_at hl 0 rfl) ?_
  refine lv_aload_n hx hb dX3_init_105 rfl (lv_at hl 2 rfl) ?_
  obtain ⟨L96, h97, h⟩ := bnd_some h
  obtain ⟨fs, o, a1, a2, a3⟩ := pR_ok h97
  refine hc_putr O hnm hH a1 a2 fl_X3_60 (fun _ _ _ h => by cases h; rfl) (fun _ => ⟨rfl, rfl⟩) a3 dX3_init_106 (fun H locs hH => ?_)
  refine lv_aload_n hx hb dX3_init_109 rfl (lv_at hl 0 rfl) ?_
  obtain ⟨q98, e101, h⟩ := lt_some h
  obtain ⟨L99, e102, h⟩ := lt_some h
  obtain ⟨D100, e103, h⟩ := lt_some h
  refine hc_new O hH cb_0 nb_0 ww_340 ww_341 ww_13 (Nat.le_of_ble_eq_true rfl) (Nat.le_of_ble_eq_true rfl) e101 e102 e103 dX3_init_110 (fun H hH => ?_)
  refine lv_dup hx hb dX3_init_113 rfl ?_
  refine lv_aload_n hx hb dX3_init_114 rfl (lv_at hl 1 rfl) ?_
  obtain ⟨L104, D105, h106, h⟩ := bC_some h
  refine hc_callI (As := [.ref (z + r1)]) (rest := [.ref (z + q98), .ref (z + r0)]) O hH (cc_X0_init h106) mi_X3_66 rfl hl.1 rfl ⟨(Nat.le_of_ble_eq_true rfl), (Nat.le_of_ble_eq_true rfl)⟩ (Nat.le_of_ble_eq_true rfl) ⟨(Nat.le_of_ble_eq_true rfl), (Nat.le_of_ble_eq_true rfl)⟩ dX3_init_115 (fun H locs hH => ?_)
  obtain ⟨L107, h108, h⟩ := bnd_some h
  obtain ⟨fs, o, a1, a2, a3⟩ := pR_ok h108
  refine hc_putr O hnm hH a1 a2 fl_X3_69 (fun _ _ _ h => by cases h; rfl) (fun _ => ⟨rfl, rfl⟩) a3 dX3_init_118 (fun H locs hH => ?_)
  refine lv_iconst (v := 0) hx hb dX3_init_121 (by decide) ?_
  refine lv_istore_n (lv' := [(3, .int 0), (0, .ref (z + r0)), (1, .ref (z + r1)), (2, .ref (z + r2))]) hx hb dX3_init_122 rfl hl (by decide) rfl (fun ls hl => ?_)
  refine lv_iload_n hx hb dX3_init_123 rfl (lv_at hl 0 rfl) ?_
  refine lv_bipush (v := 10) hx hb dX3_init_124 (by decide) ?_
  refine lv_icmp_ge (tgt := 161) hx hb dX3_init_126 (by decide) (fun c => absurd c (by decide)) (fun _ => ?_)
  refine lv_aload_n hx hb dX3_init_129 rfl (lv_at hl 1 rfl) ?_
  obtain ⟨q109, h110, h⟩ := bnd_some h
  obtain ⟨fs, a1, a2⟩ := gR_ok h110
  refine h_getr O hH a1 a2 fl_X3_11 dX3_init_130 ?_
  refine lv_iload_n hx hb dX3_init_133 rfl (lv_at hl 0 rfl) ?_
  obtain ⟨q111, e114, h⟩ := lt_some h
  obtain ⟨L112, e115, h⟩ := lt_some h
  obtain ⟨D113, e116, h⟩ := lt_some h
  refine hc_new O hH cb_10 nb_10 ww_266 ww_146 ww_7 (Nat.le_of_ble_eq_true rfl) (Nat.le_of_ble_eq_true rfl) e114 e115 e116 dX3_init_134 (fun H hH => ?_)
  refine lv_dup hx hb dX3_init_137 rfl ?_
  obtain ⟨L117, D118, h119, h⟩ := bC_some h
  refine hc_callN (As := []) (rest := [.ref (z + q111), .int 0, .ref (z + q109)]) O hH (cc_X10_init h119) mn_X3_35 rfl hl.1 rfl ⟨(Nat.le_of_ble_eq_true rfl), (Nat.le_of_ble_eq_true rfl)⟩ (Nat.le_of_ble_eq_true rfl) ⟨(Nat.le_of_ble_eq_true rfl), (Nat.le_of_ble_eq_true rfl)⟩ dX3_init_138 (fun H locs hH => ?_)
  obtain ⟨g120, h⟩ := gd_some h
  obtain ⟨fs, b1⟩ := cS_ok g120
  obtain ⟨L121, h122, h⟩ := bnd_some h
  obtain ⟨rs, a1, a2, a3⟩ := pA_ok h122
  refine hc_aast O hH a1 rfl b1 rfl a2 (by decide) a3 dX3_init_141 (fun H locs hH => ?_)
  refine lv_aload_n hx hb dX3_init_142 rfl (lv_at hl 1 rfl) ?_
  obtain ⟨q123, h124, h⟩ := bnd_some h
  obtain ⟨fs, a1, a2⟩ := gR_ok h124
  refine h_getr O hH a1 a2 fl_X3_19 dX3_init_143 ?_
  refine lv_iload_n hx hb dX3_init_146 rfl (lv_at hl 0 rfl) ?_
  obtain ⟨q125, e128, h⟩ := lt_some h
  obtain ⟨L126, e129, h⟩ := lt_some h
  obtain ⟨D127, e130, h⟩ := lt_some h
  refine hc_new O hH cb_6 nb_6 ww_268 ww_270 ww_11 (Nat.le_of_ble_eq_true rfl) (Nat.le_of_ble_eq_true rfl) e128 e129 e130 dX3_init_147 (fun H hH => ?_)
  refine lv_dup hx hb dX3_init_150 rfl ?_
  obtain ⟨L131, D132, h133, h⟩ := bC_some h
  refine hc_callN (As := []) (rest := [.ref (z + q125), .int 0, .ref (z + q123)]) O hH (cc_X6_init h133) mn_X3_23 rfl hl.1 rfl ⟨(Nat.le_of_ble_eq_true rfl), (Nat.le_of_ble_eq_true rfl)⟩ (Nat.le_of_ble_eq_true rfl) ⟨(Nat.le_of_ble_eq_true rfl), (Nat.le_of_ble_eq_true rfl)⟩ dX3_init_151 (fun H locs hH => ?_)
  obtain ⟨g134, h⟩ := gd_some h
  obtain ⟨fs, b1⟩ := cS_ok g134
  obtain ⟨L135, h136, h⟩ := bnd_some h
  obtain ⟨rs, a1, a2, a3⟩ := pA_ok h136
  refine hc_aast O hH a1 rfl b1 rfl a2 (by decide) a3 dX3_init_154 (fun H locs hH => ?_)
  refine lv_iinc (v := 1) (lv' := [(3, .int 1), (0, .ref (z + r0)), (1, .ref (z + r1)), (2, .ref (z + r2))]) hx hb dX3_init_155 hl (k := 0) rfl (by decide) (by decide) rfl (fun ls hl => ?_)
  refine lv_goto (tgt := 123) hx hb dX3_init_158 (by decide) ?_
  refine lv_iload_n hx hb dX3_init_123 rfl (lv_at hl 0 rfl) ?_
  refine lv_bipush (v := 10) hx hb dX3_init_124 (by decide) ?_
  refine lv_icmp_ge (tgt := 161) hx hb dX3_init_126 (by decide) (fun c => absurd c (by decide)) (fun _ => ?_)
  refine lv_aload_n hx hb dX3_init_129 rfl (lv_at hl 1 rfl) ?_
  obtain ⟨q137, h138, h⟩ := bnd_some h
  obtain ⟨fs, a1, a2⟩ := gR_ok h138
  refine h_getr O hH a1 a2 fl_X3_11 dX3_init_130 ?_
  refine lv_iload_n hx hb dX3_init_133 rfl (lv_at hl 0 rfl) ?_
  obtain ⟨q139, e142, h⟩ := lt_some h
  obtain ⟨L140, e143, h⟩ := lt_some h
  obtain ⟨D141, e144, h⟩ := lt_some h
  refine hc_new O hH cb_10 nb_10 ww_266 ww_146 ww_7 (Nat.le_of_ble_eq_true rfl) (Nat.le_of_ble_eq_true rfl) e142 e143 e144 dX3_init_134 (fun H hH => ?_)
  refine lv_dup hx hb dX3_init_137 rfl ?_
  obtain ⟨L145, D146, h147, h⟩ := bC_some h
  refine hc_callN (As := []) (rest := [.ref (z + q139), .int 1, .ref (z + q137)]) O hH (cc_X10_init h147) mn_X3_35 rfl hl.1 rfl ⟨(Nat.le_of_ble_eq_true rfl), (Nat.le_of_ble_eq_true rfl)⟩ (Nat.le_of_ble_eq_true rfl) ⟨(Nat.le_of_ble_eq_true rfl), (Nat.le_of_ble_eq_true rfl)⟩ dX3_init_138 (fun H locs hH => ?_)
  obtain ⟨g148, h⟩ := gd_some h
  obtain ⟨fs, b1⟩ := cS_ok g148
  obtain ⟨L149, h150, h⟩ := bnd_some h
  obtain ⟨rs, a1, a2, a3⟩ := pA_ok h150
  refine hc_aast O hH a1 rfl b1 rfl a2 (by decide) a3 dX3_init_141 (fun H locs hH => ?_)
  refine lv_aload_n hx hb dX3_init_142 rfl (lv_at hl 1 rfl) ?_
  obtain ⟨q151, h152, h⟩ := bnd_some h
  obtain ⟨fs, a1, a2⟩ := gR_ok h152
  refine h_getr O hH a1 a2 fl_X3_19 dX3_init_143 ?_
  refine lv_iload_n hx hb dX3_init_146 rfl (lv_at hl 0 rfl) ?_
  obtain ⟨q153, e156, h⟩ := lt_some h
  obtain ⟨L154, e157, h⟩ := lt_some h
  obtain ⟨D155, e158, h⟩ := lt_some h
  refine hc_new O hH cb_6 nb_6 ww_268 ww_270 ww_11 (Nat.le_of_ble_eq_true rfl) (Nat.le_of_ble_eq_true rfl) e156 e157 e158 dX3_init_147 (fun H hH => ?_)
  refine lv_dup hx hb dX3_init_150 rfl ?_
  obtain ⟨L159, D160, h161, h⟩ := bC_some h
  refine hc_callN (As := []) (rest := [.ref (z + q153), .int 1, .ref (z + q151)]) O hH (cc_X6_init h161) mn_X3_23 rfl hl.1 rfl ⟨(Nat.le_of_ble_eq_true rfl), (Nat.le_of_ble_eq_true rfl)⟩ (Nat.le_of_ble_eq_true rfl) ⟨(Nat.le_of_ble_eq_true rfl), (Nat.le_of_ble_eq_true rfl)⟩ dX3_init_151 (fun H locs hH => ?_)
  obtain ⟨g162, h⟩ := gd_some h
  obtain ⟨fs, b1⟩ := cS_ok g162
  obtain ⟨L163, h164, h⟩ := bnd_some h
  obtain ⟨rs, a1, a2, a3⟩ := pA_ok h164
  refine hc_aast O hH a1 rfl b1 rfl a2 (by decide) a3 dX3_init_154 (fun H locs hH => ?_)
  refine lv_iinc (v := 2) (lv' := [(3, .int 2), (0, .ref (z + r0)), (1, .ref (z + r1)), (2, .ref (z + r2))]) hx hb dX3_init_155 hl (k := 0) rfl (by decide) (by decide) rfl (fun ls hl => ?_)
  refine lv_goto (tgt := 123) hx hb dX3_init_158 (by decide) ?_
  refine lv_iload_n hx hb dX3_init_123 rfl (lv_at hl 0 rfl) ?_
  refine lv_bipush (v := 10) hx hb dX3_init_124 (by decide) ?_
  refine lv_icmp_ge (tgt := 161) hx hb dX3_init_126 (by decide) (fun c => absurd c (by decide)) (fun _ => ?_)
  refine lv_aload_n hx hb dX3_init_129 rfl (lv_at hl 1 rfl) ?_
  obtain ⟨q165, h166, h⟩ := bnd_some h
  obtain ⟨fs, a1, a2⟩ := gR_ok h166
  refine h_getr O hH a1 a2 fl_X3_11 dX3_init_130 ?_
  refine lv_iload_n hx hb dX3_init_133 rfl (lv_at hl 0 rfl) ?_
  obtain ⟨q167, e170, h⟩ := lt_some h
  obtain ⟨L168, e171, h⟩ := lt_some h
  obtain ⟨D169, e172, h⟩ := lt_some h
  refine hc_new O hH cb_10 nb_10 ww_266 ww_146 ww_7 (Nat.le_of_ble_eq_true rfl) (Nat.le_of_ble_eq_true rfl) e170 e171 e172 dX3_init_134 (fun H hH => ?_)
  refine lv_dup hx hb dX3_init_137 rfl ?_
  obtain ⟨L173, D174, h175, h⟩ := bC_some h
  refine hc_callN (As := []) (rest := [.ref (z + q167), .int 2, .ref (z + q165)]) O hH (cc_X10_init h175) mn_X3_35 rfl hl.1 rfl ⟨(Nat.le_of_ble_eq_true rfl), (Nat.le_of_ble_eq_true rfl)⟩ (Nat.le_of_ble_eq_true rfl) ⟨(Nat.le_of_ble_eq_true rfl), (Nat.le_of_ble_eq_true rfl)⟩ dX3_init_138 (fun H locs hH => ?_)
  obtain ⟨g176, h⟩ := gd_some h
  obtain ⟨fs, b1⟩ := cS_ok g176
  obtain ⟨L177, h178, h⟩ := bnd_some h
  obtain ⟨rs, a1, a2, a3⟩ := pA_ok h178
  refine hc_aast O hH a1 rfl b1 rfl a2 (by decide) a3 dX3_init_141 (fun H locs hH => ?_)
  refine lv_aload_n hx hb dX3_init_142 rfl (lv_at hl 1 rfl) ?_
  obtain ⟨q179, h180, h⟩ := bnd_some h
  obtain ⟨fs, a1, a2⟩ := gR_ok h180
  refine h_getr O hH a1 a2 fl_X3_19 dX3_init_143 ?_
  refine lv_iload_n hx hb dX3_init_146 rfl (lv_at hl 0 rfl) ?_
  obtain ⟨q181, e184, h⟩ := lt_some h
  obtain ⟨L182, e185, h⟩ := lt_some h
  obtain ⟨D183, e186, h⟩ := lt_some h
  refine hc_new O hH cb_6 nb_6 ww_268 ww_270 ww_11 (Nat.le_of_ble_eq_true rfl) (Nat.le_of_ble_eq_true rfl) e184 e185 e186 dX3_init_147 (fun H hH => ?_)
  refine lv_dup hx hb dX3_init_150 rfl ?_
  obtain ⟨L187, D188, h189, h⟩ := bC_some h
  refine hc_callN (As := []) (rest := [.ref (z + q181), .int 2, .ref (z + q179)]) O hH (cc_X6_init h189) mn_X3_23 rfl hl.1 rfl ⟨(Nat.le_of_ble_eq_true rfl), (Nat.le_of_ble_eq_true rfl)⟩ (Nat.le_of_ble_eq_true rfl) ⟨(Nat.le_of_ble_eq_true rfl), (Nat.le_of_ble_eq_true rfl)⟩ dX3_init_151 (fun H locs hH => ?_)
  obtain ⟨g190, h⟩ := gd_some h
  obtain ⟨fs, b1⟩ := cS_ok g190
  obtain ⟨L191, h192, h⟩ := bnd_some h
  obtain ⟨rs, a1, a2, a3⟩ := pA_ok h192
  refine hc_aast O hH a1 rfl b1 rfl a2 (by decide) a3 dX3_init_154 (fun H locs hH => ?_)
  refine lv_iinc (v := 3) (lv' := [(3, .int 3), (0, .ref (z + r0)), (1, .ref (z + r1)), (2, .ref (z + r2))]) hx hb dX3_init_155 hl (k := 0) rfl (by decide) (by decide) rfl (fun ls hl => ?_)
  refine lv_goto (tgt := 123) hx hb dX3_init_158 (by decide) ?_
  refine lv_iload_n hx hb dX3_init_123 rfl (lv_at hl 0 rfl) ?_
  refine lv_bipush (v := 10) hx hb dX3_init_124 (by decide) ?_
  refine lv_icmp_ge (tgt := 161) hx hb dX3_init_126 (by decide) (fun c => absurd c (by decide)) (fun _ => ?_)
  refine lv_aload_n hx hb dX3_init_129 rfl (lv_at hl 1 rfl) ?_
  obtain ⟨q193, h194, h⟩ := bnd_some h
  obtain ⟨fs, a1, a2⟩ := gR_ok h194
  refine h_getr O hH a1 a2 fl_X3_11 dX3_init_130 ?_
  refine lv_iload_n hx hb dX3_init_133 rfl (lv_at hl 0 rfl) ?_
  obtain ⟨q195, e198, h⟩ := lt_some h
  obtain ⟨L196, e199, h⟩ := lt_some h
  obtain ⟨D197, e200, h⟩ := lt_some h
  refine hc_new O hH cb_10 nb_10 ww_266 ww_146 ww_7 (Nat.le_of_ble_eq_true rfl) (Nat.le_of_ble_eq_true rfl) e198 e199 e200 dX3_init_134 (fun H hH => ?_)
  refine lv_dup hx hb dX3_init_137 rfl ?_
  obtain ⟨L201, D202, h203, h⟩ := bC_some h
  refine hc_callN (As := []) (rest := [.ref (z + q195), .int 3, .ref (z + q193)]) O hH (cc_X10_init h203) mn_X3_35 rfl hl.1 rfl ⟨(Nat.le_of_ble_eq_true rfl), (Nat.le_of_ble_eq_true rfl)⟩ (Nat.le_of_ble_eq_true rfl) ⟨(Nat.le_of_ble_eq_true rfl), (Nat.le_of_ble_eq_true rfl)⟩ dX3_init_138 (fun H locs hH => ?_)
  obtain ⟨g204, h⟩ := gd_some h
  obtain ⟨fs, b1⟩ := cS_ok g204
  obtain ⟨L205, h206, h⟩ := bnd_some h
  obtain ⟨rs, a1, a2, a3⟩ := pA_ok h206
  refine hc_aast O hH a1 rfl b1 rfl a2 (by decide) a3 dX3_init_141 (fun H locs hH => ?_)
  refine lv_aload_n hx hb dX3_init_142 rfl (lv_at hl 1 rfl) ?_
  obtain ⟨q207, h208, h⟩ := bnd_some h
  obtain ⟨fs, a1, a2⟩ := gR_ok h208
  refine h_getr O hH a1 a2 fl_X3_19 dX3_init_143 ?_
  refine lv_iload_n hx hb dX3_init_146 rfl (lv_at hl 0 rfl) ?_
  obtain ⟨q209, e212, h⟩ := lt_some h
  obtain ⟨L210, e213, h⟩ := lt_some h
  obtain ⟨D211, e214, h⟩ := lt_some h
  refine hc_new O hH cb_6 nb_6 ww_268 ww_270 ww_11 (Nat.le_of_ble_eq_true rfl) (Nat.le_of_ble_eq_true rfl) e212 e213 e214 dX3_init_147 (fun H hH => ?_)
  refine lv_dup hx hb dX3_init_150 rfl ?_
  obtain ⟨L215, D216, h217, h⟩ := bC_some h
  refine hc_callN (As := []) (rest := [.ref (z + q209), .int 3, .ref (z + q207)]) O hH (cc_X6_init h217) mn_X3_23 rfl hl.1 rfl ⟨(Nat.le_of_ble_eq_true rfl), (Nat.le_of_ble_eq_true rfl)⟩ (Nat.le_of_ble_eq_true rfl) ⟨(Nat.le_of_ble_eq_true rfl), (Nat.le_of_ble_eq_true rfl)⟩ dX3_init_151 (fun H locs hH => ?_)
  obtain ⟨g218, h⟩ := gd_some h
  obtain ⟨fs, b1⟩ := cS_ok g218
  obtain ⟨L219, h220, h⟩ := bnd_some h
  obtain ⟨rs, a1, a2, a3⟩ := pA_ok h220
  refine hc_aast O hH a1 rfl b1 rfl a2 (by decide) a3 dX3_init_154 (fun H locs hH => ?_)
  refine lv_iinc (v := 4) (lv' := [(3, .int 4), (0, .ref (z + r0)), (1, .ref (z + r1)), (2, .ref (z + r2))]) hx hb dX3_init_155 hl (k := 0) rfl (by decide) (by decide) rfl (fun ls hl => ?_)
  refine lv_goto (tgt := 123) hx hb dX3_init_158 (by decide) ?_
  refine lv_iload_n hx hb dX3_init_123 rfl (lv_at hl 0 rfl) ?_
  refine lv_bipush (v := 10) hx hb dX3_init_124 (by decide) ?_
  refine lv_icmp_ge (tgt := 161) hx hb dX3_init_126 (by decide) (fun c => absurd c (by decide)) (fun _ => ?_)
  refine lv_aload_n hx hb dX3_init_129 rfl (lv_at hl 1 rfl) ?_
  obtain ⟨q221, h222, h⟩ := bnd_some h
  obtain ⟨fs, a1, a2⟩ := gR_ok h222
  refine h_getr O hH a1 a2 fl_X3_11 dX3_init_130 ?_
  refine lv_iload_n hx hb dX3_init_133 rfl (lv_at hl 0 rfl) ?_
  obtain ⟨q223, e226, h⟩ := lt_some h
  obtain ⟨L224, e227, h⟩ := lt_some h
  obtain ⟨D225, e228, h⟩ := lt_some h
  refine hc_new O hH cb_10 nb_10 ww_266 ww_146 ww_7 (Nat.le_of_ble_eq_true rfl) (Nat.le_of_ble_eq_true rfl) e226 e227 e228 dX3_init_134 (fun H hH => ?_)
  refine lv_dup hx hb dX3_init_137 rfl ?_
  obtain ⟨L229, D230, h231, h⟩ := bC_some h
  refine hc_callN (As := []) (rest := [.ref (z + q223), .int 4, .ref (z + q221)]) O hH (cc_X10_init h231) mn_X3_35 rfl hl.1 rfl ⟨(Nat.le_of_ble_eq_true rfl), (Nat.le_of_ble_eq_true rfl)⟩ (Nat.le_of_ble_eq_true rfl) ⟨(Nat.le_of_ble_eq_true rfl), (Nat.le_of_ble_eq_true rfl)⟩ dX3_init_138 (fun H locs hH => ?_)
  obtain ⟨g232, h⟩ := gd_some h
  obtain ⟨fs, b1⟩ := cS_ok g232
  obtain ⟨L233, h234, h⟩ := bnd_some h
  obtain ⟨rs, a1, a2, a3⟩ := pA_ok h234
  refine hc_aast O hH a1 rfl b1 rfl a2 (by decide) a3 dX3_init_141 (fun H locs hH => ?_)
  refine lv_aload_n hx hb dX3_init_142 rfl (lv_at hl 1 rfl) ?_
  obtain ⟨q235, h236, h⟩ := bnd_some h
  obtain ⟨fs, a1, a2⟩ := gR_ok h236
  refine h_getr O hH a1 a2 fl_X3_19 dX3_init_143 ?_
  refine lv_iload_n hx hb dX3_init_146 rfl (lv_at hl 0 rfl) ?_
  obtain ⟨q237, e240, h⟩ := lt_some h
  obtain ⟨L238, e241, h⟩ := lt_some h
  obtain ⟨D239, e242, h⟩ := lt_some h
  refine hc_new O hH cb_6 nb_6 ww_268 ww_270 ww_11 (Nat.le_of_ble_eq_true rfl) (Nat.le_of_ble_eq_true rfl) e240 e241 e242 dX3_init_147 (fun H hH => ?_)
  refine lv_dup hx hb dX3_init_150 rfl ?_
  obtain ⟨L243, D244, h245, h⟩ := bC_some h
  refine hc_callN (As := []) (rest := [.ref (z + q237), .int 4, .ref (z + q235)]) O hH (cc_X6_init h245) mn_X3_23 rfl hl.1 rfl ⟨(Nat.le_of_ble_eq_true rfl), (Nat.le_of_ble_eq_true rfl)⟩ (Nat.le_of_ble_eq_true rfl) ⟨(Nat.le_of_ble_eq_true rfl), (Nat.le_of_ble_eq_true rfl)⟩ dX3_init_151 (fun H locs hH => ?_)
  obtain ⟨g246, h⟩ := gd_some h
  obtain ⟨fs, b1⟩ := cS_ok g246
  obtain ⟨L247, h248, h⟩ := bnd_some h
  obtain ⟨rs, a1, a2, a3⟩ := pA_ok h248
  refine hc_aast O hH a1 rfl b1 rfl a2 (by decide) a3 dX3_init_154 (fun H locs hH => ?_)
  refine lv_iinc (v := 5) (lv' := [(3, .int 5), (0, .ref (z + r0)), (1, .ref (z + r1)), (2, .ref (z + r2))]) hx hb dX3_init_155 hl (k := 0) rfl (by decide) (by decide) rfl (fun ls hl => ?_)
  refine lv_goto (tgt := 123) hx hb dX3_init_158 (by decide) ?_
  refine lv_iload_n hx hb dX3_init_123 rfl (lv_at hl 0 rfl) ?_
  refine lv_bipush (v := 10) hx hb dX3_init_124 (by decide) ?_
  refine lv_icmp_ge (tgt := 161) hx hb dX3_init_126 (by decide) (fun c => absurd c (by decide)) (fun _ => ?_)
  refine lv_aload_n hx hb dX3_init_129 rfl (lv_at hl 1 rfl) ?_
  obtain ⟨q249, h250, h⟩ := bnd_some h
  obtain ⟨fs, a1, a2⟩ := gR_ok h250
  refine h_getr O hH a1 a2 fl_X3_11 dX3_init_130 ?_
  refine lv_iload_n hx hb dX3_init_133 rfl (lv_at hl 0 rfl) ?_
  obtain ⟨q251, e254, h⟩ := lt_some h
  obtain ⟨L252, e255, h⟩ := lt_some h
  obtain ⟨D253, e256, h⟩ := lt_some h
  refine hc_new O hH cb_10 nb_10 ww_266 ww_146 ww_7 (Nat.le_of_ble_eq_true rfl) (Nat.le_of_ble_eq_true rfl) e254 e255 e256 dX3_init_134 (fun H hH => ?_)
  refine lv_dup hx hb dX3_init_137 rfl ?_
  obtain ⟨L257, D258, h259, h⟩ := bC_some h
  refine hc_callN (As := []) (rest := [.ref (z + q251), .int 5, .ref (z + q249)]) O hH (cc_X10_init h259) mn_X3_35 rfl hl.1 rfl ⟨(Nat.le_of_ble_eq_true rfl), (Nat.le_of_ble_eq_true rfl)⟩ (Nat.le_of_ble_eq_true rfl) ⟨(Nat.le_of_ble_eq_true rfl), (Nat.le_of_ble_eq_true rfl)⟩ dX3_init_138 (fun H locs hH => ?_)
  obtain ⟨g260, h⟩ := gd_some h
  obtain ⟨fs, b1⟩ := cS_ok g260
  obtain ⟨L261, h262, h⟩ := bnd_some h
  obtain ⟨rs, a1, a2, a3⟩ := pA_ok h262
  refine hc_aast O hH a1 rfl b1 rfl a2 (by decide) a3 dX3_init_141 (fun H locs hH => ?_)
  refine lv_aload_n hx hb dX3_init_142 rfl (lv_at hl 1 rfl) ?_
  obtain ⟨q263, h264, h⟩ := bnd_some h
  obtain ⟨fs, a1, a2⟩ := gR_ok h264
  refine h_getr O hH a1 a2 fl_X3_19 dX3_init_143 ?_
  refine lv_iload_n hx hb dX3_init_146 rfl (lv_at hl 0 rfl) ?_
  obtain ⟨q265, e268, h⟩ := lt_some h
  obtain ⟨L266, e269, h⟩ := lt_some h
  obtain ⟨D267, e270, h⟩ := lt_some h
  refine hc_new O hH cb_6 nb_6 ww_268 ww_270 ww_11 (Nat.le_of_ble_eq_true rfl) (Nat.le_of_ble_eq_true rfl) e268 e269 e270 dX3_init_147 (fun H hH => ?_)
  refine lv_dup hx hb dX3_init_150 rfl ?_
  obtain ⟨L271, D272, h273, h⟩ := bC_some h
  refine hc_callN (As := []) (rest := [.ref (z + q265), .int 5, .ref (z + q263)]) O hH (cc_X6_init h273) mn_X3_23 rfl hl.1 rfl ⟨(Nat.le_of_ble_eq_true rfl), (Nat.le_of_ble_eq_true rfl)⟩ (Nat.le_of_ble_eq_true rfl) ⟨(Nat.le_of_ble_eq_true rfl), (Nat.le_of_ble_eq_true rfl)⟩ dX3_init_151 (fun H locs hH => ?_)
  obtain ⟨g274, h⟩ := gd_some h
  obtain ⟨fs, b1⟩ := cS_ok g274
  obtain ⟨L275, h276, h⟩ := bnd_some h
  obtain ⟨rs, a1, a2, a3⟩ := pA_ok h276
  refine hc_aast O hH a1 rfl b1 rfl a2 (by decide) a3 dX3_init_154 (fun H locs hH => ?_)
  refine lv_iinc (v := 6) (lv' := [(3, .int 6), (0, .ref (z + r0)), (1, .ref (z + r1)), (2, .ref (z + r2))]) hx hb dX3_init_155 hl (k := 0) rfl (by decide) (by decide) rfl (fun ls hl => ?_)
  refine lv_goto (tgt := 123) hx hb dX3_init_158 (by decide) ?_
  refine lv_iload_n hx hb dX3_init_123 rfl (lv_at hl 0 rfl) ?_
  refine lv_bipush (v := 10) hx hb dX3_init_124 (by decide) ?_
  refine lv_icmp_ge (tgt := 161) hx hb dX3_init_126 (by decide) (fun c => absurd c (by decide)) (fun _ => ?_)
  refine lv_aload_n hx hb dX3_init_129 rfl (lv_at hl 1 rfl) ?_
  obtain ⟨q277, h278, h⟩ := bnd_some h
  obtain ⟨fs, a1, a2⟩ := gR_ok h278
  refine h_getr O hH a1 a2 fl_X3_11 dX3_init_130 ?_
  refine lv_iload_n hx hb dX3_init_133 rfl (lv_at hl 0 rfl) ?_
  obtain ⟨q279, e282, h⟩ := lt_some h
  obtain ⟨L280, e283, h⟩ := lt_some h
  obtain ⟨D281, e284, h⟩ := lt_some h
  refine hc_new O hH cb_10 nb_10 ww_266 ww_146 ww_7 (Nat.le_of_ble_eq_true rfl) (Nat.le_of_ble_eq_true rfl) e282 e283 e284 dX3_init_134 (fun H hH => ?_)
  refine lv_dup hx hb dX3_init_137 rfl ?_
  obtain ⟨L285, D286, h287, h⟩ := bC_some h
  refine hc_callN (As := []) (rest := [.ref (z + q279), .int 6, .ref (z + q277)]) O hH (cc_X10_init h287) mn_X3_35 rfl hl.1 rfl ⟨(Nat.le_of_ble_eq_true rfl), (Nat.le_of_ble_eq_true rfl)⟩ (Nat.le_of_ble_eq_true rfl) ⟨(Nat.le_of_ble_eq_true rfl), (Nat.le_of_ble_eq_true rfl)⟩ dX3_init_138 (fun H locs hH => ?_)
  obtain ⟨g288, h⟩ := gd_some h
  obtain ⟨fs, b1⟩ := cS_ok g288
  obtain ⟨L289, h290, h⟩ := bnd_some h
  obtain ⟨rs, a1, a2, a3⟩ := pA_ok h290
  refine hc_aast O hH a1 rfl b1 rfl a2 (by decide) a3 dX3_init_141 (fun H locs hH => ?_)
  refine lv_aload_n hx hb dX3_init_142 rfl (lv_at hl 1 rfl) ?_
  obtain ⟨q291, h292, h⟩ := bnd_some h
  obtain ⟨fs, a1, a2⟩ := gR_ok h292
  refine h_getr O hH a1 a2 fl_X3_19 dX3_init_143 ?_
  refine lv_iload_n hx hb dX3_init_146 rfl (lv_at hl 0 rfl) ?_
  obtain ⟨q293, e296, h⟩ := lt_some h
  obtain ⟨L294, e297, h⟩ := lt_some h
  obtain ⟨D295, e298, h⟩ := lt_some h
  refine hc_new O hH cb_6 nb_6 ww_268 ww_270 ww_11 (Nat.le_of_ble_eq_true rfl) (Nat.le_of_ble_eq_true rfl) e296 e297 e298 dX3_init_147 (fun H hH => ?_)
  refine lv_dup hx hb dX3_init_150 rfl ?_
  obtain ⟨L299, D300, h301, h⟩ := bC_some h
  refine hc_callN (As := []) (rest := [.ref (z + q293), .int 6, .ref (z + q291)]) O hH (cc_X6_init h301) mn_X3_23 rfl hl.1 rfl ⟨(Nat.le_of_ble_eq_true rfl), (Nat.le_of_ble_eq_true rfl)⟩ (Nat.le_of_ble_eq_true rfl) ⟨(Nat.le_of_ble_eq_true rfl), (Nat.le_of_ble_eq_true rfl)⟩ dX3_init_151 (fun H locs hH => ?_)
  obtain ⟨g302, h⟩ := gd_some h
  obtain ⟨fs, b1⟩ := cS_ok g302
  obtain ⟨L303, h304, h⟩ := bnd_some h
  obtain ⟨rs, a1, a2, a3⟩ := pA_ok h304
  refine hc_aast O hH a1 rfl b1 rfl a2 (by decide) a3 dX3_init_154 (fun H locs hH => ?_)
  refine lv_iinc (v := 7) (lv' := [(3, .int 7), (0, .ref (z + r0)), (1, .ref (z + r1)), (2, .ref (z + r2))]) hx hb dX3_init_155 hl (k := 0) rfl (by decide) (by decide) rfl (fun ls hl => ?_)
  refine lv_goto (tgt := 123) hx hb dX3_init_158 (by decide) ?_
  refine lv_iload_n hx hb dX3_init_123 rfl (lv_at hl 0 rfl) ?_
  refine lv_bipush (v := 10) hx hb dX3_init_124 (by decide) ?_
  refine lv_icmp_ge (tgt := 161) hx hb dX3_init_126 (by decide) (fun c => absurd c (by decide)) (fun _ => ?_)
  refine lv_aload_n hx hb dX3_init_129 rfl (lv_at hl 1 rfl) ?_
  obtain ⟨q305, h306, h⟩ := bnd_some h
  obtain ⟨fs, a1, a2⟩ := gR_ok h306
  refine h_getr O hH a1 a2 fl_X3_11 dX3_init_130 ?_
  refine lv_iload_n hx hb dX3_init_133 rfl (lv_at hl 0 rfl) ?_
  obtain ⟨q307, e310, h⟩ := lt_some h
  obtain ⟨L308, e311, h⟩ := lt_some h
  obtain ⟨D309, e312, h⟩ := lt_some h
  refine hc_new O hH cb_10 nb_10 ww_266 ww_146 ww_7 (Nat.le_of_ble_eq_true rfl) (Nat.le_of_ble_eq_true rfl) e310 e311 e312 dX3_init_134 (fun H hH => ?_)
  refine lv_dup hx hb dX3_init_137 rfl ?_
  obtain ⟨L313, D314, h315, h⟩ := bC_some h
  refine hc_callN (As := []) (rest := [.ref (z + q307), .int 7, .ref (z + q305)]) O hH (cc_X10_init h315) mn_X3_35 rfl hl.1 rfl ⟨(Nat.le_of_ble_eq_true rfl), (Nat.le_of_ble_eq_true rfl)⟩ (Nat.le_of_ble_eq_true rfl) ⟨(Nat.le_of_ble_eq_true rfl), (Nat.le_of_ble_eq_true rfl)⟩ dX3_init_138 (fun H locs hH => ?_)
  obtain ⟨g316, h⟩ := gd_some h
  obtain ⟨fs, b1⟩ := cS_ok g316
  obtain ⟨L317, h318, h⟩ := bnd_some h
  obtain ⟨rs, a1, a2, a3⟩ := pA_ok h318
  refine hc_aast O hH a1 rfl b1 rfl a2 (by decide) a3 dX3_init_141 (fun H locs hH => ?_)
  refine lv_aload_n hx hb dX3_init_142 rfl (lv_at hl 1 rfl) ?_
  obtain ⟨q319, h320, h⟩ := bnd_some h
  obtain ⟨fs, a1, a2⟩ := gR_ok h320
  refine h_getr O hH a1 a2 fl_X3_19 dX3_init_143 ?_
  refine lv_iload_n hx hb dX3_init_146 rfl (lv_at hl 0 rfl) ?_
  obtain ⟨q321, e324, h⟩ := lt_some h
  obtain ⟨L322, e325, h⟩ := lt_some h
  obtain ⟨D323, e326, h⟩ := lt_some h
  refine hc_new O hH cb_6 nb_6 ww_268 ww_270 ww_11 (Nat.le_of_ble_eq_true rfl) (Nat.le_of_ble_eq_true rfl) e324 e325 e326 dX3_init_147 (fun H hH => ?_)
  refine lv_dup hx hb dX3_init_150 rfl ?_
  obtain ⟨L327, D328, h329, h⟩ := bC_some h
  refine hc_callN (As := []) (rest := [.ref (z + q321), .int 7, .ref (z + q319)]) O hH (cc_X6_init h329) mn_X3_23 rfl hl.1 rfl ⟨(Nat.le_of_ble_eq_true rfl), (Nat.le_of_ble_eq_true rfl)⟩ (Nat.le_of_ble_eq_true rfl) ⟨(Nat.le_of_ble_eq_true rfl), (Nat.le_of_ble_eq_true rfl)⟩ dX3_init_151 (fun H locs hH => ?_)
  obtain ⟨g330, h⟩ := gd_some h
  obtain ⟨fs, b1⟩ := cS_ok g330
  obtain ⟨L331, h332, h⟩ := bnd_some h
  obtain ⟨rs, a1, a2, a3⟩ := pA_ok h332
  refine hc_aast O hH a1 rfl b1 rfl a2 (by decide) a3 dX3_init_154 (fun H locs hH => ?_)
  refine lv_iinc (v := 8) (lv' := [(3, .int 8), (0, .ref (z + r0)), (1, .ref (z + r1)), (2, .ref (z + r2))]) hx hb dX3_init_155 hl (k := 0) rfl (by decide) (by decide) rfl (fun ls hl => ?_)
  refine lv_goto (tgt := 123) hx hb dX3_init_158 (by decide) ?_
  refine lv_iload_n hx hb dX3_init_123 rfl (lv_at hl 0 rfl) ?_
  refine lv_bipush (v := 10) hx hb dX3_init_124 (by decide) ?_
  refine lv_icmp_ge (tgt := 161) hx hb dX3_init_126 (by decide) (fun c => absurd c (by decide)) (fun _ => ?_)
  refine lv_aload_n hx hb dX3_init_129 rfl (lv_at hl 1 rfl) ?_
  obtain ⟨q333, h334, h⟩ := bnd_some h
  obtain ⟨fs, a1, a2⟩ := gR_ok h334
  refine h_getr O hH a1 a2 fl_X3_11 dX3_init_130 ?_
  refine lv_iload_n hx hb dX3_init_133 rfl (lv_at hl 0 rfl) ?_
  obtain ⟨q335, e338, h⟩ := lt_some h
  obtain ⟨L336, e339, h⟩ := lt_some h
  obtain ⟨D337, e340, h⟩ := lt_some h
  refine hc_new O hH cb_10 nb_10 ww_266 ww_146 ww_7 (Nat.le_of_ble_eq_true rfl) (Nat.le_of_ble_eq_true rfl) e338 e339 e340 dX3_init_134 (fun H hH => ?_)
  refine lv_dup hx hb dX3_init_137 rfl ?_
  obtain ⟨L341, D342, h343, h⟩ := bC_some h
  refine hc_callN (As := []) (rest := [.ref (z + q335), .int 8, .ref (z + q333)]) O hH (cc_X10_init h343) mn_X3_35 rfl hl.1 rfl ⟨(Nat.le_of_ble_eq_true rfl), (Nat.le_of_ble_eq_true rfl)⟩ (Nat.le_of_ble_eq_true rfl) ⟨(Nat.le_of_ble_eq_true rfl), (Nat.le_of_ble_eq_true rfl)⟩ dX3_init_138 (fun H locs hH => ?_)
  obtain ⟨g344, h⟩ := gd_some h
  obtain ⟨fs, b1⟩ := cS_ok g344
  obtain ⟨L345, h346, h⟩ := bnd_some h
  obtain ⟨rs, a1, a2, a3⟩ := pA_ok h346
  refine hc_aast O hH a1 rfl b1 rfl a2 (by decide) a3 dX3_init_141 (fun H locs hH => ?_)
  refine lv_aload_n hx hb dX3_init_142 rfl (lv_at hl 1 rfl) ?_
  obtain ⟨q347, h348, h⟩ := bnd_some h
  obtain ⟨fs, a1, a2⟩ := gR_ok h348
  refine h_getr O hH a1 a2 fl_X3_19 dX3_init_143 ?_
  refine lv_iload_n hx hb dX3_init_146 rfl (lv_at hl 0 rfl) ?_
  obtain ⟨q349, e352, h⟩ := lt_some h
  obtain ⟨L350, e353, h⟩ := lt_some h
  obtain ⟨D351, e354, h⟩ := lt_some h
  refine hc_new O hH cb_6 nb_6 ww_268 ww_270 ww_11 (Nat.le_of_ble_eq_true rfl) (Nat.le_of_ble_eq_true rfl) e352 e353 e354 dX3_init_147 (fun H hH => ?_)
  refine lv_dup hx hb dX3_init_150 rfl ?_
  obtain ⟨L355, D356, h357, h⟩ := bC_some h
  refine hc_callN (As := []) (rest := [.ref (z + q349), .int 8, .ref (z + q347)]) O hH (cc_X6_init h357) mn_X3_23 rfl hl.1 rfl ⟨(Nat.le_of_ble_eq_true rfl), (Nat.le_of_ble_eq_true rfl)⟩ (Nat.le_of_ble_eq_true rfl) ⟨(Nat.le_of_ble_eq_true rfl), (Nat.le_of_ble_eq_true rfl)⟩ dX3_init_151 (fun H locs hH => ?_)
  obtain ⟨g358, h⟩ := gd_some h
  obtain ⟨fs, b1⟩ := cS_ok g358
  obtain ⟨L359, h360, h⟩ := bnd_some h
  obtain ⟨rs, a1, a2, a3⟩ := pA_ok h360
  refine hc_aast O hH a1 rfl b1 rfl a2 (by decide) a3 dX3_init_154 (fun H locs hH => ?_)
  refine lv_iinc (v := 9) (lv' := [(3, .int 9), (0, .ref (z + r0)), (1, .ref (z + r1)), (2, .ref (z + r2))]) hx hb dX3_init_155 hl (k := 0) rfl (by decide) (by decide) rfl (fun ls hl => ?_)
  refine lv_goto (tgt := 123) hx hb dX3_init_158 (by decide) ?_
  refine lv_iload_n hx hb dX3_init_123 rfl (lv_at hl 0 rfl) ?_
  refine lv_bipush (v := 10) hx hb dX3_init_124 (by decide) ?_
  refine lv_icmp_ge (tgt := 161) hx hb dX3_init_126 (by decide) (fun c => absurd c (by decide)) (fun _ => ?_)
  refine lv_aload_n hx hb dX3_init_129 rfl (lv_at hl 1 rfl) ?_
  obtain ⟨q361, h362, h⟩ := bnd_some h
  obtain ⟨fs, a1, a2⟩ := gR_ok h362
  refine h_getr O hH a1 a2 fl_X3_11 dX3_init_130 ?_
  refine lv_iload_n hx hb dX3_init_133 rfl (lv_at hl 0 rfl) ?_
  obtain ⟨q363, e366, h⟩ := lt_some h
  obtain ⟨L364, e367, h⟩ := lt_some h
  obtain ⟨D365, e368, h⟩ := lt_some h
  refine hc_new O hH cb_10 nb_10 ww_266 ww_146 ww_7 (Nat.le_of_ble_eq_true rfl) (Nat.le_of_ble_eq_true rfl) e366 e367 e368 dX3_init_134 (fun H hH => ?_)
  refine lv_dup hx hb dX3_init_137 rfl ?_
  obtain ⟨L369, D370, h371, h⟩ := bC_some h
  refine hc_callN (As := []) (rest := [.ref (z + q363), .int 9, .ref (z + q361)]) O hH (cc_X10_init h371) mn_X3_35 rfl hl.1 rfl ⟨(Nat.le_of_ble_eq_true rfl), (Nat.le_of_ble_eq_true rfl)⟩ (Nat.le_of_ble_eq_true rfl) ⟨(Nat.le_of_ble_eq_true rfl), (Nat.le_of_ble_eq_true rfl)⟩ dX3_init_138 (fun H locs hH => ?_)
  obtain ⟨g372, h⟩ := gd_some h
  obtain ⟨fs, b1⟩ := cS_ok g372
  obtain ⟨L373, h374, h⟩ := bnd_some h
  obtain ⟨rs, a1, a2, a3⟩ := pA_ok h374
  refine hc_aast O hH a1 rfl b1 rfl a2 (by decide) a3 dX3_init_141 (fun H locs hH => ?_)
  refine lv_aload_n hx hb dX3_init_142 rfl (lv_at hl 1 rfl) ?_
  obtain ⟨q375, h376, h⟩ := bnd_some h
  obtain ⟨fs, a1, a2⟩ := gR_ok h376
  refine h_getr O hH a1 a2 fl_X3_19 dX3_init_143 ?_
  refine lv_iload_n hx hb dX3_init_146 rfl (lv_at hl 0 rfl) ?_
  obtain ⟨q377, e380, h⟩ := lt_some h
  obtain ⟨L378, e381, h⟩ := lt_some h
  obtain ⟨D379, e382, h⟩ := lt_some h
  refine hc_new O hH cb_6 nb_6 ww_268 ww_270 ww_11 (Nat.le_of_ble_eq_true rfl) (Nat.le_of_ble_eq_true rfl) e380 e381 e382 dX3_init_147 (fun H hH => ?_)
  refine lv_dup hx hb dX3_init_150 rfl ?_
  obtain ⟨L383, D384, h385, h⟩ := bC_some h
  refine hc_callN (As := []) (rest := [.ref (z + q377), .int 9, .ref (z + q375)]) O hH (cc_X6_init h385) mn_X3_23 rfl hl.1 rfl ⟨(Nat.le_of_ble_eq_true rfl), (Nat.le_of_ble_eq_true rfl)⟩ (Nat.le_of_ble_eq_true rfl) ⟨(Nat.le_of_ble_eq_true rfl), (Nat.le_of_ble_eq_true rfl)⟩ dX3_init_151 (fun H locs hH => ?_)
  obtain ⟨g386, h⟩ := gd_some h
  obtain ⟨fs, b1⟩ := cS_ok g386
  obtain ⟨L387, h388, h⟩ := bnd_some h
  obtain ⟨rs, a1, a2, a3⟩ := pA_ok h388
  refine hc_aast O hH a1 rfl b1 rfl a2 (by decide) a3 dX3_init_154 (fun H locs hH => ?_)
  refine lv_iinc (v := 10) (lv' := [(3, .int 10), (0, .ref (z + r0)), (1, .ref (z + r1)), (2, .ref (z + r2))]) hx hb dX3_init_155 hl (k := 0) rfl (by decide) (by decide) rfl (fun ls hl => ?_)
  refine lv_goto (tgt := 123) hx hb dX3_init_158 (by decide) ?_
  refine lv_iload_n hx hb dX3_init_123 rfl (lv_at hl 0 rfl) ?_
  refine lv_bipush (v := 10) hx hb dX3_init_124 (by decide) ?_
  refine lv_icmp_ge (tgt := 161) hx hb dX3_init_126 (by decide) (fun _ => ?_) (fun c => absurd (by decide) c)
  refine lv_aload_n hx hb dX3_init_161 rfl (lv_at hl 1 rfl) ?_
  obtain ⟨g392, h⟩ := gd_some h
  obtain ⟨L389, D390, h391, h⟩ := bC_some h
  obtain ⟨fs, b1⟩ := cS_ok g392
  refine hc_callV (As := []) (rest := []) O hH (cc_X3_startAnew h391) ml_X3_73 b1 rfl rfl hl.1 rfl ⟨(Nat.le_of_ble_eq_true rfl), (Nat.le_of_ble_eq_true rfl)⟩ (Nat.le_of_ble_eq_true rfl) ⟨(Nat.le_of_ble_eq_true rfl), (Nat.le_of_ble_eq_true rfl)⟩ dX3_init_162 (fun H locs hH => ?_)
  obtain ⟨rfl, rfl⟩ := ret_c h
  exact h_vret O hr hlk hH dX3_init_165
set_option maxHeartbeats 4000000 in
theorem cc_X3_init {l : Launch} {G : va_G} {tA : Nat → ClassId} {z : Nat} {E : Ex} {r0 : Nat} {r1 : Nat} {r2 : Nat} {L L' : List Sh} {D D' : Dm} (h : fc_X3_init r0 r1 r2 L D = some (L', D')) : CtV l yX3_init cX3_init 4 G tA z E 3 218 2228 [.ref (z + r0), .ref (z + r1), .ref (z + r2)] L D L' D' :=
  ct_BC (by decide +kernel) (Nat.le_of_ble_eq_true rfl) (fun _ _ _ _ _ _ _ _ O hr hlk hnm => v_X3_init O hnm hr hlk _ _ _ _ _ h)
set_option maxHeartbeats 4000000 in
theorem v_X11_init {G : va_G} {tA : Nat → ClassId} {z : Nat} {E : Ex} {p : Program} {l : Launch} {e : Env} {s : State} {m : MethodId} {args : Array Value} {below : List Frame} {meth : Method} {c : Code} {L' : List Sh} {D' : Dm} (O : Ok G tA z E cX11_init RX11 2 p s m args c) (hnm : meth.name = "<init>") (hr : meth.sig.returnType = none) (hlk : meth.locks = false) (r0 : Nat) (L : List Sh) (D : Dm) (h : fc_X11_init r0 L D = some (L', D')) : BC G tA z E p l e (rmC 5 280 11386) s m args below meth c 0 0 280 11386 L D L' D' 2 0 [(0, .ref (z + r0))] [] := by
  obtain ⟨hx, hb, -, hown, hts, -⟩ := id O
  unfold fc_X11_init at h
  intro H locs ls hH hl
  refine lv_aload_n hx hb dX11_init_0 rfl (lv_at hl 0 rfl) ?_
  refine hc_oinit O hl.1 ww_27 ⟨(Nat.le_of_ble_eq_true rfl), (Nat.le_of_ble_eq_true rfl)⟩ (rest := []) (Nat.le_of_ble_eq_true rfl) dX11_init_1 ?_
  refine lv_aload_n hx hb dX11_init_4 rfl (lv_at hl 0 rfl) ?_
  obtain ⟨q1, e4, h⟩ := lt_some h
  obtain ⟨L2, e5, h⟩ := lt_some h
  obtain ⟨D3, e6, h⟩ := lt_some h
  refine hc_new O hH cb_7 nb_7 ww_30 ww_31 ww_2 (Nat.le_of_ble_eq_true rfl) (Nat.le_of_ble_eq_true rfl) e4 e5 e6 dX11_init_5 (fun H hH => ?_)
  refine lv_dup hx hb dX11_init_8 rfl ?_
  obtain ⟨L7, D8, h9, h⟩ := bC_some h
  refine hc_callN (As := []) (rest := [.ref (z + q1), .ref (z + r0)]) O hH (cc_X7_init h9) mn_X11_9 rfl hl.1 rfl ⟨(Nat.le_of_ble_eq_true rfl), (Nat.le_of_ble_eq_true rfl)⟩ (Nat.le_of_ble_eq_true rfl) ⟨(Nat.le_of_ble_eq_true rfl), (Nat.le_of_ble_eq_true rfl)⟩ dX11_init_9 (fun H locs hH => ?_)
  obtain ⟨L10, h11, h⟩ := bnd_some h
  obtain ⟨fs, o, a1, a2, a3⟩ := pR_ok h11
  refine hc_putr O hnm hH a1 a2 fl_X11_10 (fun _ _ _ h => by cases h; rfl) (fun _ => ⟨rfl, rfl⟩) a3 dX11_init_12 (fun H locs hH => ?_)
  refine lv_aload_n hx hb dX11_init_15 rfl (lv_at hl 0 rfl) ?_
  obtain ⟨q12, e15, h⟩ := lt_some h
  obtain ⟨L13, e16, h⟩ := lt_some h
  obtain ⟨D14, e17, h⟩ := lt_some h
  refine hc_new O hH cb_5 nb_5 ww_68 ww_69 ww_3 (Nat.le_of_ble_eq_true rfl) (Nat.le_of_ble_eq_true rfl) e15 e16 e17 dX11_init_16 (fun H hH => ?_)
  refine lv_dup hx hb dX11_init_19 rfl ?_
  obtain ⟨L18, D19, h20, h⟩ := bC_some h
  refine hc_callN (As := []) (rest := [.ref (z + q12), .ref (z + r0)]) O hH (cc_X5_init h20) mn_X11_18 rfl hl.1 rfl ⟨(Nat.le_of_ble_eq_true rfl), (Nat.le_of_ble_eq_true rfl)⟩ (Nat.le_of_ble_eq_true rfl) ⟨(Nat.le_of_ble_eq_true rfl), (Nat.le_of_ble_eq_true rfl)⟩ dX11_init_20 (fun H locs hH => ?_)
  obtain ⟨L21, h22, h⟩ := bnd_some h
  obtain ⟨fs, o, a1, a2, a3⟩ := pR_ok h22
  refine hc_putr O hnm hH a1 a2 fl_X11_19 (fun _ _ _ h => by cases h; rfl) (fun _ => ⟨rfl, rfl⟩) a3 dX11_init_23 (fun H locs hH => ?_)
  refine lv_aload_n hx hb dX11_init_26 rfl (lv_at hl 0 rfl) ?_
  refine lv_iconst (v := 2) hx hb dX11_init_27 (by decide) ?_
  obtain ⟨q23, e26, h⟩ := lt_some h
  obtain ⟨L24, e27, h⟩ := lt_some h
  obtain ⟨D25, e28, h⟩ := lt_some h
  refine hc_anew (t := 3) (N' := 2) O hH ww_142 (by decide) rfl (by decide) (by decide) (by decide) (Nat.le_of_ble_eq_true rfl) (Nat.le_of_ble_eq_true rfl) e26 e27 e28 dX11_init_28 (fun H hH => ?_)
  obtain ⟨L29, h30, h⟩ := bnd_some h
  obtain ⟨fs, o, a1, a2, a3⟩ := pR_ok h30
  refine hc_putr O hnm hH a1 a2 fl_X11_25 (fun _ _ _ h => by cases h; rfl) (fun _ => ⟨rfl, rfl⟩) a3 dX11_init_31 (fun H locs hH => ?_)
  refine lv_iconst (v := 0) hx hb dX11_init_34 (by decide) ?_
  refine lv_istore_n (lv' := [(1, .int 0), (0, .ref (z + r0))]) hx hb dX11_init_35 rfl hl (by decide) rfl (fun ls hl => ?_)
  refine lv_iload_n hx hb dX11_init_36 rfl (lv_at hl 0 rfl) ?_
  refine lv_iconst (v := 2) hx hb dX11_init_37 (by decide) ?_
  refine lv_icmp_ge (tgt := 60) hx hb dX11_init_38 (by decide) (fun c => absurd c (by decide)) (fun _ => ?_)
  refine lv_aload_n hx hb dX11_init_41 rfl (lv_at hl 1 rfl) ?_
  obtain ⟨q31, h32, h⟩ := bnd_some h
  obtain ⟨fs, a1, a2⟩ := gR_ok h32
  refine h_getr O hH a1 a2 fl_X11_25 dX11_init_42 ?_
  refine lv_iload_n hx hb dX11_init_45 rfl (lv_at hl 0 rfl) ?_
  obtain ⟨q33, e36, h⟩ := lt_some h
  obtain ⟨L34, e37, h⟩ := lt_some h
  obtain ⟨D35, e38, h⟩ := lt_some h
  refine hc_new O hH cb_4 nb_4 ww_142 ww_75 ww_5 (Nat.le_of_ble_eq_true rfl) (Nat.le_of_ble_eq_true rfl) e36 e37 e38 dX11_init_46 (fun H hH => ?_)
  refine lv_dup hx hb dX11_init_49 rfl ?_
  obtain ⟨L39, D40, h41, h⟩ := bC_some h
  refine hc_callI (As := []) (rest := [.ref (z + q33), .int 0, .ref (z + q31)]) O hH (cc_X4_init h41) mi_X11_29 rfl hl.1 rfl ⟨(Nat.le_of_ble_eq_true rfl), (Nat.le_of_ble_eq_true rfl)⟩ (Nat.le_of_ble_eq_true rfl) ⟨(Nat.le_of_ble_eq_true rfl), (Nat.le_of_ble_eq_true rfl)⟩ dX11_init_50 (fun H locs hH => ?_)
  obtain ⟨g42, h⟩ := gd_some h
  obtain ⟨fs, b1⟩ := cS_ok g42
  obtain ⟨L43, h44, h⟩ := bnd_some h
  obtain ⟨rs, a1, a2, a3⟩ := pA_ok h44
  refine hc_aast O hH a1 rfl b1 rfl a2 (by decide) a3 dX11_init_53 (fun H locs hH => ?_)
  refine lv_iinc (v := 1) (lv' := [(1, .int 1), (0, .ref (z + r0))]) hx hb dX11_init_54 hl (k := 0) rfl (by decide) (by decide) rfl (fun ls hl => ?_)
  refine lv_goto (tgt := 36) hx hb dX11_init_57 (by decide) ?_
  refine lv_iload_n hx hb dX11_init_36 rfl (lv_at hl 0 rfl) ?_
  refine lv_iconst (v := 2) hx hb dX11_init_37 (by decide) ?_
  refine lv_icmp_ge (tgt := 60) hx hb dX11_init_38 (by decide) (fun c => absurd c (by decide)) (fun _ => ?_)
  refine lv_aload_n hx hb dX11_init_41 rfl (lv_at hl 1 rfl) ?_
  obtain ⟨q45, h46, h⟩ := bnd_some h
  obtain ⟨fs, a1, a2⟩ := gR_ok h46
  refine h_getr O hH a1 a2 fl_X11_25 dX11_init_42 ?_
  refine lv_iload_n hx hb dX11_init_45 rfl (lv_at hl 0 rfl) ?_
  obtain ⟨q47, e50, h⟩ := lt_some h
  obtain ⟨L48, e51, h⟩ := lt_some h
  obtain ⟨D49, e52, h⟩ := lt_some h
  refine hc_new O hH cb_4 nb_4 ww_142 ww_75 ww_5 (Nat.le_of_ble_eq_true rfl) (Nat.le_of_ble_eq_true rfl) e50 e51 e52 dX11_init_46 (fun H hH => ?_)
  refine lv_dup hx hb dX11_init_49 rfl ?_
  obtain ⟨L53, D54, h55, h⟩ := bC_some h
  refine hc_callI (As := []) (rest := [.ref (z + q47), .int 1, .ref (z + q45)]) O hH (cc_X4_init h55) mi_X11_29 rfl hl.1 rfl ⟨(Nat.le_of_ble_eq_true rfl), (Nat.le_of_ble_eq_true rfl)⟩ (Nat.le_of_ble_eq_true rfl) ⟨(Nat.le_of_ble_eq_true rfl), (Nat.le_of_ble_eq_true rfl)⟩ dX11_init_50 (fun H locs hH => ?_)
  obtain ⟨g56, h⟩ := gd_some h
  obtain ⟨fs, b1⟩ := cS_ok g56
  obtain ⟨L57, h58, h⟩ := bnd_some h
  obtain ⟨rs, a1, a2, a3⟩ := pA_ok h58
  refine hc_aast O hH a1 rfl b1 rfl a2 (by decide) a3 dX11_init_53 (fun H locs hH => ?_)
  refine lv_iinc (v := 2) (lv' := [(1, .int 2), (0, .ref (z + r0))]) hx hb dX11_init_54 hl (k := 0) rfl (by decide) (by decide) rfl (fun ls hl => ?_)
  refine lv_goto (tgt := 36) hx hb dX11_init_57 (by decide) ?_
  refine lv_iload_n hx hb dX11_init_36 rfl (lv_at hl 0 rfl) ?_
  refine lv_iconst (v := 2) hx hb dX11_init_37 (by decide) ?_
  refine lv_icmp_ge (tgt := 60) hx hb dX11_init_38 (by decide) (fun _ => ?_) (fun c => absurd (by decide) c)
  refine lv_aload_n hx hb dX11_init_60 rfl (lv_at hl 1 rfl) ?_
  obtain ⟨q59, e62, h⟩ := lt_some h
  obtain ⟨L60, e63, h⟩ := lt_some h
  obtain ⟨D61, e64, h⟩ := lt_some h
  refine hc_new O hH cb_10 nb_10 ww_145 ww_146 ww_7 (Nat.le_of_ble_eq_true rfl) (Nat.le_of_ble_eq_true rfl) e62 e63 e64 dX11_init_61 (fun H hH => ?_)
  refine lv_dup hx hb dX11_init_64 rfl ?_
  obtain ⟨L65, D66, h67, h⟩ := bC_some h
  refine hc_callN (As := []) (rest := [.ref (z + q59), .ref (z + r0)]) O hH (cc_X10_init h67) mn_X11_32 rfl hl.1 rfl ⟨(Nat.le_of_ble_eq_true rfl), (Nat.le_of_ble_eq_true rfl)⟩ (Nat.le_of_ble_eq_true rfl) ⟨(Nat.le_of_ble_eq_true rfl), (Nat.le_of_ble_eq_true rfl)⟩ dX11_init_65 (fun H locs hH => ?_)
  obtain ⟨L68, h69, h⟩ := bnd_some h
  obtain ⟨fs, o, a1, a2, a3⟩ := pR_ok h69
  refine hc_putr O hnm hH a1 a2 fl_X11_33 (fun _ _ _ h => by cases h; rfl) (fun _ => ⟨rfl, rfl⟩) a3 dX11_init_68 (fun H locs hH => ?_)
  refine lv_aload_n hx hb dX11_init_71 rfl (lv_at hl 1 rfl) ?_
  obtain ⟨q70, e73, h⟩ := lt_some h
  obtain ⟨L71, e74, h⟩ := lt_some h
  obtain ⟨D72, e75, h⟩ := lt_some h
  refine hc_new O hH cb_10 nb_10 ww_145 ww_146 ww_7 (Nat.le_of_ble_eq_true rfl) (Nat.le_of_ble_eq_true rfl) e73 e74 e75 dX11_init_72 (fun H hH => ?_)
  refine lv_dup hx hb dX11_init_75 rfl ?_
  obtain ⟨L76, D77, h78, h⟩ := bC_some h
  refine hc_callN (As := []) (rest := [.ref (z + q70), .ref (z + r0)]) O hH (cc_X10_init h78) mn_X11_32 rfl hl.1 rfl ⟨(Nat.le_of_ble_eq_true rfl), (Nat.le_of_ble_eq_true rfl)⟩ (Nat.le_of_ble_eq_true rfl) ⟨(Nat.le_of_ble_eq_true rfl), (Nat.le_of_ble_eq_true rfl)⟩ dX11_init_76 (fun H locs hH => ?_)
  obtain ⟨L79, h80, h⟩ := bnd_some h
  obtain ⟨fs, o, a1, a2, a3⟩ := pR_ok h80
  refine hc_putr O hnm hH a1 a2 fl_X11_37 (fun _ _ _ h => by cases h; rfl) (fun _ => ⟨rfl, rfl⟩) a3 dX11_init_79 (fun H locs hH => ?_)
  refine lv_aload_n hx hb dX11_init_82 rfl (lv_at hl 1 rfl) ?_
  obtain ⟨q81, e84, h⟩ := lt_some h
  obtain ⟨L82, e85, h⟩ := lt_some h
  obtain ⟨D83, e86, h⟩ := lt_some h
  refine hc_new O hH cb_8 nb_8 ww_184 ww_185 ww_8 (Nat.le_of_ble_eq_true rfl) (Nat.le_of_ble_eq_true rfl) e84 e85 e86 dX11_init_83 (fun H hH => ?_)
  refine lv_dup hx hb dX11_init_86 rfl ?_
  obtain ⟨L87, D88, h89, h⟩ := bC_some h
  refine hc_callN (As := []) (rest := [.ref (z + q81), .ref (z + r0)]) O hH (cc_X8_init h89) mn_X11_42 rfl hl.1 rfl ⟨(Nat.le_of_ble_eq_true rfl), (Nat.le_of_ble_eq_true rfl)⟩ (Nat.le_of_ble_eq_true rfl) ⟨(Nat.le_of_ble_eq_true rfl), (Nat.le_of_ble_eq_true rfl)⟩ dX11_init_87 (fun H locs hH => ?_)
  obtain ⟨L90, h91, h⟩ := bnd_some h
  obtain ⟨fs, o, a1, a2, a3⟩ := pR_ok h91
  refine hc_putr O hnm hH a1 a2 fl_X11_43 (fun _ _ _ h => by cases h; rfl) (fun _ => ⟨rfl, rfl⟩) a3 dX11_init_90 (fun H locs hH => ?_)
  refine lv_aload_n hx hb dX11_init_93 rfl (lv_at hl 1 rfl) ?_
  obtain ⟨q92, e95, h⟩ := lt_some h
  obtain ⟨L93, e96, h⟩ := lt_some h
  obtain ⟨D94, e97, h⟩ := lt_some h
  refine hc_new O hH cb_3 nb_3 ww_260 ww_261 ww_10 (Nat.le_of_ble_eq_true rfl) (Nat.le_of_ble_eq_true rfl) e95 e96 e97 dX11_init_94 (fun H hH => ?_)
  refine lv_dup hx hb dX11_init_97 rfl ?_
  refine lv_aload_n hx hb dX11_init_98 rfl (lv_at hl 1 rfl) ?_
  obtain ⟨q98, h99, h⟩ := bnd_some h
  obtain ⟨fs, a1, a2⟩ := gR_ok h99
  refine h_getr O hH a1 a2 fl_X11_25 dX11_init_99 ?_
  refine lv_iconst (v := 0) hx hb dX11_init_102 (by decide) ?_
  obtain ⟨q100, h101, h⟩ := bnd_some h
  obtain ⟨rs, a1, a2⟩ := gA_ok h101
  refine h_aald O hH a1 rfl (inB_of (by decide) rfl (List.getElem?_eq_some_iff.mp a2).1) a2 dX11_init_103 ?_
  refine lv_aload_n hx hb dX11_init_104 rfl (lv_at hl 1 rfl) ?_
  obtain ⟨q102, h103, h⟩ := bnd_some h
  obtain ⟨fs, a1, a2⟩ := gR_ok h103
  refine h_getr O hH a1 a2 fl_X11_43 dX11_init_105 ?_
  obtain ⟨L104, D105, h106, h⟩ := bC_some h
  refine hc_callI (As := [.ref (z + q100), .ref (z + q102)]) (rest := [.ref (z + q92), .ref (z + r0)]) O hH (cc_X3_init h106) mi_X11_49 rfl hl.1 rfl ⟨(Nat.le_of_ble_eq_true rfl), (Nat.le_of_ble_eq_true rfl)⟩ (Nat.le_of_ble_eq_true rfl) ⟨(Nat.le_of_ble_eq_true rfl), (Nat.le_of_ble_eq_true rfl)⟩ dX11_init_108 (fun H locs hH => ?_)
  obtain ⟨L107, h108, h⟩ := bnd_some h
  obtain ⟨fs, o, a1, a2, a3⟩ := pR_ok h108
  refine hc_putr O hnm hH a1 a2 fl_X11_52 (fun _ _ _ h => by cases h; rfl) (fun _ => ⟨rfl, rfl⟩) a3 dX11_init_111 (fun H locs hH => ?_)
  refine lv_aload_n hx hb dX11_init_114 rfl (lv_at hl 1 rfl) ?_
  obtain ⟨q109, e112, h⟩ := lt_some h
  obtain ⟨L110, e113, h⟩ := lt_some h
  obtain ⟨D111, e114, h⟩ := lt_some h
  refine hc_new O hH cb_10 nb_10 ww_145 ww_146 ww_7 (Nat.le_of_ble_eq_true rfl) (Nat.le_of_ble_eq_true rfl) e112 e113 e114 dX11_init_115 (fun H hH => ?_)
  refine lv_dup hx hb dX11_init_118 rfl ?_
  obtain ⟨L115, D116, h117, h⟩ := bC_some h
  refine hc_callN (As := []) (rest := [.ref (z + q109), .ref (z + r0)]) O hH (cc_X10_init h117) mn_X11_32 rfl hl.1 rfl ⟨(Nat.le_of_ble_eq_true rfl), (Nat.le_of_ble_eq_true rfl)⟩ (Nat.le_of_ble_eq_true rfl) ⟨(Nat.le_of_ble_eq_true rfl), (Nat.le_of_ble_eq_true rfl)⟩ dX11_init_119 (fun H locs hH => ?_)
  obtain ⟨L118, h119, h⟩ := bnd_some h
  obtain ⟨fs, o, a1, a2, a3⟩ := pR_ok h119
  refine hc_putr O hnm hH a1 a2 fl_X11_56 (fun _ _ _ h => by cases h; rfl) (fun _ => ⟨rfl, rfl⟩) a3 dX11_init_122 (fun H locs hH => ?_)
  refine lv_aload_n hx hb dX11_init_125 rfl (lv_at hl 1 rfl) ?_
  obtain ⟨q120, e123, h⟩ := lt_some h
  obtain ⟨L121, e124, h⟩ := lt_some h
  obtain ⟨D122, e125, h⟩ := lt_some h
  refine hc_new O hH cb_1 nb_1 ww_444 ww_191 ww_9 (Nat.le_of_ble_eq_true rfl) (Nat.le_of_ble_eq_true rfl) e123 e124 e125 dX11_init_126 (fun H hH => ?_)
  refine lv_dup hx hb dX11_init_129 rfl ?_
  obtain ⟨L126, D127, h128, h⟩ := bC_some h
  refine hc_callN (As := []) (rest := [.ref (z + q120), .ref (z + r0)]) O hH (cc_X1_init h128) mn_X11_61 rfl hl.1 rfl ⟨(Nat.le_of_ble_eq_true rfl), (Nat.le_of_ble_eq_true rfl)⟩ (Nat.le_of_ble_eq_true rfl) ⟨(Nat.le_of_ble_eq_true rfl), (Nat.le_of_ble_eq_true rfl)⟩ dX11_init_130 (fun H locs hH => ?_)
  obtain ⟨L129, h130, h⟩ := bnd_some h
  obtain ⟨fs, o, a1, a2, a3⟩ := pR_ok h130
  refine hc_putr O hnm hH a1 a2 fl_X11_62 (fun _ _ _ h => by cases h; rfl) (fun _ => ⟨rfl, rfl⟩) a3 dX11_init_133 (fun H locs hH => ?_)
  refine lv_aload_n hx hb dX11_init_136 rfl (lv_at hl 1 rfl) ?_
  refine lv_bipush (v := 6) hx hb dX11_init_137 (by decide) ?_
  obtain ⟨q131, e134, h⟩ := lt_some h
  obtain ⟨L132, e135, h⟩ := lt_some h
  obtain ⟨D133, e136, h⟩ := lt_some h
  refine hc_anew (t := 4) (N' := 6) O hH ww_444 (by decide) rfl (by decide) (by decide) (by decide) (Nat.le_of_ble_eq_true rfl) (Nat.le_of_ble_eq_true rfl) e134 e135 e136 dX11_init_139 (fun H hH => ?_)
  obtain ⟨L137, h138, h⟩ := bnd_some h
  obtain ⟨fs, o, a1, a2, a3⟩ := pR_ok h138
  refine hc_putr O hnm hH a1 a2 fl_X11_66 (fun _ _ _ h => by cases h; rfl) (fun _ => ⟨rfl, rfl⟩) a3 dX11_init_142 (fun H locs hH => ?_)
  refine lv_iconst (v := 0) hx hb dX11_init_145 (by decide) ?_
  refine lv_istore_n (lv' := [(1, .int 0), (0, .ref (z + r0))]) hx hb dX11_init_146 rfl hl (by decide) rfl (fun ls hl => ?_)
  refine lv_iload_n hx hb dX11_init_147 rfl (lv_at hl 0 rfl) ?_
  refine lv_iconst (v := 5) hx hb dX11_init_148 (by decide) ?_
  refine lv_icmp_gt (tgt := 171) hx hb dX11_init_149 (by decide) (fun c => absurd c (by decide)) (fun _ => ?_)
  refine lv_aload_n hx hb dX11_init_152 rfl (lv_at hl 1 rfl) ?_
  obtain ⟨q139, h140, h⟩ := bnd_some h
  obtain ⟨fs, a1, a2⟩ := gR_ok h140
  refine h_getr O hH a1 a2 fl_X11_66 dX11_init_153 ?_
  refine lv_iload_n hx hb dX11_init_156 rfl (lv_at hl 0 rfl) ?_
  obtain ⟨q141, e144, h⟩ := lt_some h
  obtain ⟨L142, e145, h⟩ := lt_some h
  obtain ⟨D143, e146, h⟩ := lt_some h
  refine hc_new O hH cb_1 nb_1 ww_444 ww_191 ww_9 (Nat.le_of_ble_eq_true rfl) (Nat.le_of_ble_eq_true rfl) e144 e145 e146 dX11_init_157 (fun H hH => ?_)
  refine lv_dup hx hb dX11_init_160 rfl ?_
  obtain ⟨L147, D148, h149, h⟩ := bC_some h
  refine hc_callN (As := []) (rest := [.ref (z + q141), .int 0, .ref (z + q139)]) O hH (cc_X1_init h149) mn_X11_61 rfl hl.1 rfl ⟨(Nat.le_of_ble_eq_true rfl), (Nat.le_of_ble_eq_true rfl)⟩ (Nat.le_of_ble_eq_true rfl) ⟨(Nat.le_of_ble_eq_true rfl), (Nat.le_of_ble_eq_true rfl)⟩ dX11_init_161 (fun H locs hH => ?_)
  obtain ⟨g150, h⟩ := gd_some h
  obtain ⟨fs, b1⟩ := cS_ok g150
  obtain ⟨L151, h152, h⟩ := bnd_some h
  obtain ⟨rs, a1, a2, a3⟩ := pA_ok h152
  refine hc_aast O hH a1 rfl b1 rfl a2 (by decide) a3 dX11_init_164 (fun H locs hH => ?_)
  refine lv_iinc (v := 1) (lv' := [(1, .int 1), (0, .ref (z + r0))]) hx hb dX11_init_165 hl (k := 0) rfl (by decide) (by decide) rfl (fun ls hl => ?_)
  refine lv_goto (tgt := 147) hx hb dX11_init_168 (by decide) ?_
  refine lv_iload_n hx hb dX11_init_147 rfl (lv_at hl 0 rfl) ?_
  refine lv_iconst (v := 5) hx hb dX11_init_148 (by decide) ?_
  refine lv_icmp_gt (tgt := 171) hx hb dX11_init_149 (by decide) (fun c => absurd c (by decide)) (fun _ => ?_)
  refine lv_aload_n hx hb dX11_init_152 rfl (lv_at hl 1 rfl) ?_
  obtain ⟨q153, h154, h⟩ := bnd_some h
  obtain ⟨fs, a1, a2⟩ := gR_ok h154
  refine h_getr O hH a1 a2 fl_X11_66 dX11_init_153 ?_
  refine lv_iload_n hx hb dX11_init_156 rfl (lv_at hl 0 rfl) ?_
  obtain ⟨q155, e158, h⟩ := lt_some h
  obtain ⟨L156, e159, h⟩ := lt_some h
  obtain ⟨D157, e160, h⟩ := lt_some h
  refine hc_new O hH cb_1 nb_1 ww_444 ww_191 ww_9 (Nat.le_of_ble_eq_true rfl) (Nat.le_of_ble_eq_true rfl) e158 e159 e160 dX11_init_157 (fun H hH => ?_)
  refine lv_dup hx hb dX11_init_160 rfl ?_
  obtain ⟨L161, D162, h163, h⟩ := bC_some h
  refine hc_callN (As := []) (rest := [.ref (z + q155), .int 1, .ref (z + q153)]) O hH (cc_X1_init h163) mn_X11_61 rfl hl.1 rfl ⟨(Nat.le_of_ble_eq_true rfl), (Nat.le_of_ble_eq_true rfl)⟩ (Nat.le_of_ble_eq_true rfl) ⟨(Nat.le_of_ble_eq_true rfl), (Nat.le_of_ble_eq_true rfl)⟩ dX11_init_161 (fun H locs hH => ?_)
  obtain ⟨g164, h⟩ := gd_some h
  obtain ⟨fs, b1⟩ := cS_ok g164
  obtain ⟨L165, h166, h⟩ := bnd_some h
  obtain ⟨rs, a1, a2, a3⟩ := pA_ok h166
  refine hc_aast O hH a1 rfl b1 rfl a2 (by decide) a3 dX11_init_164 (fun H locs hH => ?_)
  refine lv_iinc (v := 2) (lv' := [(1, .int 2), (0, .ref (z + r0))]) hx hb dX11_init_165 hl (k := 0) rfl (by decide) (by decide) rfl (fun ls hl => ?_)
  refine lv_goto (tgt := 147) hx hb dX11_init_168 (by decide) ?_
  refine lv_iload_n hx hb dX11_init_147 rfl (lv_at hl 0 rfl) ?_
  refine lv_iconst (v := 5) hx hb dX11_init_148 (by decide) ?_
  refine lv_icmp_gt (tgt := 171) hx hb dX11_init_149 (by decide) (fun c => absurd c (by decide)) (fun _ => ?_)
  refine lv_aload_n hx hb dX11_init_152 rfl (lv_at hl 1 rfl) ?_
  obtain ⟨q167, h168, h⟩ := bnd_some h
  obtain ⟨fs, a1, a2⟩ := gR_ok h168
  refine h_getr O hH a1 a2 fl_X11_66 dX11_init_153 ?_
  refine lv_iload_n hx hb dX11_init_156 rfl (lv_at hl 0 rfl) ?_
  obtain ⟨q169, e172, h⟩ := lt_some h
  obtain ⟨L170, e173, h⟩ := lt_some h
  obtain ⟨D171, e174, h⟩ := lt_some h
  refine hc_new O hH cb_1 nb_1 ww_444 ww_191 ww_9 (Nat.le_of_ble_eq_true rfl) (Nat.le_of_ble_eq_true rfl) e172 e173 e174 dX11_init_157 (fun H hH => ?_)
  refine lv_dup hx hb dX11_init_160 rfl ?_
  obtain ⟨L175, D176, h177, h⟩ := bC_some h
  refine hc_callN (As := []) (rest := [.ref (z + q169), .int 2, .ref (z + q167)]) O hH (cc_X1_init h177) mn_X11_61 rfl hl.1 rfl ⟨(Nat.le_of_ble_eq_true rfl), (Nat.le_of_ble_eq_true rfl)⟩ (Nat.le_of_ble_eq_true rfl) ⟨(Nat.le_of_ble_eq_true rfl), (Nat.le_of_ble_eq_true rfl)⟩ dX11_init_161 (fun H locs hH => ?_)
  obtain ⟨g178, h⟩ := gd_some h
  obtain ⟨fs, b1⟩ := cS_ok g178
  obtain ⟨L179, h180, h⟩ := bnd_some h
  obtain ⟨rs, a1, a2, a3⟩ := pA_ok h180
  refine hc_aast O hH a1 rfl b1 rfl a2 (by decide) a3 dX11_init_164 (fun H locs hH => ?_)
  refine lv_iinc (v := 3) (lv' := [(1, .int 3), (0, .ref (z + r0))]) hx hb dX11_init_165 hl (k := 0) rfl (by decide) (by decide) rfl (fun ls hl => ?_)
  refine lv_goto (tgt := 147) hx hb dX11_init_168 (by decide) ?_
  refine lv_iload_n hx hb dX11_init_147 rfl (lv_at hl 0 rfl) ?_
  refine lv_iconst (v := 5) hx hb dX11_init_148 (by decide) ?_
  refine lv_icmp_gt (tgt := 171) hx hb dX11_init_149 (by decide) (fun c => absurd c (by decide)) (fun _ => ?_)
  refine lv_aload_n hx hb dX11_init_152 rfl (lv_at hl 1 rfl) ?_
  obtain ⟨q181, h182, h⟩ := bnd_some h
  obtain ⟨fs, a1, a2⟩ := gR_ok h182
  refine h_getr O hH a1 a2 fl_X11_66 dX11_init_153 ?_
  refine lv_iload_n hx hb dX11_init_156 rfl (lv_at hl 0 rfl) ?_
  obtain ⟨q183, e186, h⟩ := lt_some h
  obtain ⟨L184, e187, h⟩ := lt_some h
  obtain ⟨D185, e188, h⟩ := lt_some h
  refine hc_new O hH cb_1 nb_1 ww_444 ww_191 ww_9 (Nat.le_of_ble_eq_true rfl) (Nat.le_of_ble_eq_true rfl) e186 e187 e188 dX11_init_157 (fun H hH => ?_)
  refine lv_dup hx hb dX11_init_160 rfl ?_
  obtain ⟨L189, D190, h191, h⟩ := bC_some h
  refine hc_callN (As := []) (rest := [.ref (z + q183), .int 3, .ref (z + q181)]) O hH (cc_X1_init h191) mn_X11_61 rfl hl.1 rfl ⟨(Nat.le_of_ble_eq_true rfl), (Nat.le_of_ble_eq_true rfl)⟩ (Nat.le_of_ble_eq_true rfl) ⟨(Nat.le_of_ble_eq_true rfl), (Nat.le_of_ble_eq_true rfl)⟩ dX11_init_161 (fun H locs hH => ?_)
  obtain ⟨g192, h⟩ := gd_some h
  obtain ⟨fs, b1⟩ := cS_ok g192
  obtain ⟨L193, h194, h⟩ := bnd_some h
  obtain ⟨rs, a1, a2, a3⟩ := pA_ok h194
  refine hc_aast O hH a1 rfl b1 rfl a2 (by decide) a3 dX11_init_164 (fun H locs hH => ?_)
  refine lv_iinc (v := 4) (lv' := [(1, .int 4), (0, .ref (z + r0))]) hx hb dX11_init_165 hl (k := 0) rfl (by decide) (by decide) rfl (fun ls hl => ?_)
  refine lv_goto (tgt := 147) hx hb dX11_init_168 (by decide) ?_
  refine lv_iload_n hx hb dX11_init_147 rfl (lv_at hl 0 rfl) ?_
  refine lv_iconst (v := 5) hx hb dX11_init_148 (by decide) ?_
  refine lv_icmp_gt (tgt := 171) hx hb dX11_init_149 (by decide) (fun c => absurd c (by decide)) (fun _ => ?_)
  refine lv_aload_n hx hb dX11_init_152 rfl (lv_at hl 1 rfl) ?_
  obtain ⟨q195, h196, h⟩ := bnd_some h
  obtain ⟨fs, a1, a2⟩ := gR_ok h196
  refine h_getr O hH a1 a2 fl_X11_66 dX11_init_153 ?_
  refine lv_iload_n hx hb dX11_init_156 rfl (lv_at hl 0 rfl) ?_
  obtain ⟨q197, e200, h⟩ := lt_some h
  obtain ⟨L198, e201, h⟩ := lt_some h
  obtain ⟨D199, e202, h⟩ := lt_some h
  refine hc_new O hH cb_1 nb_1 ww_444 ww_191 ww_9 (Nat.le_of_ble_eq_true rfl) (Nat.le_of_ble_eq_true rfl) e200 e201 e202 dX11_init_157 (fun H hH => ?_)
  refine lv_dup hx hb dX11_init_160 rfl ?_
  obtain ⟨L203, D204, h205, h⟩ := bC_some h
  refine hc_callN (As := []) (rest := [.ref (z + q197), .int 4, .ref (z + q195)]) O hH (cc_X1_init h205) mn_X11_61 rfl hl.1 rfl ⟨(Nat.le_of_ble_eq_true rfl), (Nat.le_of_ble_eq_true rfl)⟩ (Nat.le_of_ble_eq_true rfl) ⟨(Nat.le_of_ble_eq_true rfl), (Nat.le_of_ble_eq_true rfl)⟩ dX11_init_161 (fun H locs hH => ?_)
  obtain ⟨g206, h⟩ := gd_some h
  obtain ⟨fs, b1⟩ := cS_ok g206
  obtain ⟨L207, h208, h⟩ := bnd_some h
  obtain ⟨rs, a1, a2, a3⟩ := pA_ok h208
  refine hc_aast O hH a1 rfl b1 rfl a2 (by decide) a3 dX11_init_164 (fun H locs hH => ?_)
  refine lv_iinc (v := 5) (lv' := [(1, .int 5), (0, .ref (z + r0))]) hx hb dX11_init_165 hl (k := 0) rfl (by decide) (by decide) rfl (fun ls hl => ?_)
  refine lv_goto (tgt := 147) hx hb dX11_init_168 (by decide) ?_
  refine lv_iload_n hx hb dX11_init_147 rfl (lv_at hl 0 rfl) ?_
  refine lv_iconst (v := 5) hx hb dX11_init_148 (by decide) ?_
  refine lv_icmp_gt (tgt := 171) hx hb dX11_init_149 (by decide) (fun c => absurd c (by decide)) (fun _ => ?_)
  refine lv_aload_n hx hb dX11_init_152 rfl (lv_at hl 1 rfl) ?_
  obtain ⟨q209, h210, h⟩ := bnd_some h
  obtain ⟨fs, a1, a2⟩ := gR_ok h210
  refine h_getr O hH a1 a2 fl_X11_66 dX11_init_153 ?_
  refine lv_iload_n hx hb dX11_init_156 rfl (lv_at hl 0 rfl) ?_
  obtain ⟨q211, e214, h⟩ := lt_some h
  obtain ⟨L212, e215, h⟩ := lt_some h
  obtain ⟨D213, e216, h⟩ := lt_some h
  refine hc_new O hH cb_1 nb_1 ww_444 ww_191 ww_9 (Nat.le_of_ble_eq_true rfl) (Nat.le_of_ble_eq_true rfl) e214 e215 e216 dX11_init_157 (fun H hH => ?_)
  refine lv_dup hx hb dX11_init_160 rfl ?_
  obtain ⟨L217, D218, h219, h⟩ := bC_some h
  refine hc_callN (As := []) (rest := [.ref (z + q211), .int 5, .ref (z + q209)]) O hH (cc_X1_init h219) mn_X11_61 rfl hl.1 rfl ⟨(Nat.le_of_ble_eq_true rfl), (Nat.le_of_ble_eq_true rfl)⟩ (Nat.le_of_ble_eq_true rfl) ⟨(Nat.le_of_ble_eq_true rfl), (Nat.le_of_ble_eq_true rfl)⟩ dX11_init_161 (fun H locs hH => ?_)
  obtain ⟨g220, h⟩ := gd_some h
  obtain ⟨fs, b1⟩ := cS_ok g220
  obtain ⟨L221, h222, h⟩ := bnd_some h
  obtain ⟨rs, a1, a2, a3⟩ := pA_ok h222
  refine hc_aast O hH a1 rfl b1 rfl a2 (by decide) a3 dX11_init_164 (fun H locs hH => ?_)
  refine lv_iinc (v := 6) (lv' := [(1, .int 6), (0, .ref (z + r0))]) hx hb dX11_init_165 hl (k := 0) rfl (by decide) (by decide) rfl (fun ls hl => ?_)
  refine lv_goto (tgt := 147) hx hb dX11_init_168 (by decide) ?_
  refine lv_iload_n hx hb dX11_init_147 rfl (lv_at hl 0 rfl) ?_
  refine lv_iconst (v := 5) hx hb dX11_init_148 (by decide) ?_
  refine lv_icmp_gt (tgt := 171) hx hb dX11_init_149 (by decide) (fun _ => ?_) (fun c => absurd (by decide) c)
  obtain ⟨rfl, rfl⟩ := ret_c h
  exact h_vret O hr hlk hH dX11_init_171
set_option maxHeartbeats 4000000 in
theorem cc_X11_init {l : Launch} {G : va_G} {tA : Nat → ClassId} {z : Nat} {E : Ex} {r0 : Nat} {L L' : List Sh} {D D' : Dm} (h : fc_X11_init r0 L D = some (L', D')) : CtV l yX11_init cX11_init 2 G tA z E 5 280 11386 [.ref (z + r0)] L D L' D' :=
  ct_BC (by decide +kernel) (Nat.le_of_ble_eq_true rfl) (fun _ _ _ _ _ _ _ _ O hr hlk hnm => v_X11_init O hnm hr hlk _ _ _ h)
set_option maxHeartbeats 4000000 in
theorem v_X12_empties_18_b {G : va_G} {tA : Nat → ClassId} {z : Nat} {E : Ex} {p : Program} {l : Launch} {e : Env} {s : State} {m : MethodId} {args : Array Value} {below : List Frame} {meth : Method} {c : Code} {L' : List Sh} {D' : Dm} (O : Ok G tA z E cX12_empties RX12 2 p s m args c) (hnm : meth.name = "empties") (hr : meth.sig.returnType = none) (hlk : meth.locks = false) {k18 : Nat → Int32 → List Sh → Dm → Option (List Sh × Dm)} (hk18 : ∀ (r0 : Nat) (x1 : Int32) (L : List Sh) (D : Dm), k18 r0 x1 L D = some (L', D') → BC G tA z E p l e (rmC 1 0 0) s m args below meth c 0 0 0 0 L D L' D' 2 18 [(0, .ref (z + r0)), (1, .int x1)] []) (r0 : Nat) (x1 : Int32) (L : List Sh) (D : Dm) (h : fc_X12_empties_18_b k18 r0 x1 L D = some (L', D')) : BC G tA z E p l e (rmC 1 0 0) s m args below meth c 0 0 0 0 L D L' D' 2 18 [(0, .ref (z + r0)), (1, .int x1)] [] := by
  obtain ⟨hx, hb, -, hown, hts, -⟩ := id O
  unfold fc_X12_empties_18_b at h
  intro H locs ls hH hl
  refine lv_iload_n hx hb dX12_empties_18 rfl (lv_at hl 1 rfl) ?_
  refine lv_bipush (v := 94) hx hb dX12_empties_19 (by decide) ?_
  refine lv_icmp_ge (tgt := 34) hx hb dX12_empties_21 (by decide) (fun c1 => ?_) (fun c1 => ?_)
  · have h := it_pos h c1
    obtain ⟨rfl, rfl⟩ := ret_c h
    exact h_vret O hr hlk hH dX12_empties_34
  · have h := it_neg h c1
    refine lv_aload_n hx hb dX12_empties_24 rfl (lv_at hl 0 rfl) ?_
    refine lv_iload_n hx hb dX12_empties_25 rfl (lv_at hl 1 rfl) ?_
    refine lv_iconst (v := (-1)) hx hb dX12_empties_26 (by decide) ?_
    obtain ⟨n2, h3, h⟩ := bnd_some h
    obtain ⟨g4, h⟩ := gd_some h
    obtain ⟨D5, e6, h⟩ := lt_some h
    refine hc_iast O hH (cA_ok h3) g4 e6 dX12_empties_27 (fun H locs hH => ?_)
    obtain ⟨y7, e8, h⟩ := lt_some h
    refine lv_iinc (v := y7) (lv' := [(1, .int y7), (0, .ref (z + r0))]) hx hb dX12_empties_28 hl (k := 1) rfl (by rw [e8]; rfl) (by decide) rfl (fun ls hl => ?_)
    refine lv_goto (tgt := 18) hx hb dX12_empties_31 (by decide) ?_
    exact hk18 _ _ _ _ h _ _ _ hH (lv_sub hl [1, 0] rfl)
set_option maxHeartbeats 4000000 in
theorem v_X12_empties_18 {G : va_G} {tA : Nat → ClassId} {z : Nat} {E : Ex} {p : Program} {l : Launch} {e : Env} {s : State} {m : MethodId} {args : Array Value} {below : List Frame} {meth : Method} {c : Code} {L' : List Sh} {D' : Dm} (O : Ok G tA z E cX12_empties RX12 2 p s m args c) (hnm : meth.name = "empties") (hr : meth.sig.returnType = none) (hlk : meth.locks = false) : ∀ (n : Nat) (r0 : Nat) (x1 : Int32) (L : List Sh) (D : Dm) (h : fc_X12_empties_18 n r0 x1 L D = some (L', D')), BC G tA z E p l e (rmC 1 0 0) s m args below meth c 0 0 0 0 L D L' D' 2 18 [(0, .ref (z + r0)), (1, .int x1)] [] := by
  intro n
  induction n with
  | zero => intro r0 x1 L D h; exact no_some h
  | succ n ih => intro r0 x1 L D h; exact v_X12_empties_18_b O hnm hr hlk (fun r0 x1 L D h => ih r0 x1 L D h) r0 x1 L D h
set_option maxHeartbeats 4000000 in
theorem v_X12_empties {G : va_G} {tA : Nat → ClassId} {z : Nat} {E : Ex} {p : Program} {l : Launch} {e : Env} {s : State} {m : MethodId} {args : Array Value} {below : List Frame} {meth : Method} {c : Code} {L' : List Sh} {D' : Dm} (O : Ok G tA z E cX12_empties RX12 2 p s m args c) (hnm : meth.name = "empties") (hr : meth.sig.returnType = none) (hlk : meth.locks = false) (r0 : Nat) (L : List Sh) (D : Dm) (h : fc_X12_empties r0 L D = some (L', D')) : BC G tA z E p l e (rmC 1 0 0) s m args below meth c 0 0 0 0 L D L' D' 2 0 [(0, .ref (z + r0))] [] := by
  obtain ⟨hx, hb, -, hown, hts, -⟩ := id O
  unfold fc_X12_empties at h
  intro H locs ls hH hl
  refine lv_aload_n hx hb dX12_empties_0 rfl (lv_at hl 0 rfl) ?_
  refine lv_iconst (v := 0) hx hb dX12_empties_1 (by decide) ?_
  refine lv_iconst (v := 1) hx hb dX12_empties_2 (by decide) ?_
  obtain ⟨n1, h2, h⟩ := bnd_some h
  obtain ⟨g3, h⟩ := gd_some h
  obtain ⟨D4, e5, h⟩ := lt_some h
  refine hc_iast O hH (cA_ok h2) g3 e5 dX12_empties_3 (fun H locs hH => ?_)
  refine lv_aload_n hx hb dX12_empties_4 rfl (lv_at hl 0 rfl) ?_
  refine lv_iconst (v := 1) hx hb dX12_empties_5 (by decide) ?_
  refine lv_iconst (v := 0) hx hb dX12_empties_6 (by decide) ?_
  obtain ⟨n6, h7, h⟩ := bnd_some h
  obtain ⟨g8, h⟩ := gd_some h
  obtain ⟨D9, e10, h⟩ := lt_some h
  refine hc_iast O hH (cA_ok h7) g8 e10 dX12_empties_7 (fun H locs hH => ?_)
  refine lv_aload_n hx hb dX12_empties_8 rfl (lv_at hl 0 rfl) ?_
  refine lv_iconst (v := 2) hx hb dX12_empties_9 (by decide) ?_
  refine lv_iconst (v := 1) hx hb dX12_empties_10 (by decide) ?_
  obtain ⟨n11, h12, h⟩ := bnd_some h
  obtain ⟨g13, h⟩ := gd_some h
  obtain ⟨D14, e15, h⟩ := lt_some h
  refine hc_iast O hH (cA_ok h12) g13 e15 dX12_empties_11 (fun H locs hH => ?_)
  refine lv_aload_n hx hb dX12_empties_12 rfl (lv_at hl 0 rfl) ?_
  refine lv_iconst (v := 3) hx hb dX12_empties_13 (by decide) ?_
  refine lv_iconst (v := 0) hx hb dX12_empties_14 (by decide) ?_
  obtain ⟨n16, h17, h⟩ := bnd_some h
  obtain ⟨g18, h⟩ := gd_some h
  obtain ⟨D19, e20, h⟩ := lt_some h
  refine hc_iast O hH (cA_ok h17) g18 e20 dX12_empties_15 (fun H locs hH => ?_)
  refine lv_iconst (v := 4) hx hb dX12_empties_16 (by decide) ?_
  refine lv_istore_n (lv' := [(1, .int 4), (0, .ref (z + r0))]) hx hb dX12_empties_17 rfl hl (by decide) rfl (fun ls hl => ?_)
  exact v_X12_empties_18 O hnm hr hlk FU _ _ _ _ h _ _ _ hH (lv_sub hl [1, 0] rfl)
set_option maxHeartbeats 4000000 in
theorem cc_X12_empties {l : Launch} {G : va_G} {tA : Nat → ClassId} {z : Nat} {E : Ex} {r0 : Nat} {L L' : List Sh} {D D' : Dm} (h : fc_X12_empties r0 L D = some (L', D')) : CtV l yX12_empties cX12_empties 2 G tA z E 1 0 0 [.ref (z + r0)] L D L' D' :=
  ct_BC (by decide +kernel) (Nat.le_of_ble_eq_true rfl) (fun _ _ _ _ _ _ _ _ O hr hlk hnm => v_X12_empties O hnm hr hlk _ _ _ h)
set_option maxHeartbeats 4000000 in
theorem v_X12_resets_54_b {G : va_G} {tA : Nat → ClassId} {z : Nat} {E : Ex} {p : Program} {l : Launch} {e : Env} {s : State} {m : MethodId} {args : Array Value} {below : List Frame} {meth : Method} {c : Code} {L' : List Sh} {D' : Dm} (O : Ok G tA z E cX12_resets RX12 2 p s m args c) (hnm : meth.name = "resets") (hr : meth.sig.returnType = none) (hlk : meth.locks = false) {k54 : Nat → Int32 → List Sh → Dm → Option (List Sh × Dm)} (hk54 : ∀ (r0 : Nat) (x1 : Int32) (L : List Sh) (D : Dm), k54 r0 x1 L D = some (L', D') → BC G tA z E p l e (rmC 1 0 0) s m args below meth c 0 0 0 0 L D L' D' 2 54 [(0, .ref (z + r0)), (1, .int x1)] []) (r0 : Nat) (x1 : Int32) (L : List Sh) (D : Dm) (h : fc_X12_resets_54_b k54 r0 x1 L D = some (L', D')) : BC G tA z E p l e (rmC 1 0 0) s m args below meth c 0 0 0 0 L D L' D' 2 54 [(0, .ref (z + r0)), (1, .int x1)] [] := by
  obtain ⟨hx, hb, -, hown, hts, -⟩ := id O
  unfold fc_X12_resets_54_b at h
  intro H locs ls hH hl
  refine lv_iload_n hx hb dX12_resets_54 rfl (lv_at hl 1 rfl) ?_
  refine lv_bipush (v := 80) hx hb dX12_resets_55 (by decide) ?_
  refine lv_icmp_ge (tgt := 80) hx hb dX12_resets_57 (by decide) (fun c1 => ?_) (fun c1 => ?_)
  · have h := it_pos h c1
    refine lv_aload_n hx hb dX12_resets_80 rfl (lv_at hl 0 rfl) ?_
    refine lv_iconst (v := 0) hx hb dX12_resets_81 (by decide) ?_
    obtain ⟨g2, h⟩ := gd_some h
    obtain ⟨fs, a1, a2⟩ := cI_ok g2
    obtain ⟨D3, e4, h⟩ := lt_some h
    refine hc_puti O hH a1 a2 fl_X12_316 rfl rfl e4 dX12_resets_82 (fun H locs hH => ?_)
    obtain ⟨rfl, rfl⟩ := ret_c h
    exact h_vret O hr hlk hH dX12_resets_85
  · have h := it_neg h c1
    refine lv_aload_n hx hb dX12_resets_60 rfl (lv_at hl 0 rfl) ?_
    obtain ⟨q5, h6, h⟩ := bnd_some h
    obtain ⟨fs, a1, a2⟩ := gR_ok h6
    refine h_getr O hH a1 a2 fl_X12_63 dX12_resets_61 ?_
    refine lv_iload_n hx hb dX12_resets_64 rfl (lv_at hl 1 rfl) ?_
    refine lv_iconst (v := 0) hx hb dX12_resets_65 (by decide) ?_
    obtain ⟨n7, h8, h⟩ := bnd_some h
    obtain ⟨g9, h⟩ := gd_some h
    obtain ⟨D10, e11, h⟩ := lt_some h
    refine hc_iast O hH (cA_ok h8) g9 e11 dX12_resets_66 (fun H locs hH => ?_)
    refine lv_aload_n hx hb dX12_resets_67 rfl (lv_at hl 0 rfl) ?_
    obtain ⟨q12, h13, h⟩ := bnd_some h
    obtain ⟨fs, a1, a2⟩ := gR_ok h13
    refine h_getr O hH a1 a2 fl_X12_66 dX12_resets_68 ?_
    refine lv_iload_n hx hb dX12_resets_71 rfl (lv_at hl 1 rfl) ?_
    refine lv_iconst (v := 0) hx hb dX12_resets_72 (by decide) ?_
    obtain ⟨n14, h15, h⟩ := bnd_some h
    obtain ⟨g16, h⟩ := gd_some h
    obtain ⟨D17, e18, h⟩ := lt_some h
    refine hc_iast O hH (cA_ok h15) g16 e18 dX12_resets_73 (fun H locs hH => ?_)
    obtain ⟨y19, e20, h⟩ := lt_some h
    refine lv_iinc (v := y19) (lv' := [(1, .int y19), (0, .ref (z + r0))]) hx hb dX12_resets_74 hl (k := 1) rfl (by rw [e20]; rfl) (by decide) rfl (fun ls hl => ?_)
    refine lv_goto (tgt := 54) hx hb dX12_resets_77 (by decide) ?_
    exact hk54 _ _ _ _ h _ _ _ hH (lv_sub hl [1, 0] rfl)
set_option maxHeartbeats 4000000 in
theorem v_X12_resets_54 {G : va_G} {tA : Nat → ClassId} {z : Nat} {E : Ex} {p : Program} {l : Launch} {e : Env} {s : State} {m : MethodId} {args : Array Value} {below : List Frame} {meth : Method} {c : Code} {L' : List Sh} {D' : Dm} (O : Ok G tA z E cX12_resets RX12 2 p s m args c) (hnm : meth.name = "resets") (hr : meth.sig.returnType = none) (hlk : meth.locks = false) : ∀ (n : Nat) (r0 : Nat) (x1 : Int32) (L : List Sh) (D : Dm) (h : fc_X12_resets_54 n r0 x1 L D = some (L', D')), BC G tA z E p l e (rmC 1 0 0) s m args below meth c 0 0 0 0 L D L' D' 2 54 [(0, .ref (z + r0)), (1, .int x1)] [] := by
  intro n
  induction n with
  | zero => intro r0 x1 L D h; exact no_some h
  | succ n ih => intro r0 x1 L D h; exact v_X12_resets_54_b O hnm hr hlk (fun r0 x1 L D h => ih r0 x1 L D h) r0 x1 L D h
set_option maxHeartbeats 4000000 in
theorem v_X12_resets_26_b {G : va_G} {tA : Nat → ClassId} {z : Nat} {E : Ex} {p : Program} {l : Launch} {e : Env} {s : State} {m : MethodId} {args : Array Value} {below : List Frame} {meth : Method} {c : Code} {L' : List Sh} {D' : Dm} (O : Ok G tA z E cX12_resets RX12 2 p s m args c) (hnm : meth.name = "resets") (hr : meth.sig.returnType = none) (hlk : meth.locks = false) {k26 : Nat → Int32 → List Sh → Dm → Option (List Sh × Dm)} (hk26 : ∀ (r0 : Nat) (x1 : Int32) (L : List Sh) (D : Dm), k26 r0 x1 L D = some (L', D') → BC G tA z E p l e (rmC 1 0 0) s m args below meth c 0 0 0 0 L D L' D' 2 26 [(0, .ref (z + r0)), (1, .int x1)] []) (r0 : Nat) (x1 : Int32) (L : List Sh) (D : Dm) (h : fc_X12_resets_26_b k26 r0 x1 L D = some (L', D')) : BC G tA z E p l e (rmC 1 0 0) s m args below meth c 0 0 0 0 L D L' D' 2 26 [(0, .ref (z + r0)), (1, .int x1)] [] := by
  obtain ⟨hx, hb, -, hown, hts, -⟩ := id O
  unfold fc_X12_resets_26_b at h
  intro H locs ls hH hl
  refine lv_iload_n hx hb dX12_resets_26 rfl (lv_at hl 1 rfl) ?_
  refine lv_bipush (v := 10) hx hb dX12_resets_27 (by decide) ?_
  refine lv_icmp_ge (tgt := 52) hx hb dX12_resets_29 (by decide) (fun c1 => ?_) (fun c1 => ?_)
  · have h := it_pos h c1
    refine lv_iconst (v := 0) hx hb dX12_resets_52 (by decide) ?_
    refine lv_istore_n (lv' := [(1, .int 0), (0, .ref (z + r0))]) hx hb dX12_resets_53 rfl hl (by decide) rfl (fun ls hl => ?_)
    exact v_X12_resets_54 O hnm hr hlk FU _ _ _ _ h _ _ _ hH (lv_sub hl [1, 0] rfl)
  · have h := it_neg h c1
    refine lv_aload_n hx hb dX12_resets_32 rfl (lv_at hl 0 rfl) ?_
    obtain ⟨q2, h3, h⟩ := bnd_some h
    obtain ⟨fs, a1, a2⟩ := gR_ok h3
    refine h_getr O hH a1 a2 fl_X12_57 dX12_resets_33 ?_
    refine lv_iload_n hx hb dX12_resets_36 rfl (lv_at hl 1 rfl) ?_
    refine lv_iconst (v := 0) hx hb dX12_resets_37 (by decide) ?_
    obtain ⟨n4, h5, h⟩ := bnd_some h
    obtain ⟨g6, h⟩ := gd_some h
    obtain ⟨D7, e8, h⟩ := lt_some h
    refine hc_iast O hH (cA_ok h5) g6 e8 dX12_resets_38 (fun H locs hH => ?_)
    refine lv_aload_n hx hb dX12_resets_39 rfl (lv_at hl 0 rfl) ?_
    obtain ⟨q9, h10, h⟩ := bnd_some h
    obtain ⟨fs, a1, a2⟩ := gR_ok h10
    refine h_getr O hH a1 a2 fl_X12_60 dX12_resets_40 ?_
    refine lv_iload_n hx hb dX12_resets_43 rfl (lv_at hl 1 rfl) ?_
    refine lv_iconst (v := 0) hx hb dX12_resets_44 (by decide) ?_
    obtain ⟨n11, h12, h⟩ := bnd_some h
    obtain ⟨g13, h⟩ := gd_some h
    obtain ⟨D14, e15, h⟩ := lt_some h
    refine hc_iast O hH (cA_ok h12) g13 e15 dX12_resets_45 (fun H locs hH => ?_)
    obtain ⟨y16, e17, h⟩ := lt_some h
    refine lv_iinc (v := y16) (lv' := [(1, .int y16), (0, .ref (z + r0))]) hx hb dX12_resets_46 hl (k := 1) rfl (by rw [e17]; rfl) (by decide) rfl (fun ls hl => ?_)
    refine lv_goto (tgt := 26) hx hb dX12_resets_49 (by decide) ?_
    exact hk26 _ _ _ _ h _ _ _ hH (lv_sub hl [1, 0] rfl)
set_option maxHeartbeats 4000000 in
theorem v_X12_resets_26 {G : va_G} {tA : Nat → ClassId} {z : Nat} {E : Ex} {p : Program} {l : Launch} {e : Env} {s : State} {m : MethodId} {args : Array Value} {below : List Frame} {meth : Method} {c : Code} {L' : List Sh} {D' : Dm} (O : Ok G tA z E cX12_resets RX12 2 p s m args c) (hnm : meth.name = "resets") (hr : meth.sig.returnType = none) (hlk : meth.locks = false) : ∀ (n : Nat) (r0 : Nat) (x1 : Int32) (L : List Sh) (D : Dm) (h : fc_X12_resets_26 n r0 x1 L D = some (L', D')), BC G tA z E p l e (rmC 1 0 0) s m args below meth c 0 0 0 0 L D L' D' 2 26 [(0, .ref (z + r0)), (1, .int x1)] [] := by
  intro n
  induction n with
  | zero => intro r0 x1 L D h; exact no_some h
  | succ n ih => intro r0 x1 L D h; exact v_X12_resets_26_b O hnm hr hlk (fun r0 x1 L D h => ih r0 x1 L D h) r0 x1 L D h
set_option maxHeartbeats 4000000 in
theorem v_X12_resets {G : va_G} {tA : Nat → ClassId} {z : Nat} {E : Ex} {p : Program} {l : Launch} {e : Env} {s : State} {m : MethodId} {args : Array Value} {below : List Frame} {meth : Method} {c : Code} {L' : List Sh} {D' : Dm} (O : Ok G tA z E cX12_resets RX12 2 p s m args c) (hnm : meth.name = "resets") (hr : meth.sig.returnType = none) (hlk : meth.locks = false) (r0 : Nat) (L : List Sh) (D : Dm) (h : fc_X12_resets r0 L D = some (L', D')) : BC G tA z E p l e (rmC 1 0 0) s m args below meth c 0 0 0 0 L D L' D' 2 0 [(0, .ref (z + r0))] [] := by
  obtain ⟨hx, hb, -, hown, hts, -⟩ := id O
  unfold fc_X12_resets at h
  intro H locs ls hH hl
  refine lv_aload_n hx hb dX12_resets_0 rfl (lv_at hl 0 rfl) ?_
  refine lv_iconst (v := 1) hx hb dX12_resets_1 (by decide) ?_
  obtain ⟨g1, h⟩ := gd_some h
  obtain ⟨fs, a1, a2⟩ := cI_ok g1
  obtain ⟨D2, e3, h⟩ := lt_some h
  refine hc_puti O hH a1 a2 fl_X12_310 rfl rfl e3 dX12_resets_2 (fun H locs hH => ?_)
  refine lv_aload_n hx hb dX12_resets_5 rfl (lv_at hl 0 rfl) ?_
  refine lv_iconst (v := 1) hx hb dX12_resets_6 (by decide) ?_
  obtain ⟨g4, h⟩ := gd_some h
  obtain ⟨fs, a1, a2⟩ := cI_ok g4
  obtain ⟨D5, e6, h⟩ := lt_some h
  refine hc_puti O hH a1 a2 fl_X12_313 rfl rfl e6 dX12_resets_7 (fun H locs hH => ?_)
  refine lv_aload_n hx hb dX12_resets_10 rfl (lv_at hl 0 rfl) ?_
  obtain ⟨q7, h8, h⟩ := bnd_some h
  obtain ⟨fs, a1, a2⟩ := gR_ok h8
  refine h_getr O hH a1 a2 fl_X12_39 dX12_resets_11 ?_
  refine lv_iconst (v := 0) hx hb dX12_resets_14 (by decide) ?_
  refine lv_iconst (v := 0) hx hb dX12_resets_15 (by decide) ?_
  obtain ⟨n9, h10, h⟩ := bnd_some h
  obtain ⟨g11, h⟩ := gd_some h
  obtain ⟨D12, e13, h⟩ := lt_some h
  refine hc_iast O hH (cA_ok h10) g11 e13 dX12_resets_16 (fun H locs hH => ?_)
  refine lv_aload_n hx hb dX12_resets_17 rfl (lv_at hl 0 rfl) ?_
  obtain ⟨q14, h15, h⟩ := bnd_some h
  obtain ⟨fs, a1, a2⟩ := gR_ok h15
  refine h_getr O hH a1 a2 fl_X12_48 dX12_resets_18 ?_
  refine lv_iconst (v := 0) hx hb dX12_resets_21 (by decide) ?_
  refine lv_iconst (v := 0) hx hb dX12_resets_22 (by decide) ?_
  obtain ⟨n16, h17, h⟩ := bnd_some h
  obtain ⟨g18, h⟩ := gd_some h
  obtain ⟨D19, e20, h⟩ := lt_some h
  refine hc_iast O hH (cA_ok h17) g18 e20 dX12_resets_23 (fun H locs hH => ?_)
  refine lv_iconst (v := 0) hx hb dX12_resets_24 (by decide) ?_
  refine lv_istore_n (lv' := [(1, .int 0), (0, .ref (z + r0))]) hx hb dX12_resets_25 rfl hl (by decide) rfl (fun ls hl => ?_)
  exact v_X12_resets_26 O hnm hr hlk FU _ _ _ _ h _ _ _ hH (lv_sub hl [1, 0] rfl)
set_option maxHeartbeats 4000000 in
theorem cc_X12_resets {l : Launch} {G : va_G} {tA : Nat → ClassId} {z : Nat} {E : Ex} {r0 : Nat} {L L' : List Sh} {D D' : Dm} (h : fc_X12_resets r0 L D = some (L', D')) : CtV l yX12_resets cX12_resets 2 G tA z E 1 0 0 [.ref (z + r0)] L D L' D' :=
  ct_BC (by decide +kernel) (Nat.le_of_ble_eq_true rfl) (fun _ _ _ _ _ _ _ _ O hr hlk hnm => v_X12_resets O hnm hr hlk _ _ _ h)
set_option maxHeartbeats 4000000 in
theorem v_X12_init_317_b {G : va_G} {tA : Nat → ClassId} {z : Nat} {E : Ex} {p : Program} {l : Launch} {e : Env} {s : State} {m : MethodId} {args : Array Value} {below : List Frame} {meth : Method} {c : Code} {L' : List Sh} {D' : Dm} (O : Ok G tA z E cX12_init RX12 3 p s m args c) (hnm : meth.name = "<init>") (hr : meth.sig.returnType = none) (hlk : meth.locks = false) {k310 : Nat → Int32 → List Sh → Dm → Option (List Sh × Dm)} (hk310 : ∀ (r0 : Nat) (x1 : Int32) (L : List Sh) (D : Dm), k310 r0 x1 L D = some (L', D') → BC G tA z E p l e (rmC 2 36 81393) s m args below meth c 36 81393 36 81393 L D L' D' 3 310 [(0, .ref (z + r0)), (1, .int x1)] []) {k317 : Nat → Int32 → Int32 → List Sh → Dm → Option (List Sh × Dm)} (hk317 : ∀ (r0 : Nat) (x1 : Int32) (x2 : Int32) (L : List Sh) (D : Dm), k317 r0 x1 x2 L D = some (L', D') → BC G tA z E p l e (rmC 2 36 81393) s m args below meth c 36 81393 36 81393 L D L' D' 3 317 [(0, .ref (z + r0)), (1, .int x1), (2, .int x2)] []) (r0 : Nat) (x1 : Int32) (x2 : Int32) (L : List Sh) (D : Dm) (h : fc_X12_init_317_b k310 k317 r0 x1 x2 L D = some (L', D')) : BC G tA z E p l e (rmC 2 36 81393) s m args below meth c 36 81393 36 81393 L D L' D' 3 317 [(0, .ref (z + r0)), (1, .int x1), (2, .int x2)] [] := by
  obtain ⟨hx, hb, -, hown, hts, -⟩ := id O
  unfold fc_X12_init_317_b at h
  intro H locs ls hH hl
  refine lv_iload_n hx hb dX12_init_317 rfl (lv_at hl 2 rfl) ?_
  refine lv_bipush (v := 94) hx hb dX12_init_318 (by decide) ?_
  refine lv_icmp_ge (tgt := 346) hx hb dX12_init_320 (by decide) (fun c1 => ?_) (fun c1 => ?_)
  · have h := it_pos h c1
    obtain ⟨y2, e3, h⟩ := lt_some h
    refine lv_iinc (v := y2) (lv' := [(1, .int y2), (0, .ref (z + r0)), (2, .int x2)]) hx hb dX12_init_346 hl (k := 1) rfl (by rw [e3]; rfl) (by decide) rfl (fun ls hl => ?_)
    refine lv_goto (tgt := 310) hx hb dX12_init_349 (by decide) ?_
    exact hk310 _ _ _ _ h _ _ _ hH (lv_sub hl [1, 0] rfl)
  · have h := it_neg h c1
    refine lv_aload_n hx hb dX12_init_323 rfl (lv_at hl 0 rfl) ?_
    obtain ⟨q4, h5, h⟩ := bnd_some h
    obtain ⟨fs, a1, a2⟩ := gR_ok h5
    refine h_getr O hH a1 a2 fl_X12_13 dX12_init_324 ?_
    refine lv_bipush (v := 94) hx hb dX12_init_327 (by decide) ?_
    refine lv_iload_n hx hb dX12_init_329 rfl (lv_at hl 1 rfl) ?_
    refine lv_imul hx hb dX12_init_330 ?_
    refine lv_iload_n hx hb dX12_init_331 rfl (lv_at hl 2 rfl) ?_
    refine lv_iadd hx hb dX12_init_332 ?_
    refine lv_aload_n hx hb dX12_init_333 rfl (lv_at hl 0 rfl) ?_
    obtain ⟨q6, h7, h⟩ := bnd_some h
    obtain ⟨fs, a1, a2⟩ := gR_ok h7
    refine h_getr O hH a1 a2 fl_X12_17 dX12_init_334 ?_
    refine lv_iload_n hx hb dX12_init_337 rfl (lv_at hl 2 rfl) ?_
    obtain ⟨n8, h9, h⟩ := bnd_some h
    obtain ⟨g10, h⟩ := gd_some h
    refine h_iald O hH (cA_ok h9) g10 dX12_init_338 ?_
    obtain ⟨n11, h12, h⟩ := bnd_some h
    obtain ⟨g13, h⟩ := gd_some h
    obtain ⟨D14, e15, h⟩ := lt_some h
    refine hc_iast O hH (cA_ok h12) g13 e15 dX12_init_339 (fun H locs hH => ?_)
    obtain ⟨y16, e17, h⟩ := lt_some h
    refine lv_iinc (v := y16) (lv' := [(2, .int y16), (0, .ref (z + r0)), (1, .int x1)]) hx hb dX12_init_340 hl (k := 2) rfl (by rw [e17]; rfl) (by decide) rfl (fun ls hl => ?_)
    refine lv_goto (tgt := 317) hx hb dX12_init_343 (by decide) ?_
    exact hk317 _ _ _ _ _ h _ _ _ hH (lv_sub hl [1, 2, 0] rfl)
set_option maxHeartbeats 4000000 in
theorem v_X12_init_317 {G : va_G} {tA : Nat → ClassId} {z : Nat} {E : Ex} {p : Program} {l : Launch} {e : Env} {s : State} {m : MethodId} {args : Array Value} {below : List Frame} {meth : Method} {c : Code} {L' : List Sh} {D' : Dm} (O : Ok G tA z E cX12_init RX12 3 p s m args c) (hnm : meth.name = "<init>") (hr : meth.sig.returnType = none) (hlk : meth.locks = false) {k310 : Nat → Int32 → List Sh → Dm → Option (List Sh × Dm)} (hk310 : ∀ (r0 : Nat) (x1 : Int32) (L : List Sh) (D : Dm), k310 r0 x1 L D = some (L', D') → BC G tA z E p l e (rmC 2 36 81393) s m args below meth c 36 81393 36 81393 L D L' D' 3 310 [(0, .ref (z + r0)), (1, .int x1)] []) : ∀ (n : Nat) (r0 : Nat) (x1 : Int32) (x2 : Int32) (L : List Sh) (D : Dm) (h : fc_X12_init_317 k310 n r0 x1 x2 L D = some (L', D')), BC G tA z E p l e (rmC 2 36 81393) s m args below meth c 36 81393 36 81393 L D L' D' 3 317 [(0, .ref (z + r0)), (1, .int x1), (2, .int x2)] [] := by
  intro n
  induction n with
  | zero => intro r0 x1 x2 L D h; exact no_some h
  | succ n ih => intro r0 x1 x2 L D h; exact v_X12_init_317_b O hnm hr hlk hk310 (fun r0 x1 x2 L D h => ih r0 x1 x2 L D h) r0 x1 x2 L D h
set_option maxHeartbeats 4000000 in
theorem v_X12_init_310_b {G : va_G} {tA : Nat → ClassId} {z : Nat} {E : Ex} {p : Program} {l : Launch} {e : Env} {s : State} {m : MethodId} {args : Array Value} {below : List Frame} {meth : Method} {c : Code} {L' : List Sh} {D' : Dm} (O : Ok G tA z E cX12_init RX12 3 p s m args c) (hnm : meth.name = "<init>") (hr : meth.sig.returnType = none) (hlk : meth.locks = false) {k310 : Nat → Int32 → List Sh → Dm → Option (List Sh × Dm)} (hk310 : ∀ (r0 : Nat) (x1 : Int32) (L : List Sh) (D : Dm), k310 r0 x1 L D = some (L', D') → BC G tA z E p l e (rmC 2 36 81393) s m args below meth c 36 81393 36 81393 L D L' D' 3 310 [(0, .ref (z + r0)), (1, .int x1)] []) (r0 : Nat) (x1 : Int32) (L : List Sh) (D : Dm) (h : fc_X12_init_310_b k310 r0 x1 L D = some (L', D')) : BC G tA z E p l e (rmC 2 36 81393) s m args below meth c 36 81393 36 81393 L D L' D' 3 310 [(0, .ref (z + r0)), (1, .int x1)] [] := by
  obtain ⟨hx, hb, -, hown, hts, -⟩ := id O
  unfold fc_X12_init_310_b at h
  intro H locs ls hH hl
  refine lv_iload_n hx hb dX12_init_310 rfl (lv_at hl 1 rfl) ?_
  refine lv_iconst (v := 2) hx hb dX12_init_311 (by decide) ?_
  refine lv_icmp_ge (tgt := 352) hx hb dX12_init_312 (by decide) (fun c1 => ?_) (fun c1 => ?_)
  · have h := it_pos h c1
    refine lv_aload_n hx hb dX12_init_352 rfl (lv_at hl 0 rfl) ?_
    obtain ⟨g5, h⟩ := gd_some h
    obtain ⟨L2, D3, h4, h⟩ := bC_some h
    obtain ⟨fs, b1⟩ := cS_ok g5
    refine hc_callV (As := []) (rest := []) O hH (cc_X12_resets h4) ml_X12_132 b1 rfl rfl hl.1 rfl ⟨(Nat.le_of_ble_eq_true rfl), (Nat.le_of_ble_eq_true rfl)⟩ (Nat.le_of_ble_eq_true rfl) ⟨(Nat.le_of_ble_eq_true rfl), (Nat.le_of_ble_eq_true rfl)⟩ dX12_init_353 (fun H locs hH => ?_)
    obtain ⟨rfl, rfl⟩ := ret_c h
    exact h_vret O hr hlk hH dX12_init_356
  · have h := it_neg h c1
    refine lv_iconst (v := 0) hx hb dX12_init_315 (by decide) ?_
    refine lv_istore_n (lv' := [(2, .int 0), (0, .ref (z + r0)), (1, .int x1)]) hx hb dX12_init_316 rfl hl (by decide) rfl (fun ls hl => ?_)
    exact v_X12_init_317 O hnm hr hlk hk310 FU _ _ _ _ _ h _ _ _ hH (lv_sub hl [1, 2, 0] rfl)
set_option maxHeartbeats 4000000 in
theorem v_X12_init_310 {G : va_G} {tA : Nat → ClassId} {z : Nat} {E : Ex} {p : Program} {l : Launch} {e : Env} {s : State} {m : MethodId} {args : Array Value} {below : List Frame} {meth : Method} {c : Code} {L' : List Sh} {D' : Dm} (O : Ok G tA z E cX12_init RX12 3 p s m args c) (hnm : meth.name = "<init>") (hr : meth.sig.returnType = none) (hlk : meth.locks = false) : ∀ (n : Nat) (r0 : Nat) (x1 : Int32) (L : List Sh) (D : Dm) (h : fc_X12_init_310 n r0 x1 L D = some (L', D')), BC G tA z E p l e (rmC 2 36 81393) s m args below meth c 36 81393 36 81393 L D L' D' 3 310 [(0, .ref (z + r0)), (1, .int x1)] [] := by
  intro n
  induction n with
  | zero => intro r0 x1 L D h; exact no_some h
  | succ n ih => intro r0 x1 L D h; exact v_X12_init_310_b O hnm hr hlk (fun r0 x1 L D h => ih r0 x1 L D h) r0 x1 L D h
set_option maxHeartbeats 4000000 in
theorem v_X12_init {G : va_G} {tA : Nat → ClassId} {z : Nat} {E : Ex} {p : Program} {l : Launch} {e : Env} {s : State} {m : MethodId} {args : Array Value} {below : List Frame} {meth : Method} {c : Code} {L' : List Sh} {D' : Dm} (O : Ok G tA z E cX12_init RX12 3 p s m args c) (hnm : meth.name = "<init>") (hr : meth.sig.returnType = none) (hlk : meth.locks = false) (r0 : Nat) (L : List Sh) (D : Dm) (h : fc_X12_init r0 L D = some (L', D')) : BC G tA z E p l e (rmC 2 36 81393) s m args below meth c 0 0 36 81393 L D L' D' 3 0 [(0, .ref (z + r0))] [] := by
  obtain ⟨hx, hb, -, hown, hts, -⟩ := id O
  unfold fc_X12_init at h
  intro H locs ls hH hl
  refine lv_aload_n hx hb dX12_init_0 rfl (lv_at hl 0 rfl) ?_
  refine hc_oinit O hl.1 ww_1115 ⟨(Nat.le_of_ble_eq_true rfl), (Nat.le_of_ble_eq_true rfl)⟩ (rest := []) (Nat.le_of_ble_eq_true rfl) dX12_init_1 ?_
  refine lv_aload_n hx hb dX12_init_4 rfl (lv_at hl 0 rfl) ?_
  refine lv_sipush (v := 188) hx hb dX12_init_5 (by decide) ?_
  obtain ⟨q1, e4, h⟩ := lt_some h
  obtain ⟨L2, e5, h⟩ := lt_some h
  obtain ⟨D3, e6, h⟩ := lt_some h
  refine hc_newa (atype := .int) (t := 0) (N' := 188) O hH ww_67 rfl rfl (fun _ => rfl) rfl (by decide) (by decide) (by decide) (Nat.le_of_ble_eq_true rfl) (Nat.le_of_ble_eq_true rfl) e4 e5 e6 dX12_init_8 (fun H hH => ?_)
  obtain ⟨L7, h8, h⟩ := bnd_some h
  obtain ⟨fs, o, a1, a2, a3⟩ := pR_ok h8
  refine hc_putr O hnm hH a1 a2 fl_X12_13 (fun _ _ _ h => by cases h; rfl) (fun _ => ⟨rfl, rfl⟩) a3 dX12_init_10 (fun H locs hH => ?_)
  refine lv_aload_n hx hb dX12_init_13 rfl (lv_at hl 0 rfl) ?_
  refine lv_bipush (v := 94) hx hb dX12_init_14 (by decide) ?_
  obtain ⟨q9, e12, h⟩ := lt_some h
  obtain ⟨L10, e13, h⟩ := lt_some h
  obtain ⟨D11, e14, h⟩ := lt_some h
  refine hc_newa (atype := .int) (t := 0) (N' := 94) O hH ww_67 rfl rfl (fun _ => rfl) rfl (by decide) (by decide) (by decide) (Nat.le_of_ble_eq_true rfl) (Nat.le_of_ble_eq_true rfl) e12 e13 e14 dX12_init_16 (fun H hH => ?_)
  obtain ⟨L15, h16, h⟩ := bnd_some h
  obtain ⟨fs, o, a1, a2, a3⟩ := pR_ok h16
  refine hc_putr O hnm hH a1 a2 fl_X12_17 (fun _ _ _ h => by cases h; rfl) (fun _ => ⟨rfl, rfl⟩) a3 dX12_init_18 (fun H locs hH => ?_)
  refine lv_aload_n hx hb dX12_init_21 rfl (lv_at hl 0 rfl) ?_
  refine lv_sipush (v := 500) hx hb dX12_init_22 (by decide) ?_
  obtain ⟨q17, e20, h⟩ := lt_some h
  obtain ⟨L18, e21, h⟩ := lt_some h
  obtain ⟨D19, e22, h⟩ := lt_some h
  refine hc_newa (atype := .byte) (t := 1) (N' := 500) O hH ww_652 rfl rfl (fun _ => rfl) rfl (by decide) (by decide) (by decide) (Nat.le_of_ble_eq_true rfl) (Nat.le_of_ble_eq_true rfl) e20 e21 e22 dX12_init_25 (fun H hH => ?_)
  obtain ⟨L23, h24, h⟩ := bnd_some h
  obtain ⟨fs, o, a1, a2, a3⟩ := pR_ok h24
  refine hc_putr O hnm hH a1 a2 fl_X12_20 (fun _ _ _ h => by cases h; rfl) (fun _ => ⟨rfl, rfl⟩) a3 dX12_init_27 (fun H locs hH => ?_)
  refine lv_aload_n hx hb dX12_init_30 rfl (lv_at hl 0 rfl) ?_
  refine lv_iconst (v := (-1)) hx hb dX12_init_31 (by decide) ?_
  obtain ⟨g25, h⟩ := gd_some h
  obtain ⟨fs, a1, a2⟩ := cI_ok g25
  obtain ⟨D26, e27, h⟩ := lt_some h
  refine hc_puti O hH a1 a2 fl_X12_24 rfl rfl e27 dX12_init_32 (fun H locs hH => ?_)
  refine lv_aload_n hx hb dX12_init_35 rfl (lv_at hl 0 rfl) ?_
  refine lv_bipush (v := 12) hx hb dX12_init_36 (by decide) ?_
  obtain ⟨q28, e31, h⟩ := lt_some h
  obtain ⟨L29, e32, h⟩ := lt_some h
  obtain ⟨D30, e33, h⟩ := lt_some h
  refine hc_newa (atype := .int) (t := 0) (N' := 12) O hH ww_67 rfl rfl (fun _ => rfl) rfl (by decide) (by decide) (by decide) (Nat.le_of_ble_eq_true rfl) (Nat.le_of_ble_eq_true rfl) e31 e32 e33 dX12_init_38 (fun H hH => ?_)
  obtain ⟨L34, h35, h⟩ := bnd_some h
  obtain ⟨fs, o, a1, a2, a3⟩ := pR_ok h35
  refine hc_putr O hnm hH a1 a2 fl_X12_27 (fun _ _ _ h => by cases h; rfl) (fun _ => ⟨rfl, rfl⟩) a3 dX12_init_40 (fun H locs hH => ?_)
  refine lv_aload_n hx hb dX12_init_43 rfl (lv_at hl 0 rfl) ?_
  refine lv_bipush (v := 12) hx hb dX12_init_44 (by decide) ?_
  obtain ⟨q36, e39, h⟩ := lt_some h
  obtain ⟨L37, e40, h⟩ := lt_some h
  obtain ⟨D38, e41, h⟩ := lt_some h
  refine hc_newa (atype := .int) (t := 0) (N' := 12) O hH ww_67 rfl rfl (fun _ => rfl) rfl (by decide) (by decide) (by decide) (Nat.le_of_ble_eq_true rfl) (Nat.le_of_ble_eq_true rfl) e39 e40 e41 dX12_init_46 (fun H hH => ?_)
  obtain ⟨L42, h43, h⟩ := bnd_some h
  obtain ⟨fs, o, a1, a2, a3⟩ := pR_ok h43
  refine hc_putr O hnm hH a1 a2 fl_X12_30 (fun _ _ _ h => by cases h; rfl) (fun _ => ⟨rfl, rfl⟩) a3 dX12_init_48 (fun H locs hH => ?_)
  refine lv_aload_n hx hb dX12_init_51 rfl (lv_at hl 0 rfl) ?_
  refine lv_bipush (v := 12) hx hb dX12_init_52 (by decide) ?_
  obtain ⟨q44, e47, h⟩ := lt_some h
  obtain ⟨L45, e48, h⟩ := lt_some h
  obtain ⟨D46, e49, h⟩ := lt_some h
  refine hc_newa (atype := .int) (t := 0) (N' := 12) O hH ww_67 rfl rfl (fun _ => rfl) rfl (by decide) (by decide) (by decide) (Nat.le_of_ble_eq_true rfl) (Nat.le_of_ble_eq_true rfl) e47 e48 e49 dX12_init_54 (fun H hH => ?_)
  obtain ⟨L50, h51, h⟩ := bnd_some h
  obtain ⟨fs, o, a1, a2, a3⟩ := pR_ok h51
  refine hc_putr O hnm hH a1 a2 fl_X12_33 (fun _ _ _ h => by cases h; rfl) (fun _ => ⟨rfl, rfl⟩) a3 dX12_init_56 (fun H locs hH => ?_)
  refine lv_aload_n hx hb dX12_init_59 rfl (lv_at hl 0 rfl) ?_
  refine lv_bipush (v := 12) hx hb dX12_init_60 (by decide) ?_
  obtain ⟨q52, e55, h⟩ := lt_some h
  obtain ⟨L53, e56, h⟩ := lt_some h
  obtain ⟨D54, e57, h⟩ := lt_some h
  refine hc_newa (atype := .int) (t := 0) (N' := 12) O hH ww_67 rfl rfl (fun _ => rfl) rfl (by decide) (by decide) (by decide) (Nat.le_of_ble_eq_true rfl) (Nat.le_of_ble_eq_true rfl) e55 e56 e57 dX12_init_62 (fun H hH => ?_)
  obtain ⟨L58, h59, h⟩ := bnd_some h
  obtain ⟨fs, o, a1, a2, a3⟩ := pR_ok h59
  refine hc_putr O hnm hH a1 a2 fl_X12_36 (fun _ _ _ h => by cases h; rfl) (fun _ => ⟨rfl, rfl⟩) a3 dX12_init_64 (fun H locs hH => ?_)
  refine lv_aload_n hx hb dX12_init_67 rfl (lv_at hl 0 rfl) ?_
  refine lv_bipush (v := 10) hx hb dX12_init_68 (by decide) ?_
  obtain ⟨q60, e63, h⟩ := lt_some h
  obtain ⟨L61, e64, h⟩ := lt_some h
  obtain ⟨D62, e65, h⟩ := lt_some h
  refine hc_newa (atype := .int) (t := 0) (N' := 10) O hH ww_67 rfl rfl (fun _ => rfl) rfl (by decide) (by decide) (by decide) (Nat.le_of_ble_eq_true rfl) (Nat.le_of_ble_eq_true rfl) e63 e64 e65 dX12_init_70 (fun H hH => ?_)
  obtain ⟨L66, h67, h⟩ := bnd_some h
  obtain ⟨fs, o, a1, a2, a3⟩ := pR_ok h67
  refine hc_putr O hnm hH a1 a2 fl_X12_39 (fun _ _ _ h => by cases h; rfl) (fun _ => ⟨rfl, rfl⟩) a3 dX12_init_72 (fun H locs hH => ?_)
  refine lv_aload_n hx hb dX12_init_75 rfl (lv_at hl 0 rfl) ?_
  refine lv_bipush (v := 60) hx hb dX12_init_76 (by decide) ?_
  obtain ⟨q68, e71, h⟩ := lt_some h
  obtain ⟨L69, e72, h⟩ := lt_some h
  obtain ⟨D70, e73, h⟩ := lt_some h
  refine hc_newa (atype := .int) (t := 0) (N' := 60) O hH ww_67 rfl rfl (fun _ => rfl) rfl (by decide) (by decide) (by decide) (Nat.le_of_ble_eq_true rfl) (Nat.le_of_ble_eq_true rfl) e71 e72 e73 dX12_init_78 (fun H hH => ?_)
  obtain ⟨L74, h75, h⟩ := bnd_some h
  obtain ⟨fs, o, a1, a2, a3⟩ := pR_ok h75
  refine hc_putr O hnm hH a1 a2 fl_X12_42 (fun _ _ _ h => by cases h; rfl) (fun _ => ⟨rfl, rfl⟩) a3 dX12_init_80 (fun H locs hH => ?_)
  refine lv_aload_n hx hb dX12_init_83 rfl (lv_at hl 0 rfl) ?_
  refine lv_bipush (v := 60) hx hb dX12_init_84 (by decide) ?_
  obtain ⟨q76, e79, h⟩ := lt_some h
  obtain ⟨L77, e80, h⟩ := lt_some h
  obtain ⟨D78, e81, h⟩ := lt_some h
  refine hc_newa (atype := .int) (t := 0) (N' := 60) O hH ww_67 rfl rfl (fun _ => rfl) rfl (by decide) (by decide) (by decide) (Nat.le_of_ble_eq_true rfl) (Nat.le_of_ble_eq_true rfl) e79 e80 e81 dX12_init_86 (fun H hH => ?_)
  obtain ⟨L82, h83, h⟩ := bnd_some h
  obtain ⟨fs, o, a1, a2, a3⟩ := pR_ok h83
  refine hc_putr O hnm hH a1 a2 fl_X12_45 (fun _ _ _ h => by cases h; rfl) (fun _ => ⟨rfl, rfl⟩) a3 dX12_init_88 (fun H locs hH => ?_)
  refine lv_aload_n hx hb dX12_init_91 rfl (lv_at hl 0 rfl) ?_
  refine lv_bipush (v := 10) hx hb dX12_init_92 (by decide) ?_
  obtain ⟨q84, e87, h⟩ := lt_some h
  obtain ⟨L85, e88, h⟩ := lt_some h
  obtain ⟨D86, e89, h⟩ := lt_some h
  refine hc_newa (atype := .int) (t := 0) (N' := 10) O hH ww_67 rfl rfl (fun _ => rfl) rfl (by decide) (by decide) (by decide) (Nat.le_of_ble_eq_true rfl) (Nat.le_of_ble_eq_true rfl) e87 e88 e89 dX12_init_94 (fun H hH => ?_)
  obtain ⟨L90, h91, h⟩ := bnd_some h
  obtain ⟨fs, o, a1, a2, a3⟩ := pR_ok h91
  refine hc_putr O hnm hH a1 a2 fl_X12_48 (fun _ _ _ h => by cases h; rfl) (fun _ => ⟨rfl, rfl⟩) a3 dX12_init_96 (fun H locs hH => ?_)
  refine lv_aload_n hx hb dX12_init_99 rfl (lv_at hl 0 rfl) ?_
  refine lv_bipush (v := 60) hx hb dX12_init_100 (by decide) ?_
  obtain ⟨q92, e95, h⟩ := lt_some h
  obtain ⟨L93, e96, h⟩ := lt_some h
  obtain ⟨D94, e97, h⟩ := lt_some h
  refine hc_newa (atype := .int) (t := 0) (N' := 60) O hH ww_67 rfl rfl (fun _ => rfl) rfl (by decide) (by decide) (by decide) (Nat.le_of_ble_eq_true rfl) (Nat.le_of_ble_eq_true rfl) e95 e96 e97 dX12_init_102 (fun H hH => ?_)
  obtain ⟨L98, h99, h⟩ := bnd_some h
  obtain ⟨fs, o, a1, a2, a3⟩ := pR_ok h99
  refine hc_putr O hnm hH a1 a2 fl_X12_51 (fun _ _ _ h => by cases h; rfl) (fun _ => ⟨rfl, rfl⟩) a3 dX12_init_104 (fun H locs hH => ?_)
  refine lv_aload_n hx hb dX12_init_107 rfl (lv_at hl 0 rfl) ?_
  refine lv_bipush (v := 60) hx hb dX12_init_108 (by decide) ?_
  obtain ⟨q100, e103, h⟩ := lt_some h
  obtain ⟨L101, e104, h⟩ := lt_some h
  obtain ⟨D102, e105, h⟩ := lt_some h
  refine hc_newa (atype := .int) (t := 0) (N' := 60) O hH ww_67 rfl rfl (fun _ => rfl) rfl (by decide) (by decide) (by decide) (Nat.le_of_ble_eq_true rfl) (Nat.le_of_ble_eq_true rfl) e103 e104 e105 dX12_init_110 (fun H hH => ?_)
  obtain ⟨L106, h107, h⟩ := bnd_some h
  obtain ⟨fs, o, a1, a2, a3⟩ := pR_ok h107
  refine hc_putr O hnm hH a1 a2 fl_X12_54 (fun _ _ _ h => by cases h; rfl) (fun _ => ⟨rfl, rfl⟩) a3 dX12_init_112 (fun H locs hH => ?_)
  refine lv_aload_n hx hb dX12_init_115 rfl (lv_at hl 0 rfl) ?_
  refine lv_bipush (v := 10) hx hb dX12_init_116 (by decide) ?_
  obtain ⟨q108, e111, h⟩ := lt_some h
  obtain ⟨L109, e112, h⟩ := lt_some h
  obtain ⟨D110, e113, h⟩ := lt_some h
  refine hc_newa (atype := .int) (t := 0) (N' := 10) O hH ww_67 rfl rfl (fun _ => rfl) rfl (by decide) (by decide) (by decide) (Nat.le_of_ble_eq_true rfl) (Nat.le_of_ble_eq_true rfl) e111 e112 e113 dX12_init_118 (fun H hH => ?_)
  obtain ⟨L114, h115, h⟩ := bnd_some h
  obtain ⟨fs, o, a1, a2, a3⟩ := pR_ok h115
  refine hc_putr O hnm hH a1 a2 fl_X12_57 (fun _ _ _ h => by cases h; rfl) (fun _ => ⟨rfl, rfl⟩) a3 dX12_init_120 (fun H locs hH => ?_)
  refine lv_aload_n hx hb dX12_init_123 rfl (lv_at hl 0 rfl) ?_
  refine lv_bipush (v := 10) hx hb dX12_init_124 (by decide) ?_
  obtain ⟨q116, e119, h⟩ := lt_some h
  obtain ⟨L117, e120, h⟩ := lt_some h
  obtain ⟨D118, e121, h⟩ := lt_some h
  refine hc_newa (atype := .int) (t := 0) (N' := 10) O hH ww_67 rfl rfl (fun _ => rfl) rfl (by decide) (by decide) (by decide) (Nat.le_of_ble_eq_true rfl) (Nat.le_of_ble_eq_true rfl) e119 e120 e121 dX12_init_126 (fun H hH => ?_)
  obtain ⟨L122, h123, h⟩ := bnd_some h
  obtain ⟨fs, o, a1, a2, a3⟩ := pR_ok h123
  refine hc_putr O hnm hH a1 a2 fl_X12_60 (fun _ _ _ h => by cases h; rfl) (fun _ => ⟨rfl, rfl⟩) a3 dX12_init_128 (fun H locs hH => ?_)
  refine lv_aload_n hx hb dX12_init_131 rfl (lv_at hl 0 rfl) ?_
  refine lv_bipush (v := 80) hx hb dX12_init_132 (by decide) ?_
  obtain ⟨q124, e127, h⟩ := lt_some h
  obtain ⟨L125, e128, h⟩ := lt_some h
  obtain ⟨D126, e129, h⟩ := lt_some h
  refine hc_newa (atype := .int) (t := 0) (N' := 80) O hH ww_67 rfl rfl (fun _ => rfl) rfl (by decide) (by decide) (by decide) (Nat.le_of_ble_eq_true rfl) (Nat.le_of_ble_eq_true rfl) e127 e128 e129 dX12_init_134 (fun H hH => ?_)
  obtain ⟨L130, h131, h⟩ := bnd_some h
  obtain ⟨fs, o, a1, a2, a3⟩ := pR_ok h131
  refine hc_putr O hnm hH a1 a2 fl_X12_63 (fun _ _ _ h => by cases h; rfl) (fun _ => ⟨rfl, rfl⟩) a3 dX12_init_136 (fun H locs hH => ?_)
  refine lv_aload_n hx hb dX12_init_139 rfl (lv_at hl 0 rfl) ?_
  refine lv_bipush (v := 80) hx hb dX12_init_140 (by decide) ?_
  obtain ⟨q132, e135, h⟩ := lt_some h
  obtain ⟨L133, e136, h⟩ := lt_some h
  obtain ⟨D134, e137, h⟩ := lt_some h
  refine hc_newa (atype := .int) (t := 0) (N' := 80) O hH ww_67 rfl rfl (fun _ => rfl) rfl (by decide) (by decide) (by decide) (Nat.le_of_ble_eq_true rfl) (Nat.le_of_ble_eq_true rfl) e135 e136 e137 dX12_init_142 (fun H hH => ?_)
  obtain ⟨L138, h139, h⟩ := bnd_some h
  obtain ⟨fs, o, a1, a2, a3⟩ := pR_ok h139
  refine hc_putr O hnm hH a1 a2 fl_X12_66 (fun _ _ _ h => by cases h; rfl) (fun _ => ⟨rfl, rfl⟩) a3 dX12_init_144 (fun H locs hH => ?_)
  refine lv_aload_n hx hb dX12_init_147 rfl (lv_at hl 0 rfl) ?_
  refine lv_bipush (v := 40) hx hb dX12_init_148 (by decide) ?_
  obtain ⟨q140, e143, h⟩ := lt_some h
  obtain ⟨L141, e144, h⟩ := lt_some h
  obtain ⟨D142, e145, h⟩ := lt_some h
  refine hc_newa (atype := .int) (t := 0) (N' := 40) O hH ww_67 rfl rfl (fun _ => rfl) rfl (by decide) (by decide) (by decide) (Nat.le_of_ble_eq_true rfl) (Nat.le_of_ble_eq_true rfl) e143 e144 e145 dX12_init_150 (fun H hH => ?_)
  obtain ⟨L146, h147, h⟩ := bnd_some h
  obtain ⟨fs, o, a1, a2, a3⟩ := pR_ok h147
  refine hc_putr O hnm hH a1 a2 fl_X12_69 (fun _ _ _ h => by cases h; rfl) (fun _ => ⟨rfl, rfl⟩) a3 dX12_init_152 (fun H locs hH => ?_)
  refine lv_aload_n hx hb dX12_init_155 rfl (lv_at hl 0 rfl) ?_
  refine lv_bipush (v := 40) hx hb dX12_init_156 (by decide) ?_
  obtain ⟨q148, e151, h⟩ := lt_some h
  obtain ⟨L149, e152, h⟩ := lt_some h
  obtain ⟨D150, e153, h⟩ := lt_some h
  refine hc_newa (atype := .int) (t := 0) (N' := 40) O hH ww_67 rfl rfl (fun _ => rfl) rfl (by decide) (by decide) (by decide) (Nat.le_of_ble_eq_true rfl) (Nat.le_of_ble_eq_true rfl) e151 e152 e153 dX12_init_158 (fun H hH => ?_)
  obtain ⟨L154, h155, h⟩ := bnd_some h
  obtain ⟨fs, o, a1, a2, a3⟩ := pR_ok h155
  refine hc_putr O hnm hH a1 a2 fl_X12_72 (fun _ _ _ h => by cases h; rfl) (fun _ => ⟨rfl, rfl⟩) a3 dX12_init_160 (fun H locs hH => ?_)
  refine lv_aload_n hx hb dX12_init_163 rfl (lv_at hl 0 rfl) ?_
  refine lv_iconst (v := 3) hx hb dX12_init_164 (by decide) ?_
  obtain ⟨q156, e159, h⟩ := lt_some h
  obtain ⟨L157, e160, h⟩ := lt_some h
  obtain ⟨D158, e161, h⟩ := lt_some h
  refine hc_newa (atype := .int) (t := 0) (N' := 3) O hH ww_67 rfl rfl (fun _ => rfl) rfl (by decide) (by decide) (by decide) (Nat.le_of_ble_eq_true rfl) (Nat.le_of_ble_eq_true rfl) e159 e160 e161 dX12_init_165 (fun H hH => ?_)
  obtain ⟨L162, h163, h⟩ := bnd_some h
  obtain ⟨fs, o, a1, a2, a3⟩ := pR_ok h163
  refine hc_putr O hnm hH a1 a2 fl_X12_75 (fun _ _ _ h => by cases h; rfl) (fun _ => ⟨rfl, rfl⟩) a3 dX12_init_167 (fun H locs hH => ?_)
  refine lv_aload_n hx hb dX12_init_170 rfl (lv_at hl 0 rfl) ?_
  refine lv_iconst (v := 3) hx hb dX12_init_171 (by decide) ?_
  obtain ⟨q164, e167, h⟩ := lt_some h
  obtain ⟨L165, e168, h⟩ := lt_some h
  obtain ⟨D166, e169, h⟩ := lt_some h
  refine hc_newa (atype := .int) (t := 0) (N' := 3) O hH ww_67 rfl rfl (fun _ => rfl) rfl (by decide) (by decide) (by decide) (Nat.le_of_ble_eq_true rfl) (Nat.le_of_ble_eq_true rfl) e167 e168 e169 dX12_init_172 (fun H hH => ?_)
  obtain ⟨L170, h171, h⟩ := bnd_some h
  obtain ⟨fs, o, a1, a2, a3⟩ := pR_ok h171
  refine hc_putr O hnm hH a1 a2 fl_X12_78 (fun _ _ _ h => by cases h; rfl) (fun _ => ⟨rfl, rfl⟩) a3 dX12_init_174 (fun H locs hH => ?_)
  refine lv_aload_n hx hb dX12_init_177 rfl (lv_at hl 0 rfl) ?_
  refine lv_iconst (v := 3) hx hb dX12_init_178 (by decide) ?_
  obtain ⟨q172, e175, h⟩ := lt_some h
  obtain ⟨L173, e176, h⟩ := lt_some h
  obtain ⟨D174, e177, h⟩ := lt_some h
  refine hc_newa (atype := .int) (t := 0) (N' := 3) O hH ww_67 rfl rfl (fun _ => rfl) rfl (by decide) (by decide) (by decide) (Nat.le_of_ble_eq_true rfl) (Nat.le_of_ble_eq_true rfl) e175 e176 e177 dX12_init_179 (fun H hH => ?_)
  obtain ⟨L178, h179, h⟩ := bnd_some h
  obtain ⟨fs, o, a1, a2, a3⟩ := pR_ok h179
  refine hc_putr O hnm hH a1 a2 fl_X12_81 (fun _ _ _ h => by cases h; rfl) (fun _ => ⟨rfl, rfl⟩) a3 dX12_init_181 (fun H locs hH => ?_)
  refine lv_aload_n hx hb dX12_init_184 rfl (lv_at hl 0 rfl) ?_
  refine lv_bipush (v := 40) hx hb dX12_init_185 (by decide) ?_
  obtain ⟨q180, e183, h⟩ := lt_some h
  obtain ⟨L181, e184, h⟩ := lt_some h
  obtain ⟨D182, e185, h⟩ := lt_some h
  refine hc_newa (atype := .int) (t := 0) (N' := 40) O hH ww_67 rfl rfl (fun _ => rfl) rfl (by decide) (by decide) (by decide) (Nat.le_of_ble_eq_true rfl) (Nat.le_of_ble_eq_true rfl) e183 e184 e185 dX12_init_187 (fun H hH => ?_)
  obtain ⟨L186, h187, h⟩ := bnd_some h
  obtain ⟨fs, o, a1, a2, a3⟩ := pR_ok h187
  refine hc_putr O hnm hH a1 a2 fl_X12_84 (fun _ _ _ h => by cases h; rfl) (fun _ => ⟨rfl, rfl⟩) a3 dX12_init_189 (fun H locs hH => ?_)
  refine lv_aload_n hx hb dX12_init_192 rfl (lv_at hl 0 rfl) ?_
  refine lv_bipush (v := 40) hx hb dX12_init_193 (by decide) ?_
  obtain ⟨q188, e191, h⟩ := lt_some h
  obtain ⟨L189, e192, h⟩ := lt_some h
  obtain ⟨D190, e193, h⟩ := lt_some h
  refine hc_newa (atype := .int) (t := 0) (N' := 40) O hH ww_67 rfl rfl (fun _ => rfl) rfl (by decide) (by decide) (by decide) (Nat.le_of_ble_eq_true rfl) (Nat.le_of_ble_eq_true rfl) e191 e192 e193 dX12_init_195 (fun H hH => ?_)
  obtain ⟨L194, h195, h⟩ := bnd_some h
  obtain ⟨fs, o, a1, a2, a3⟩ := pR_ok h195
  refine hc_putr O hnm hH a1 a2 fl_X12_87 (fun _ _ _ h => by cases h; rfl) (fun _ => ⟨rfl, rfl⟩) a3 dX12_init_197 (fun H locs hH => ?_)
  refine lv_aload_n hx hb dX12_init_200 rfl (lv_at hl 0 rfl) ?_
  refine lv_bipush (v := 80) hx hb dX12_init_201 (by decide) ?_
  obtain ⟨q196, e199, h⟩ := lt_some h
  obtain ⟨L197, e200, h⟩ := lt_some h
  obtain ⟨D198, e201, h⟩ := lt_some h
  refine hc_newa (atype := .int) (t := 0) (N' := 80) O hH ww_67 rfl rfl (fun _ => rfl) rfl (by decide) (by decide) (by decide) (Nat.le_of_ble_eq_true rfl) (Nat.le_of_ble_eq_true rfl) e199 e200 e201 dX12_init_203 (fun H hH => ?_)
  obtain ⟨L202, h203, h⟩ := bnd_some h
  obtain ⟨fs, o, a1, a2, a3⟩ := pR_ok h203
  refine hc_putr O hnm hH a1 a2 fl_X12_90 (fun _ _ _ h => by cases h; rfl) (fun _ => ⟨rfl, rfl⟩) a3 dX12_init_205 (fun H locs hH => ?_)
  refine lv_aload_n hx hb dX12_init_208 rfl (lv_at hl 0 rfl) ?_
  refine lv_bipush (v := 80) hx hb dX12_init_209 (by decide) ?_
  obtain ⟨q204, e207, h⟩ := lt_some h
  obtain ⟨L205, e208, h⟩ := lt_some h
  obtain ⟨D206, e209, h⟩ := lt_some h
  refine hc_newa (atype := .int) (t := 0) (N' := 80) O hH ww_67 rfl rfl (fun _ => rfl) rfl (by decide) (by decide) (by decide) (Nat.le_of_ble_eq_true rfl) (Nat.le_of_ble_eq_true rfl) e207 e208 e209 dX12_init_211 (fun H hH => ?_)
  obtain ⟨L210, h211, h⟩ := bnd_some h
  obtain ⟨fs, o, a1, a2, a3⟩ := pR_ok h211
  refine hc_putr O hnm hH a1 a2 fl_X12_93 (fun _ _ _ h => by cases h; rfl) (fun _ => ⟨rfl, rfl⟩) a3 dX12_init_213 (fun H locs hH => ?_)
  refine lv_aload_n hx hb dX12_init_216 rfl (lv_at hl 0 rfl) ?_
  refine lv_bipush (v := 20) hx hb dX12_init_217 (by decide) ?_
  obtain ⟨q212, e215, h⟩ := lt_some h
  obtain ⟨L213, e216, h⟩ := lt_some h
  obtain ⟨D214, e217, h⟩ := lt_some h
  refine hc_newa (atype := .int) (t := 0) (N' := 20) O hH ww_67 rfl rfl (fun _ => rfl) rfl (by decide) (by decide) (by decide) (Nat.le_of_ble_eq_true rfl) (Nat.le_of_ble_eq_true rfl) e215 e216 e217 dX12_init_219 (fun H hH => ?_)
  obtain ⟨L218, h219, h⟩ := bnd_some h
  obtain ⟨fs, o, a1, a2, a3⟩ := pR_ok h219
  refine hc_putr O hnm hH a1 a2 fl_X12_96 (fun _ _ _ h => by cases h; rfl) (fun _ => ⟨rfl, rfl⟩) a3 dX12_init_221 (fun H locs hH => ?_)
  refine lv_aload_n hx hb dX12_init_224 rfl (lv_at hl 0 rfl) ?_
  refine lv_bipush (v := 20) hx hb dX12_init_225 (by decide) ?_
  obtain ⟨q220, e223, h⟩ := lt_some h
  obtain ⟨L221, e224, h⟩ := lt_some h
  obtain ⟨D222, e225, h⟩ := lt_some h
  refine hc_newa (atype := .int) (t := 0) (N' := 20) O hH ww_67 rfl rfl (fun _ => rfl) rfl (by decide) (by decide) (by decide) (Nat.le_of_ble_eq_true rfl) (Nat.le_of_ble_eq_true rfl) e223 e224 e225 dX12_init_227 (fun H hH => ?_)
  obtain ⟨L226, h227, h⟩ := bnd_some h
  obtain ⟨fs, o, a1, a2, a3⟩ := pR_ok h227
  refine hc_putr O hnm hH a1 a2 fl_X12_99 (fun _ _ _ h => by cases h; rfl) (fun _ => ⟨rfl, rfl⟩) a3 dX12_init_229 (fun H locs hH => ?_)
  refine lv_aload_n hx hb dX12_init_232 rfl (lv_at hl 0 rfl) ?_
  refine lv_sipush (v := 3500) hx hb dX12_init_233 (by decide) ?_
  obtain ⟨q228, e231, h⟩ := lt_some h
  obtain ⟨L229, e232, h⟩ := lt_some h
  obtain ⟨D230, e233, h⟩ := lt_some h
  refine hc_newa (atype := .int) (t := 0) (N' := 3500) O hH ww_67 rfl rfl (fun _ => rfl) rfl (by decide) (by decide) (by decide) (Nat.le_of_ble_eq_true rfl) (Nat.le_of_ble_eq_true rfl) e231 e232 e233 dX12_init_236 (fun H hH => ?_)
  obtain ⟨L234, h235, h⟩ := bnd_some h
  obtain ⟨fs, o, a1, a2, a3⟩ := pR_ok h235
  refine hc_putr O hnm hH a1 a2 fl_X12_102 (fun _ _ _ h => by cases h; rfl) (fun _ => ⟨rfl, rfl⟩) a3 dX12_init_238 (fun H locs hH => ?_)
  refine lv_aload_n hx hb dX12_init_241 rfl (lv_at hl 0 rfl) ?_
  refine lv_sipush (v := 3500) hx hb dX12_init_242 (by decide) ?_
  obtain ⟨q236, e239, h⟩ := lt_some h
  obtain ⟨L237, e240, h⟩ := lt_some h
  obtain ⟨D238, e241, h⟩ := lt_some h
  refine hc_newa (atype := .int) (t := 0) (N' := 3500) O hH ww_67 rfl rfl (fun _ => rfl) rfl (by decide) (by decide) (by decide) (Nat.le_of_ble_eq_true rfl) (Nat.le_of_ble_eq_true rfl) e239 e240 e241 dX12_init_245 (fun H hH => ?_)
  obtain ⟨L242, h243, h⟩ := bnd_some h
  obtain ⟨fs, o, a1, a2, a3⟩ := pR_ok h243
  refine hc_putr O hnm hH a1 a2 fl_X12_105 (fun _ _ _ h => by cases h; rfl) (fun _ => ⟨rfl, rfl⟩) a3 dX12_init_247 (fun H locs hH => ?_)
  refine lv_aload_n hx hb dX12_init_250 rfl (lv_at hl 0 rfl) ?_
  refine lv_sipush (v := 3500) hx hb dX12_init_251 (by decide) ?_
  obtain ⟨q244, e247, h⟩ := lt_some h
  obtain ⟨L245, e248, h⟩ := lt_some h
  obtain ⟨D246, e249, h⟩ := lt_some h
  refine hc_newa (atype := .int) (t := 0) (N' := 3500) O hH ww_67 rfl rfl (fun _ => rfl) rfl (by decide) (by decide) (by decide) (Nat.le_of_ble_eq_true rfl) (Nat.le_of_ble_eq_true rfl) e247 e248 e249 dX12_init_254 (fun H hH => ?_)
  obtain ⟨L250, h251, h⟩ := bnd_some h
  obtain ⟨fs, o, a1, a2, a3⟩ := pR_ok h251
  refine hc_putr O hnm hH a1 a2 fl_X12_108 (fun _ _ _ h => by cases h; rfl) (fun _ => ⟨rfl, rfl⟩) a3 dX12_init_256 (fun H locs hH => ?_)
  refine lv_aload_n hx hb dX12_init_259 rfl (lv_at hl 0 rfl) ?_
  refine lv_sipush (v := 3500) hx hb dX12_init_260 (by decide) ?_
  obtain ⟨q252, e255, h⟩ := lt_some h
  obtain ⟨L253, e256, h⟩ := lt_some h
  obtain ⟨D254, e257, h⟩ := lt_some h
  refine hc_newa (atype := .int) (t := 0) (N' := 3500) O hH ww_67 rfl rfl (fun _ => rfl) rfl (by decide) (by decide) (by decide) (Nat.le_of_ble_eq_true rfl) (Nat.le_of_ble_eq_true rfl) e255 e256 e257 dX12_init_263 (fun H hH => ?_)
  obtain ⟨L258, h259, h⟩ := bnd_some h
  obtain ⟨fs, o, a1, a2, a3⟩ := pR_ok h259
  refine hc_putr O hnm hH a1 a2 fl_X12_111 (fun _ _ _ h => by cases h; rfl) (fun _ => ⟨rfl, rfl⟩) a3 dX12_init_265 (fun H locs hH => ?_)
  refine lv_aload_n hx hb dX12_init_268 rfl (lv_at hl 0 rfl) ?_
  refine lv_sipush (v := 3500) hx hb dX12_init_269 (by decide) ?_
  obtain ⟨q260, e263, h⟩ := lt_some h
  obtain ⟨L261, e264, h⟩ := lt_some h
  obtain ⟨D262, e265, h⟩ := lt_some h
  refine hc_newa (atype := .int) (t := 0) (N' := 3500) O hH ww_67 rfl rfl (fun _ => rfl) rfl (by decide) (by decide) (by decide) (Nat.le_of_ble_eq_true rfl) (Nat.le_of_ble_eq_true rfl) e263 e264 e265 dX12_init_272 (fun H hH => ?_)
  obtain ⟨L266, h267, h⟩ := bnd_some h
  obtain ⟨fs, o, a1, a2, a3⟩ := pR_ok h267
  refine hc_putr O hnm hH a1 a2 fl_X12_114 (fun _ _ _ h => by cases h; rfl) (fun _ => ⟨rfl, rfl⟩) a3 dX12_init_274 (fun H locs hH => ?_)
  refine lv_aload_n hx hb dX12_init_277 rfl (lv_at hl 0 rfl) ?_
  refine lv_sipush (v := 21000) hx hb dX12_init_278 (by decide) ?_
  obtain ⟨q268, e271, h⟩ := lt_some h
  obtain ⟨L269, e272, h⟩ := lt_some h
  obtain ⟨D270, e273, h⟩ := lt_some h
  refine hc_newa (atype := .int) (t := 0) (N' := 21000) O hH ww_67 rfl rfl (fun _ => rfl) rfl (by decide) (by decide) (by decide) (Nat.le_of_ble_eq_true rfl) (Nat.le_of_ble_eq_true rfl) e271 e272 e273 dX12_init_281 (fun H hH => ?_)
  obtain ⟨L274, h275, h⟩ := bnd_some h
  obtain ⟨fs, o, a1, a2, a3⟩ := pR_ok h275
  refine hc_putr O hnm hH a1 a2 fl_X12_117 (fun _ _ _ h => by cases h; rfl) (fun _ => ⟨rfl, rfl⟩) a3 dX12_init_283 (fun H locs hH => ?_)
  refine lv_aload_n hx hb dX12_init_286 rfl (lv_at hl 0 rfl) ?_
  refine lv_iconst (v := 4) hx hb dX12_init_287 (by decide) ?_
  obtain ⟨q276, e279, h⟩ := lt_some h
  obtain ⟨L277, e280, h⟩ := lt_some h
  obtain ⟨D278, e281, h⟩ := lt_some h
  refine hc_newa (atype := .int) (t := 0) (N' := 4) O hH ww_67 rfl rfl (fun _ => rfl) rfl (by decide) (by decide) (by decide) (Nat.le_of_ble_eq_true rfl) (Nat.le_of_ble_eq_true rfl) e279 e280 e281 dX12_init_288 (fun H hH => ?_)
  obtain ⟨L282, h283, h⟩ := bnd_some h
  obtain ⟨fs, o, a1, a2, a3⟩ := pR_ok h283
  refine hc_putr O hnm hH a1 a2 fl_X12_120 (fun _ _ _ h => by cases h; rfl) (fun _ => ⟨rfl, rfl⟩) a3 dX12_init_290 (fun H locs hH => ?_)
  refine lv_aload_n hx hb dX12_init_293 rfl (lv_at hl 0 rfl) ?_
  refine lv_ldc (v := 41250) hx hb hown (hts _ ww_1116) dX12_init_294 ?_
  obtain ⟨q284, e287, h⟩ := lt_some h
  obtain ⟨L285, e288, h⟩ := lt_some h
  obtain ⟨D286, e289, h⟩ := lt_some h
  refine hc_newa (atype := .boolean) (t := 2) (N' := 41250) O hH ww_1368 rfl rfl (fun _ => rfl) rfl (by decide) (by decide) (by decide) (Nat.le_of_ble_eq_true rfl) (Nat.le_of_ble_eq_true rfl) e287 e288 e289 dX12_init_296 (fun H hH => ?_)
  obtain ⟨L290, h291, h⟩ := bnd_some h
  obtain ⟨fs, o, a1, a2, a3⟩ := pR_ok h291
  refine hc_putr O hnm hH a1 a2 fl_X12_124 (fun _ _ _ h => by cases h; rfl) (fun _ => ⟨rfl, rfl⟩) a3 dX12_init_298 (fun H locs hH => ?_)
  refine lv_aload_n hx hb dX12_init_301 rfl (lv_at hl 0 rfl) ?_
  obtain ⟨q292, h293, h⟩ := bnd_some h
  obtain ⟨fs, a1, a2⟩ := gR_ok h293
  refine h_getr O hH a1 a2 fl_X12_17 dX12_init_302 ?_
  obtain ⟨L294, D295, h296, h⟩ := bC_some h
  refine hc_callS (As := [.ref (z + q292)]) (rest := []) O hH (cc_X12_empties h296) ml_X12_128 rfl hl.1 rfl ⟨(Nat.le_of_ble_eq_true rfl), (Nat.le_of_ble_eq_true rfl)⟩ (Nat.le_of_ble_eq_true rfl) ⟨(Nat.le_of_ble_eq_true rfl), (Nat.le_of_ble_eq_true rfl)⟩ dX12_init_305 (fun H locs hH => ?_)
  refine lv_iconst (v := 0) hx hb dX12_init_308 (by decide) ?_
  refine lv_istore_n (lv' := [(1, .int 0), (0, .ref (z + r0))]) hx hb dX12_init_309 rfl hl (by decide) rfl (fun ls hl => ?_)
  exact v_X12_init_310 O hnm hr hlk FU _ _ _ _ h _ _ _ hH (lv_sub hl [1, 0] rfl)
set_option maxHeartbeats 4000000 in
theorem cc_X12_init {l : Launch} {G : va_G} {tA : Nat → ClassId} {z : Nat} {E : Ex} {r0 : Nat} {L L' : List Sh} {D D' : Dm} (h : fc_X12_init r0 L D = some (L', D')) : CtV l yX12_init cX12_init 3 G tA z E 2 36 81393 [.ref (z + r0)] L D L' D' :=
  ct_BC (by decide +kernel) (Nat.le_of_ble_eq_true rfl) (fun _ _ _ _ _ _ _ _ O hr hlk hnm => v_X12_init O hnm hr hlk _ _ _ h)
