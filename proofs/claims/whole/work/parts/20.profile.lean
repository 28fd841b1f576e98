theorem dX6_gatherHeld_0 : decode cX6_gatherHeld 0 = .ok (.aload_n 0, 1) := by decide +kernel
theorem dX6_gatherHeld_1 : decode cX6_gatherHeld 1 = .ok (.getfield 12, 3) := by decide +kernel
theorem dX6_gatherHeld_4 : decode cX6_gatherHeld 4 = .ok (.getfield 88, 3) := by decide +kernel
theorem dX6_gatherHeld_7 : decode cX6_gatherHeld 7 = .ok (.iconst 0, 1) := by decide +kernel
theorem dX6_gatherHeld_8 : decode cX6_gatherHeld 8 = .ok (.iaload, 1) := by decide +kernel
theorem dX6_gatherHeld_9 : decode cX6_gatherHeld 9 = .ok (.aload_n 0, 1) := by decide +kernel
theorem dX6_gatherHeld_10 : decode cX6_gatherHeld 10 = .ok (.getfield 12, 3) := by decide +kernel
theorem dX6_gatherHeld_13 : decode cX6_gatherHeld 13 = .ok (.getfield 88, 3) := by decide +kernel
theorem dX6_gatherHeld_16 : decode cX6_gatherHeld 16 = .ok (.iconst 1, 1) := by decide +kernel
theorem dX6_gatherHeld_17 : decode cX6_gatherHeld 17 = .ok (.iaload, 1) := by decide +kernel
theorem dX6_gatherHeld_18 : decode cX6_gatherHeld 18 = .ok (.invokestatic 91, 3) := by decide +kernel
theorem dX6_gatherHeld_21 : decode cX6_gatherHeld 21 = .ok (.istore_n 1, 1) := by decide +kernel
theorem dX6_gatherHeld_22 : decode cX6_gatherHeld 22 = .ok (.aload_n 0, 1) := by decide +kernel
theorem dX6_gatherHeld_23 : decode cX6_gatherHeld 23 = .ok (.getfield 12, 3) := by decide +kernel
theorem dX6_gatherHeld_26 : decode cX6_gatherHeld 26 = .ok (.getfield 88, 3) := by decide +kernel
theorem dX6_gatherHeld_29 : decode cX6_gatherHeld 29 = .ok (.iconst 0, 1) := by decide +kernel
theorem dX6_gatherHeld_30 : decode cX6_gatherHeld 30 = .ok (.iaload, 1) := by decide +kernel
theorem dX6_gatherHeld_31 : decode cX6_gatherHeld 31 = .ok (.aload_n 0, 1) := by decide +kernel
theorem dX6_gatherHeld_32 : decode cX6_gatherHeld 32 = .ok (.getfield 12, 3) := by decide +kernel
theorem dX6_gatherHeld_35 : decode cX6_gatherHeld 35 = .ok (.getfield 88, 3) := by decide +kernel
theorem dX6_gatherHeld_38 : decode cX6_gatherHeld 38 = .ok (.iconst 1, 1) := by decide +kernel
theorem dX6_gatherHeld_39 : decode cX6_gatherHeld 39 = .ok (.iaload, 1) := by decide +kernel
theorem dX6_gatherHeld_40 : decode cX6_gatherHeld 40 = .ok (.invokestatic 97, 3) := by decide +kernel
theorem dX6_gatherHeld_43 : decode cX6_gatherHeld 43 = .ok (.istore_n 2, 1) := by decide +kernel
theorem dX6_gatherHeld_44 : decode cX6_gatherHeld 44 = .ok (.aload_n 0, 1) := by decide +kernel
theorem dX6_gatherHeld_45 : decode cX6_gatherHeld 45 = .ok (.iconst 0, 1) := by decide +kernel
theorem dX6_gatherHeld_46 : decode cX6_gatherHeld 46 = .ok (.putfield 64, 3) := by decide +kernel
theorem dX6_gatherHeld_49 : decode cX6_gatherHeld 49 = .ok (.iload_n 1, 1) := by decide +kernel
theorem dX6_gatherHeld_50 : decode cX6_gatherHeld 50 = .ok (.iconst (-1), 1) := by decide +kernel
theorem dX6_gatherHeld_51 : decode cX6_gatherHeld 51 = .ok (.if_icmp .eq 23, 3) := by decide +kernel
theorem dX6_gatherHeld_54 : decode cX6_gatherHeld 54 = .ok (.aload_n 0, 1) := by decide +kernel
theorem dX6_gatherHeld_55 : decode cX6_gatherHeld 55 = .ok (.getfield 18, 3) := by decide +kernel
theorem dX6_gatherHeld_58 : decode cX6_gatherHeld 58 = .ok (.aload_n 0, 1) := by decide +kernel
theorem dX6_gatherHeld_59 : decode cX6_gatherHeld 59 = .ok (.getfield 64, 3) := by decide +kernel
theorem dX6_gatherHeld_62 : decode cX6_gatherHeld 62 = .ok (.iload_n 1, 1) := by decide +kernel
theorem dX6_gatherHeld_63 : decode cX6_gatherHeld 63 = .ok (.iastore, 1) := by decide +kernel
theorem dX6_gatherHeld_64 : decode cX6_gatherHeld 64 = .ok (.aload_n 0, 1) := by decide +kernel
theorem dX6_gatherHeld_65 : decode cX6_gatherHeld 65 = .ok (.dup, 1) := by decide +kernel
theorem dX6_gatherHeld_66 : decode cX6_gatherHeld 66 = .ok (.getfield 64, 3) := by decide +kernel
theorem dX6_gatherHeld_69 : decode cX6_gatherHeld 69 = .ok (.iconst 1, 1) := by decide +kernel
theorem dX6_gatherHeld_70 : decode cX6_gatherHeld 70 = .ok (.iadd, 1) := by decide +kernel
theorem dX6_gatherHeld_71 : decode cX6_gatherHeld 71 = .ok (.putfield 64, 3) := by decide +kernel
theorem dX6_gatherHeld_74 : decode cX6_gatherHeld 74 = .ok (.iload_n 2, 1) := by decide +kernel
theorem dX6_gatherHeld_75 : decode cX6_gatherHeld 75 = .ok (.iload_n 1, 1) := by decide +kernel
theorem dX6_gatherHeld_76 : decode cX6_gatherHeld 76 = .ok (.if_icmp .eq 23, 3) := by decide +kernel
theorem dX6_gatherHeld_79 : decode cX6_gatherHeld 79 = .ok (.aload_n 0, 1) := by decide +kernel
theorem dX6_gatherHeld_80 : decode cX6_gatherHeld 80 = .ok (.getfield 18, 3) := by decide +kernel
theorem dX6_gatherHeld_83 : decode cX6_gatherHeld 83 = .ok (.aload_n 0, 1) := by decide +kernel
theorem dX6_gatherHeld_84 : decode cX6_gatherHeld 84 = .ok (.getfield 64, 3) := by decide +kernel
theorem dX6_gatherHeld_87 : decode cX6_gatherHeld 87 = .ok (.iload_n 2, 1) := by decide +kernel
theorem dX6_gatherHeld_88 : decode cX6_gatherHeld 88 = .ok (.iastore, 1) := by decide +kernel
theorem dX6_gatherHeld_89 : decode cX6_gatherHeld 89 = .ok (.aload_n 0, 1) := by decide +kernel
theorem dX6_gatherHeld_90 : decode cX6_gatherHeld 90 = .ok (.dup, 1) := by decide +kernel
theorem dX6_gatherHeld_91 : decode cX6_gatherHeld 91 = .ok (.getfield 64, 3) := by decide +kernel
theorem dX6_gatherHeld_94 : decode cX6_gatherHeld 94 = .ok (.iconst 1, 1) := by decide +kernel
theorem dX6_gatherHeld_95 : decode cX6_gatherHeld 95 = .ok (.iadd, 1) := by decide +kernel
theorem dX6_gatherHeld_96 : decode cX6_gatherHeld 96 = .ok (.putfield 64, 3) := by decide +kernel
theorem dX6_gatherHeld_99 : decode cX6_gatherHeld 99 = .ok (.return_, 1) := by decide +kernel
theorem dX6_noteShown_0 : decode cX6_noteShown 0 = .ok (.iconst 0, 1) := by decide +kernel
theorem dX6_noteShown_1 : decode cX6_noteShown 1 = .ok (.istore 4, 2) := by decide +kernel
theorem dX6_noteShown_3 : decode cX6_noteShown 3 = .ok (.iload 4, 2) := by decide +kernel
theorem dX6_noteShown_5 : decode cX6_noteShown 5 = .ok (.aload_n 0, 1) := by decide +kernel
theorem dX6_noteShown_6 : decode cX6_noteShown 6 = .ok (.getfield 64, 3) := by decide +kernel
theorem dX6_noteShown_9 : decode cX6_noteShown 9 = .ok (.if_icmp .ge 72, 3) := by decide +kernel
theorem dX6_noteShown_12 : decode cX6_noteShown 12 = .ok (.aload_n 0, 1) := by decide +kernel
theorem dX6_noteShown_13 : decode cX6_noteShown 13 = .ok (.getfield 22, 3) := by decide +kernel
theorem dX6_noteShown_16 : decode cX6_noteShown 16 = .ok (.iload 4, 2) := by decide +kernel
theorem dX6_noteShown_18 : decode cX6_noteShown 18 = .ok (.iaload, 1) := by decide +kernel
theorem dX6_noteShown_19 : decode cX6_noteShown 19 = .ok (.iconst (-1), 1) := by decide +kernel
theorem dX6_noteShown_20 : decode cX6_noteShown 20 = .ok (.if_icmp .eq 6, 3) := by decide +kernel
theorem dX6_noteShown_23 : decode cX6_noteShown 23 = .ok (.goto 52, 3) := by decide +kernel
theorem dX6_noteShown_26 : decode cX6_noteShown 26 = .ok (.aload_n 0, 1) := by decide +kernel
theorem dX6_noteShown_27 : decode cX6_noteShown 27 = .ok (.getfield 25, 3) := by decide +kernel
theorem dX6_noteShown_30 : decode cX6_noteShown 30 = .ok (.iload 4, 2) := by decide +kernel
theorem dX6_noteShown_32 : decode cX6_noteShown 32 = .ok (.aload_n 1, 1) := by decide +kernel
theorem dX6_noteShown_33 : decode cX6_noteShown 33 = .ok (.iload_n 3, 1) := by decide +kernel
theorem dX6_noteShown_34 : decode cX6_noteShown 34 = .ok (.aload_n 1, 1) := by decide +kernel
theorem dX6_noteShown_35 : decode cX6_noteShown 35 = .ok (.getfield 67, 3) := by decide +kernel
theorem dX6_noteShown_38 : decode cX6_noteShown 38 = .ok (.iload_n 2, 1) := by decide +kernel
theorem dX6_noteShown_39 : decode cX6_noteShown 39 = .ok (.aaload, 1) := by decide +kernel
theorem dX6_noteShown_40 : decode cX6_noteShown 40 = .ok (.iload 4, 2) := by decide +kernel
theorem dX6_noteShown_42 : decode cX6_noteShown 42 = .ok (.iconst 1, 1) := by decide +kernel
theorem dX6_noteShown_43 : decode cX6_noteShown 43 = .ok (.iadd, 1) := by decide +kernel
theorem dX6_noteShown_44 : decode cX6_noteShown 44 = .ok (.aload_n 0, 1) := by decide +kernel
theorem dX6_noteShown_45 : decode cX6_noteShown 45 = .ok (.getfield 18, 3) := by decide +kernel
theorem dX6_noteShown_48 : decode cX6_noteShown 48 = .ok (.aload_n 0, 1) := by decide +kernel
theorem dX6_noteShown_49 : decode cX6_noteShown 49 = .ok (.getfield 64, 3) := by decide +kernel
theorem dX6_noteShown_52 : decode cX6_noteShown 52 = .ok (.invokevirtual 100, 3) := by decide +kernel
theorem dX6_noteShown_55 : decode cX6_noteShown 55 = .ok (.iastore, 1) := by decide +kernel
theorem dX6_noteShown_56 : decode cX6_noteShown 56 = .ok (.aload_n 0, 1) := by decide +kernel
theorem dX6_noteShown_57 : decode cX6_noteShown 57 = .ok (.getfield 25, 3) := by decide +kernel
theorem dX6_noteShown_60 : decode cX6_noteShown 60 = .ok (.iload 4, 2) := by decide +kernel
theorem dX6_noteShown_62 : decode cX6_noteShown 62 = .ok (.iaload, 1) := by decide +kernel
theorem dX6_noteShown_63 : decode cX6_noteShown 63 = .ok (.iconst (-1), 1) := by decide +kernel
theorem dX6_noteShown_64 : decode cX6_noteShown 64 = .ok (.if_icmp .eq 11, 3) := by decide +kernel
theorem dX6_noteShown_67 : decode cX6_noteShown 67 = .ok (.aload_n 0, 1) := by decide +kernel
theorem dX6_noteShown_68 : decode cX6_noteShown 68 = .ok (.getfield 22, 3) := by decide +kernel
theorem dX6_noteShown_71 : decode cX6_noteShown 71 = .ok (.iload 4, 2) := by decide +kernel
theorem dX6_noteShown_73 : decode cX6_noteShown 73 = .ok (.iload_n 2, 1) := by decide +kernel
theorem dX6_noteShown_74 : decode cX6_noteShown 74 = .ok (.iastore, 1) := by decide +kernel
theorem dX6_noteShown_75 : decode cX6_noteShown 75 = .ok (.iinc 4 1, 3) := by decide +kernel
theorem dX6_noteShown_78 : decode cX6_noteShown 78 = .ok (.goto (-75), 3) := by decide +kernel
theorem dX6_noteShown_81 : decode cX6_noteShown 81 = .ok (.return_, 1) := by decide +kernel
theorem dX6_gatherKept_0 : decode cX6_gatherKept 0 = .ok (.aload_n 0, 1) := by decide +kernel
theorem dX6_gatherKept_1 : decode cX6_gatherKept 1 = .ok (.iconst 0, 1) := by decide +kernel
theorem dX6_gatherKept_2 : decode cX6_gatherKept 2 = .ok (.putfield 85, 3) := by decide +kernel
theorem dX6_gatherKept_5 : decode cX6_gatherKept 5 = .ok (.iconst 0, 1) := by decide +kernel
theorem dX6_gatherKept_6 : decode cX6_gatherKept 6 = .ok (.istore_n 1, 1) := by decide +kernel
theorem dX6_gatherKept_7 : decode cX6_gatherKept 7 = .ok (.iload_n 1, 1) := by decide +kernel
theorem dX6_gatherKept_8 : decode cX6_gatherKept 8 = .ok (.aload_n 0, 1) := by decide +kernel
theorem dX6_gatherKept_9 : decode cX6_gatherKept 9 = .ok (.getfield 64, 3) := by decide +kernel
theorem dX6_gatherKept_12 : decode cX6_gatherKept 12 = .ok (.if_icmp .ge 44, 3) := by decide +kernel
theorem dX6_gatherKept_15 : decode cX6_gatherKept 15 = .ok (.aload_n 0, 1) := by decide +kernel
theorem dX6_gatherKept_16 : decode cX6_gatherKept 16 = .ok (.getfield 22, 3) := by decide +kernel
theorem dX6_gatherKept_19 : decode cX6_gatherKept 19 = .ok (.iload_n 1, 1) := by decide +kernel
theorem dX6_gatherKept_20 : decode cX6_gatherKept 20 = .ok (.iaload, 1) := by decide +kernel
theorem dX6_gatherKept_21 : decode cX6_gatherKept 21 = .ok (.iconst (-1), 1) := by decide +kernel
theorem dX6_gatherKept_22 : decode cX6_gatherKept 22 = .ok (.if_icmp .eq 28, 3) := by decide +kernel
theorem dX6_gatherKept_25 : decode cX6_gatherKept 25 = .ok (.aload_n 0, 1) := by decide +kernel
theorem dX6_gatherKept_26 : decode cX6_gatherKept 26 = .ok (.getfield 28, 3) := by decide +kernel
theorem dX6_gatherKept_29 : decode cX6_gatherKept 29 = .ok (.aload_n 0, 1) := by decide +kernel
theorem dX6_gatherKept_30 : decode cX6_gatherKept 30 = .ok (.getfield 85, 3) := by decide +kernel
theorem dX6_gatherKept_33 : decode cX6_gatherKept 33 = .ok (.aload_n 0, 1) := by decide +kernel
theorem dX6_gatherKept_34 : decode cX6_gatherKept 34 = .ok (.getfield 18, 3) := by decide +kernel
theorem dX6_gatherKept_37 : decode cX6_gatherKept 37 = .ok (.iload_n 1, 1) := by decide +kernel
theorem dX6_gatherKept_38 : decode cX6_gatherKept 38 = .ok (.iaload, 1) := by decide +kernel
theorem dX6_gatherKept_39 : decode cX6_gatherKept 39 = .ok (.iastore, 1) := by decide +kernel
theorem dX6_gatherKept_40 : decode cX6_gatherKept 40 = .ok (.aload_n 0, 1) := by decide +kernel
theorem dX6_gatherKept_41 : decode cX6_gatherKept 41 = .ok (.dup, 1) := by decide +kernel
theorem dX6_gatherKept_42 : decode cX6_gatherKept 42 = .ok (.getfield 85, 3) := by decide +kernel
theorem dX6_gatherKept_45 : decode cX6_gatherKept 45 = .ok (.iconst 1, 1) := by decide +kernel
theorem dX6_gatherKept_46 : decode cX6_gatherKept 46 = .ok (.iadd, 1) := by decide +kernel
theorem dX6_gatherKept_47 : decode cX6_gatherKept 47 = .ok (.putfield 85, 3) := by decide +kernel
theorem dX6_gatherKept_50 : decode cX6_gatherKept 50 = .ok (.iinc 1 1, 3) := by decide +kernel
theorem dX6_gatherKept_53 : decode cX6_gatherKept 53 = .ok (.goto (-46), 3) := by decide +kernel
theorem dX6_gatherKept_56 : decode cX6_gatherKept 56 = .ok (.aload_n 0, 1) := by decide +kernel
theorem dX6_gatherKept_57 : decode cX6_gatherKept 57 = .ok (.getfield 31, 3) := by decide +kernel
theorem dX6_gatherKept_60 : decode cX6_gatherKept 60 = .ok (.iconst 0, 1) := by decide +kernel
theorem dX6_gatherKept_61 : decode cX6_gatherKept 61 = .ok (.aload_n 0, 1) := by decide +kernel
theorem dX6_gatherKept_62 : decode cX6_gatherKept 62 = .ok (.getfield 28, 3) := by decide +kernel
theorem dX6_gatherKept_65 : decode cX6_gatherKept 65 = .ok (.iconst 1, 1) := by decide +kernel
theorem dX6_gatherKept_66 : decode cX6_gatherKept 66 = .ok (.iaload, 1) := by decide +kernel
theorem dX6_gatherKept_67 : decode cX6_gatherKept 67 = .ok (.iastore, 1) := by decide +kernel
theorem dX6_gatherKept_68 : decode cX6_gatherKept 68 = .ok (.aload_n 0, 1) := by decide +kernel
theorem dX6_gatherKept_69 : decode cX6_gatherKept 69 = .ok (.getfield 31, 3) := by decide +kernel
theorem dX6_gatherKept_72 : decode cX6_gatherKept 72 = .ok (.iconst 1, 1) := by decide +kernel
theorem dX6_gatherKept_73 : decode cX6_gatherKept 73 = .ok (.aload_n 0, 1) := by decide +kernel
theorem dX6_gatherKept_74 : decode cX6_gatherKept 74 = .ok (.getfield 28, 3) := by decide +kernel
theorem dX6_gatherKept_77 : decode cX6_gatherKept 77 = .ok (.iconst 0, 1) := by decide +kernel
theorem dX6_gatherKept_78 : decode cX6_gatherKept 78 = .ok (.iaload, 1) := by decide +kernel
theorem dX6_gatherKept_79 : decode cX6_gatherKept 79 = .ok (.iastore, 1) := by decide +kernel
theorem dX6_gatherKept_80 : decode cX6_gatherKept 80 = .ok (.return_, 1) := by decide +kernel
theorem dX6_look_0 : decode cX6_look 0 = .ok (.aload_n 1, 1) := by decide +kernel
theorem dX6_look_1 : decode cX6_look 1 = .ok (.getfield 40, 3) := by decide +kernel
theorem dX6_look_4 : decode cX6_look 4 = .ok (.aload_n 0, 1) := by decide +kernel
theorem dX6_look_5 : decode cX6_look 5 = .ok (.getfield 12, 3) := by decide +kernel
theorem dX6_look_8 : decode cX6_look 8 = .ok (.aload_n 2, 1) := by decide +kernel
theorem dX6_look_9 : decode cX6_look 9 = .ok (.aload_n 2, 1) := by decide +kernel
theorem dX6_look_10 : decode cX6_look 10 = .ok (.getfield 46, 3) := by decide +kernel
theorem dX6_look_13 : decode cX6_look 13 = .ok (.invokevirtual 52, 3) := by decide +kernel
theorem dX6_look_16 : decode cX6_look 16 = .ok (.aload_n 0, 1) := by decide +kernel
theorem dX6_look_17 : decode cX6_look 17 = .ok (.invokevirtual 58, 3) := by decide +kernel
theorem dX6_look_20 : decode cX6_look 20 = .ok (.aload_n 0, 1) := by decide +kernel
theorem dX6_look_21 : decode cX6_look 21 = .ok (.getfield 22, 3) := by decide +kernel
theorem dX6_look_24 : decode cX6_look 24 = .ok (.iconst 0, 1) := by decide +kernel
theorem dX6_look_25 : decode cX6_look 25 = .ok (.iconst (-1), 1) := by decide +kernel
theorem dX6_look_26 : decode cX6_look 26 = .ok (.iastore, 1) := by decide +kernel
theorem dX6_look_27 : decode cX6_look 27 = .ok (.aload_n 0, 1) := by decide +kernel
theorem dX6_look_28 : decode cX6_look 28 = .ok (.getfield 22, 3) := by decide +kernel
theorem dX6_look_31 : decode cX6_look 31 = .ok (.iconst 1, 1) := by decide +kernel
theorem dX6_look_32 : decode cX6_look 32 = .ok (.iconst (-1), 1) := by decide +kernel
theorem dX6_look_33 : decode cX6_look 33 = .ok (.iastore, 1) := by decide +kernel
theorem dX6_look_34 : decode cX6_look 34 = .ok (.iconst 0, 1) := by decide +kernel
theorem dX6_look_35 : decode cX6_look 35 = .ok (.istore_n 3, 1) := by decide +kernel
theorem dX6_look_36 : decode cX6_look 36 = .ok (.iload_n 3, 1) := by decide +kernel
theorem dX6_look_37 : decode cX6_look 37 = .ok (.aload_n 1, 1) := by decide +kernel
theorem dX6_look_38 : decode cX6_look 38 = .ok (.getfield 61, 3) := by decide +kernel
theorem dX6_look_41 : decode cX6_look 41 = .ok (.if_icmp .ge 44, 3) := by decide +kernel
theorem dX6_look_44 : decode cX6_look 44 = .ok (.aload_n 0, 1) := by decide +kernel
theorem dX6_look_45 : decode cX6_look 45 = .ok (.getfield 64, 3) := by decide +kernel
theorem dX6_look_48 : decode cX6_look 48 = .ok (.ifCond .le 37, 3) := by decide +kernel
theorem dX6_look_51 : decode cX6_look 51 = .ok (.aload_n 0, 1) := by decide +kernel
theorem dX6_look_52 : decode cX6_look 52 = .ok (.aload_n 1, 1) := by decide +kernel
theorem dX6_look_53 : decode cX6_look 53 = .ok (.iload_n 3, 1) := by decide +kernel
theorem dX6_look_54 : decode cX6_look 54 = .ok (.aload_n 1, 1) := by decide +kernel
theorem dX6_look_55 : decode cX6_look 55 = .ok (.aload_n 0, 1) := by decide +kernel
theorem dX6_look_56 : decode cX6_look 56 = .ok (.getfield 12, 3) := by decide +kernel
theorem dX6_look_59 : decode cX6_look 59 = .ok (.aload_n 1, 1) := by decide +kernel
theorem dX6_look_60 : decode cX6_look 60 = .ok (.getfield 67, 3) := by decide +kernel
theorem dX6_look_63 : decode cX6_look 63 = .ok (.iload_n 3, 1) := by decide +kernel
theorem dX6_look_64 : decode cX6_look 64 = .ok (.aaload, 1) := by decide +kernel
theorem dX6_look_65 : decode cX6_look 65 = .ok (.aload_n 0, 1) := by decide +kernel
theorem dX6_look_66 : decode cX6_look 66 = .ok (.getfield 18, 3) := by decide +kernel
theorem dX6_look_69 : decode cX6_look 69 = .ok (.aload_n 0, 1) := by decide +kernel
theorem dX6_look_70 : decode cX6_look 70 = .ok (.getfield 64, 3) := by decide +kernel
theorem dX6_look_73 : decode cX6_look 73 = .ok (.invokevirtual 71, 3) := by decide +kernel
theorem dX6_look_76 : decode cX6_look 76 = .ok (.invokevirtual 75, 3) := by decide +kernel
theorem dX6_look_79 : decode cX6_look 79 = .ok (.iinc 3 1, 3) := by decide +kernel
theorem dX6_look_82 : decode cX6_look 82 = .ok (.goto (-46), 3) := by decide +kernel
theorem dX6_look_85 : decode cX6_look 85 = .ok (.aload_n 0, 1) := by decide +kernel
theorem dX6_look_86 : decode cX6_look 86 = .ok (.invokevirtual 79, 3) := by decide +kernel
theorem dX6_look_89 : decode cX6_look 89 = .ok (.aload_n 0, 1) := by decide +kernel
theorem dX6_look_90 : decode cX6_look 90 = .ok (.aload_n 1, 1) := by decide +kernel
theorem dX6_look_91 : decode cX6_look 91 = .ok (.getfield 61, 3) := by decide +kernel
theorem dX6_look_94 : decode cX6_look 94 = .ok (.putfield 82, 3) := by decide +kernel
theorem dX6_look_97 : decode cX6_look 97 = .ok (.iconst 0, 1) := by decide +kernel
theorem dX6_look_98 : decode cX6_look 98 = .ok (.istore_n 3, 1) := by decide +kernel
theorem dX6_look_99 : decode cX6_look 99 = .ok (.iload_n 3, 1) := by decide +kernel
theorem dX6_look_100 : decode cX6_look 100 = .ok (.aload_n 0, 1) := by decide +kernel
theorem dX6_look_101 : decode cX6_look 101 = .ok (.getfield 82, 3) := by decide +kernel
theorem dX6_look_104 : decode cX6_look 104 = .ok (.if_icmp .ge 82, 3) := by decide +kernel
theorem dX6_look_107 : decode cX6_look 107 = .ok (.aload_n 0, 1) := by decide +kernel
theorem dX6_look_108 : decode cX6_look 108 = .ok (.getfield 34, 3) := by decide +kernel
theorem dX6_look_111 : decode cX6_look 111 = .ok (.iload_n 3, 1) := by decide +kernel
theorem dX6_look_112 : decode cX6_look 112 = .ok (.aload_n 1, 1) := by decide +kernel
theorem dX6_look_113 : decode cX6_look 113 = .ok (.aload_n 0, 1) := by decide +kernel
theorem dX6_look_114 : decode cX6_look 114 = .ok (.getfield 12, 3) := by decide +kernel
theorem dX6_look_117 : decode cX6_look 117 = .ok (.aload_n 1, 1) := by decide +kernel
theorem dX6_look_118 : decode cX6_look 118 = .ok (.getfield 67, 3) := by decide +kernel
theorem dX6_look_121 : decode cX6_look 121 = .ok (.iload_n 3, 1) := by decide +kernel
theorem dX6_look_122 : decode cX6_look 122 = .ok (.aaload, 1) := by decide +kernel
theorem dX6_look_123 : decode cX6_look 123 = .ok (.aload_n 0, 1) := by decide +kernel
theorem dX6_look_124 : decode cX6_look 124 = .ok (.getfield 28, 3) := by decide +kernel
theorem dX6_look_127 : decode cX6_look 127 = .ok (.aload_n 0, 1) := by decide +kernel
theorem dX6_look_128 : decode cX6_look 128 = .ok (.getfield 85, 3) := by decide +kernel
theorem dX6_look_131 : decode cX6_look 131 = .ok (.invokevirtual 71, 3) := by decide +kernel
theorem dX6_look_134 : decode cX6_look 134 = .ok (.iastore, 1) := by decide +kernel
theorem dX6_look_135 : decode cX6_look 135 = .ok (.aload_n 0, 1) := by decide +kernel
theorem dX6_look_136 : decode cX6_look 136 = .ok (.getfield 37, 3) := by decide +kernel
theorem dX6_look_139 : decode cX6_look 139 = .ok (.iload_n 3, 1) := by decide +kernel
theorem dX6_look_140 : decode cX6_look 140 = .ok (.aload_n 0, 1) := by decide +kernel
theorem dX6_look_141 : decode cX6_look 141 = .ok (.getfield 85, 3) := by decide +kernel
theorem dX6_look_144 : decode cX6_look 144 = .ok (.iconst 2, 1) := by decide +kernel
theorem dX6_look_145 : decode cX6_look 145 = .ok (.if_icmp .ge 12, 3) := by decide +kernel
theorem dX6_look_148 : decode cX6_look 148 = .ok (.aload_n 0, 1) := by decide +kernel
theorem dX6_look_149 : decode cX6_look 149 = .ok (.getfield 34, 3) := by decide +kernel
theorem dX6_look_152 : decode cX6_look 152 = .ok (.iload_n 3, 1) := by decide +kernel
theorem dX6_look_153 : decode cX6_look 153 = .ok (.iaload, 1) := by decide +kernel
theorem dX6_look_154 : decode cX6_look 154 = .ok (.goto 25, 3) := by decide +kernel
theorem dX6_look_157 : decode cX6_look 157 = .ok (.aload_n 1, 1) := by decide +kernel
theorem dX6_look_158 : decode cX6_look 158 = .ok (.aload_n 0, 1) := by decide +kernel
theorem dX6_look_159 : decode cX6_look 159 = .ok (.getfield 12, 3) := by decide +kernel
theorem dX6_look_162 : decode cX6_look 162 = .ok (.aload_n 1, 1) := by decide +kernel
theorem dX6_look_163 : decode cX6_look 163 = .ok (.getfield 67, 3) := by decide +kernel
theorem dX6_look_166 : decode cX6_look 166 = .ok (.iload_n 3, 1) := by decide +kernel
theorem dX6_look_167 : decode cX6_look 167 = .ok (.aaload, 1) := by decide +kernel
theorem dX6_look_168 : decode cX6_look 168 = .ok (.aload_n 0, 1) := by decide +kernel
theorem dX6_look_169 : decode cX6_look 169 = .ok (.getfield 31, 3) := by decide +kernel
theorem dX6_look_172 : decode cX6_look 172 = .ok (.aload_n 0, 1) := by decide +kernel
theorem dX6_look_173 : decode cX6_look 173 = .ok (.getfield 85, 3) := by decide +kernel
theorem dX6_look_176 : decode cX6_look 176 = .ok (.invokevirtual 71, 3) := by decide +kernel
theorem dX6_look_179 : decode cX6_look 179 = .ok (.iastore, 1) := by decide +kernel
theorem dX6_look_180 : decode cX6_look 180 = .ok (.iinc 3 1, 3) := by decide +kernel
theorem dX6_look_183 : decode cX6_look 183 = .ok (.goto (-84), 3) := by decide +kernel
theorem dX6_look_186 : decode cX6_look 186 = .ok (.return_, 1) := by decide +kernel
theorem dX6_wayTo_0 : decode cX6_wayTo 0 = .ok (.aload_n 0, 1) := by decide +kernel
theorem dX6_wayTo_1 : decode cX6_wayTo 1 = .ok (.getfield 85, 3) := by decide +kernel
theorem dX6_wayTo_4 : decode cX6_wayTo 4 = .ok (.aload_n 1, 1) := by decide +kernel
theorem dX6_wayTo_5 : decode cX6_wayTo 5 = .ok (.getfield 85, 3) := by decide +kernel
theorem dX6_wayTo_8 : decode cX6_wayTo 8 = .ok (.if_icmp .eq 5, 3) := by decide +kernel
theorem dX6_wayTo_11 : decode cX6_wayTo 11 = .ok (.iconst (-1), 1) := by decide +kernel
theorem dX6_wayTo_12 : decode cX6_wayTo 12 = .ok (.ireturn, 1) := by decide +kernel
theorem dX6_wayTo_13 : decode cX6_wayTo 13 = .ok (.iconst 1, 1) := by decide +kernel
theorem dX6_wayTo_14 : decode cX6_wayTo 14 = .ok (.istore_n 2, 1) := by decide +kernel
theorem dX6_wayTo_15 : decode cX6_wayTo 15 = .ok (.aload_n 0, 1) := by decide +kernel
theorem dX6_wayTo_16 : decode cX6_wayTo 16 = .ok (.getfield 85, 3) := by decide +kernel
theorem dX6_wayTo_19 : decode cX6_wayTo 19 = .ok (.iconst 2, 1) := by decide +kernel
theorem dX6_wayTo_20 : decode cX6_wayTo 20 = .ok (.if_icmp .ne 7, 3) := by decide +kernel
theorem dX6_wayTo_23 : decode cX6_wayTo 23 = .ok (.iconst 1, 1) := by decide +kernel
theorem dX6_wayTo_24 : decode cX6_wayTo 24 = .ok (.goto 4, 3) := by decide +kernel
theorem dX6_wayTo_27 : decode cX6_wayTo 27 = .ok (.iconst 0, 1) := by decide +kernel
theorem dX6_wayTo_28 : decode cX6_wayTo 28 = .ok (.istore_n 3, 1) := by decide +kernel
theorem dX6_wayTo_29 : decode cX6_wayTo 29 = .ok (.iconst 0, 1) := by decide +kernel
theorem dX6_wayTo_30 : decode cX6_wayTo 30 = .ok (.istore 4, 2) := by decide +kernel
theorem dX6_wayTo_32 : decode cX6_wayTo 32 = .ok (.iload 4, 2) := by decide +kernel
theorem dX6_wayTo_34 : decode cX6_wayTo 34 = .ok (.aload_n 0, 1) := by decide +kernel
theorem dX6_wayTo_35 : decode cX6_wayTo 35 = .ok (.getfield 82, 3) := by decide +kernel
theorem dX6_wayTo_38 : decode cX6_wayTo 38 = .ok (.if_icmp .ge 63, 3) := by decide +kernel
theorem dX6_wayTo_41 : decode cX6_wayTo 41 = .ok (.iload_n 2, 1) := by decide +kernel
theorem dX6_wayTo_42 : decode cX6_wayTo 42 = .ok (.ifCond .eq 24, 3) := by decide +kernel
theorem dX6_wayTo_45 : decode cX6_wayTo 45 = .ok (.aload_n 0, 1) := by decide +kernel
theorem dX6_wayTo_46 : decode cX6_wayTo 46 = .ok (.getfield 34, 3) := by decide +kernel
theorem dX6_wayTo_49 : decode cX6_wayTo 49 = .ok (.iload 4, 2) := by decide +kernel
theorem dX6_wayTo_51 : decode cX6_wayTo 51 = .ok (.iaload, 1) := by decide +kernel
theorem dX6_wayTo_52 : decode cX6_wayTo 52 = .ok (.aload_n 1, 1) := by decide +kernel
theorem dX6_wayTo_53 : decode cX6_wayTo 53 = .ok (.getfield 34, 3) := by decide +kernel
theorem dX6_wayTo_56 : decode cX6_wayTo 56 = .ok (.iload 4, 2) := by decide +kernel
theorem dX6_wayTo_58 : decode cX6_wayTo 58 = .ok (.iaload, 1) := by decide +kernel
theorem dX6_wayTo_59 : decode cX6_wayTo 59 = .ok (.if_icmp .ne 7, 3) := by decide +kernel
theorem dX6_wayTo_62 : decode cX6_wayTo 62 = .ok (.iconst 1, 1) := by decide +kernel
theorem dX6_wayTo_63 : decode cX6_wayTo 63 = .ok (.goto 4, 3) := by decide +kernel
theorem dX6_wayTo_66 : decode cX6_wayTo 66 = .ok (.iconst 0, 1) := by decide +kernel
theorem dX6_wayTo_67 : decode cX6_wayTo 67 = .ok (.istore_n 2, 1) := by decide +kernel
theorem dX6_wayTo_68 : decode cX6_wayTo 68 = .ok (.iload_n 3, 1) := by decide +kernel
theorem dX6_wayTo_69 : decode cX6_wayTo 69 = .ok (.ifCond .eq 24, 3) := by decide +kernel
theorem dX6_wayTo_72 : decode cX6_wayTo 72 = .ok (.aload_n 0, 1) := by decide +kernel
theorem dX6_wayTo_73 : decode cX6_wayTo 73 = .ok (.getfield 34, 3) := by decide +kernel
theorem dX6_wayTo_76 : decode cX6_wayTo 76 = .ok (.iload 4, 2) := by decide +kernel
theorem dX6_wayTo_78 : decode cX6_wayTo 78 = .ok (.iaload, 1) := by decide +kernel
theorem dX6_wayTo_79 : decode cX6_wayTo 79 = .ok (.aload_n 1, 1) := by decide +kernel
theorem dX6_wayTo_80 : decode cX6_wayTo 80 = .ok (.getfield 37, 3) := by decide +kernel
theorem dX6_wayTo_83 : decode cX6_wayTo 83 = .ok (.iload 4, 2) := by decide +kernel
theorem dX6_wayTo_85 : decode cX6_wayTo 85 = .ok (.iaload, 1) := by decide +kernel
theorem dX6_wayTo_86 : decode cX6_wayTo 86 = .ok (.if_icmp .ne 7, 3) := by decide +kernel
theorem dX6_wayTo_89 : decode cX6_wayTo 89 = .ok (.iconst 1, 1) := by decide +kernel
theorem dX6_wayTo_90 : decode cX6_wayTo 90 = .ok (.goto 4, 3) := by decide +kernel
theorem dX6_wayTo_93 : decode cX6_wayTo 93 = .ok (.iconst 0, 1) := by decide +kernel
theorem dX6_wayTo_94 : decode cX6_wayTo 94 = .ok (.istore_n 3, 1) := by decide +kernel
theorem dX6_wayTo_95 : decode cX6_wayTo 95 = .ok (.iinc 4 1, 3) := by decide +kernel
theorem dX6_wayTo_98 : decode cX6_wayTo 98 = .ok (.goto (-66), 3) := by decide +kernel
theorem dX6_wayTo_101 : decode cX6_wayTo 101 = .ok (.iload_n 2, 1) := by decide +kernel
theorem dX6_wayTo_102 : decode cX6_wayTo 102 = .ok (.ifCond .eq 5, 3) := by decide +kernel
theorem dX6_wayTo_105 : decode cX6_wayTo 105 = .ok (.iconst 0, 1) := by decide +kernel
theorem dX6_wayTo_106 : decode cX6_wayTo 106 = .ok (.ireturn, 1) := by decide +kernel
theorem dX6_wayTo_107 : decode cX6_wayTo 107 = .ok (.iload_n 3, 1) := by decide +kernel
theorem dX6_wayTo_108 : decode cX6_wayTo 108 = .ok (.ifCond .eq 7, 3) := by decide +kernel
theorem dX6_wayTo_111 : decode cX6_wayTo 111 = .ok (.iconst 1, 1) := by decide +kernel
theorem dX6_wayTo_112 : decode cX6_wayTo 112 = .ok (.goto 4, 3) := by decide +kernel
theorem dX6_wayTo_115 : decode cX6_wayTo 115 = .ok (.iconst (-1), 1) := by decide +kernel
theorem dX6_wayTo_116 : decode cX6_wayTo 116 = .ok (.ireturn, 1) := by decide +kernel
theorem dX6_placeOf_0 : decode cX6_placeOf 0 = .ok (.iconst 0, 1) := by decide +kernel
theorem dX6_placeOf_1 : decode cX6_placeOf 1 = .ok (.istore_n 2, 1) := by decide +kernel
theorem dX6_placeOf_2 : decode cX6_placeOf 2 = .ok (.iload_n 2, 1) := by decide +kernel
theorem dX6_placeOf_3 : decode cX6_placeOf 3 = .ok (.aload_n 0, 1) := by decide +kernel
theorem dX6_placeOf_4 : decode cX6_placeOf 4 = .ok (.getfield 85, 3) := by decide +kernel
theorem dX6_placeOf_7 : decode cX6_placeOf 7 = .ok (.if_icmp .ge 21, 3) := by decide +kernel
theorem dX6_placeOf_10 : decode cX6_placeOf 10 = .ok (.aload_n 0, 1) := by decide +kernel
theorem dX6_placeOf_11 : decode cX6_placeOf 11 = .ok (.getfield 28, 3) := by decide +kernel
theorem dX6_placeOf_14 : decode cX6_placeOf 14 = .ok (.iload_n 2, 1) := by decide +kernel
theorem dX6_placeOf_15 : decode cX6_placeOf 15 = .ok (.iaload, 1) := by decide +kernel
theorem dX6_placeOf_16 : decode cX6_placeOf 16 = .ok (.iload_n 1, 1) := by decide +kernel
theorem dX6_placeOf_17 : decode cX6_placeOf 17 = .ok (.if_icmp .ne 5, 3) := by decide +kernel
theorem dX6_placeOf_20 : decode cX6_placeOf 20 = .ok (.iload_n 2, 1) := by decide +kernel
theorem dX6_placeOf_21 : decode cX6_placeOf 21 = .ok (.ireturn, 1) := by decide +kernel
theorem dX6_placeOf_22 : decode cX6_placeOf 22 = .ok (.iinc 2 1, 3) := by decide +kernel
theorem dX6_placeOf_25 : decode cX6_placeOf 25 = .ok (.goto (-23), 3) := by decide +kernel
theorem dX6_placeOf_28 : decode cX6_placeOf 28 = .ok (.iconst (-1), 1) := by decide +kernel
theorem dX6_placeOf_29 : decode cX6_placeOf 29 = .ok (.ireturn, 1) := by decide +kernel
theorem dX6_keptBits_0 : decode cX6_keptBits 0 = .ok (.iconst 0, 1) := by decide +kernel
theorem dX6_keptBits_1 : decode cX6_keptBits 1 = .ok (.istore_n 1, 1) := by decide +kernel
theorem dX6_keptBits_2 : decode cX6_keptBits 2 = .ok (.iconst 0, 1) := by decide +kernel
theorem dX6_keptBits_3 : decode cX6_keptBits 3 = .ok (.istore_n 2, 1) := by decide +kernel
theorem dX6_keptBits_4 : decode cX6_keptBits 4 = .ok (.iload_n 2, 1) := by decide +kernel
theorem dX6_keptBits_5 : decode cX6_keptBits 5 = .ok (.aload_n 0, 1) := by decide +kernel
theorem dX6_keptBits_6 : decode cX6_keptBits 6 = .ok (.getfield 85, 3) := by decide +kernel
theorem dX6_keptBits_9 : decode cX6_keptBits 9 = .ok (.if_icmp .ge 20, 3) := by decide +kernel
theorem dX6_keptBits_12 : decode cX6_keptBits 12 = .ok (.iload_n 1, 1) := by decide +kernel
theorem dX6_keptBits_13 : decode cX6_keptBits 13 = .ok (.iconst 1, 1) := by decide +kernel
theorem dX6_keptBits_14 : decode cX6_keptBits 14 = .ok (.aload_n 0, 1) := by decide +kernel
theorem dX6_keptBits_15 : decode cX6_keptBits 15 = .ok (.getfield 28, 3) := by decide +kernel
theorem dX6_keptBits_18 : decode cX6_keptBits 18 = .ok (.iload_n 2, 1) := by decide +kernel
theorem dX6_keptBits_19 : decode cX6_keptBits 19 = .ok (.iaload, 1) := by decide +kernel
theorem dX6_keptBits_20 : decode cX6_keptBits 20 = .ok (.ishl, 1) := by decide +kernel
theorem dX6_keptBits_21 : decode cX6_keptBits 21 = .ok (.ior, 1) := by decide +kernel
theorem dX6_keptBits_22 : decode cX6_keptBits 22 = .ok (.istore_n 1, 1) := by decide +kernel
theorem dX6_keptBits_23 : decode cX6_keptBits 23 = .ok (.iinc 2 1, 3) := by decide +kernel
theorem dX6_keptBits_26 : decode cX6_keptBits 26 = .ok (.goto (-22), 3) := by decide +kernel
theorem dX6_keptBits_29 : decode cX6_keptBits 29 = .ok (.iload_n 1, 1) := by decide +kernel
theorem dX6_keptBits_30 : decode cX6_keptBits 30 = .ok (.ireturn, 1) := by decide +kernel
theorem dX6_tellWay_0 : decode cX6_tellWay 0 = .ok (.aload_n 0, 1) := by decide +kernel
theorem dX6_tellWay_1 : decode cX6_tellWay 1 = .ok (.aload_n 1, 1) := by decide +kernel
theorem dX6_tellWay_2 : decode cX6_tellWay 2 = .ok (.invokevirtual 104, 3) := by decide +kernel
theorem dX6_tellWay_5 : decode cX6_tellWay 5 = .ok (.istore_n 2, 1) := by decide +kernel
theorem dX6_tellWay_6 : decode cX6_tellWay 6 = .ok (.iload_n 2, 1) := by decide +kernel
theorem dX6_tellWay_7 : decode cX6_tellWay 7 = .ok (.iconst (-1), 1) := by decide +kernel
theorem dX6_tellWay_8 : decode cX6_tellWay 8 = .ok (.if_icmp .ne 5, 3) := by decide +kernel
theorem dX6_tellWay_11 : decode cX6_tellWay 11 = .ok (.iconst (-1), 1) := by decide +kernel
theorem dX6_tellWay_12 : decode cX6_tellWay 12 = .ok (.ireturn, 1) := by decide +kernel
theorem dX6_tellWay_13 : decode cX6_tellWay 13 = .ok (.aload_n 0, 1) := by decide +kernel
theorem dX6_tellWay_14 : decode cX6_tellWay 14 = .ok (.getfield 85, 3) := by decide +kernel
theorem dX6_tellWay_17 : decode cX6_tellWay 17 = .ok (.iconst 2, 1) := by decide +kernel
theorem dX6_tellWay_18 : decode cX6_tellWay 18 = .ok (.if_icmp .ge 8, 3) := by decide +kernel
theorem dX6_tellWay_21 : decode cX6_tellWay 21 = .ok (.aload_n 0, 1) := by decide +kernel
theorem dX6_tellWay_22 : decode cX6_tellWay 22 = .ok (.getfield 85, 3) := by decide +kernel
theorem dX6_tellWay_25 : decode cX6_tellWay 25 = .ok (.ireturn, 1) := by decide +kernel
theorem dX6_tellWay_26 : decode cX6_tellWay 26 = .ok (.iload_n 2, 1) := by decide +kernel
theorem dX6_tellWay_27 : decode cX6_tellWay 27 = .ok (.ifCond .ne 8, 3) := by decide +kernel
theorem dX6_tellWay_30 : decode cX6_tellWay 30 = .ok (.bipush 12, 2) := by decide +kernel
theorem dX6_tellWay_32 : decode cX6_tellWay 32 = .ok (.goto 5, 3) := by decide +kernel
theorem dX6_tellWay_35 : decode cX6_tellWay 35 = .ok (.bipush 21, 2) := by decide +kernel
theorem dX6_tellWay_37 : decode cX6_tellWay 37 = .ok (.ireturn, 1) := by decide +kernel
def f_X6_gatherHeld_74 (r0 : Nat) (x1 : Int32) (x2 : Int32) (D : Dm) : Option Dm := if x2 = x1 then (some D) else (gd (inB (D r0 2) 2) (lt (ud D (r0 + 3) (Int32.toNatClampNeg (D r0 2)) x2) fun D3 => lt (ud D3 r0 2 ((D3 r0 2) + 1)) fun D5 => some D5))
def f_X6_gatherHeld (r0 : Nat) (D : Dm) : Option Dm := lt (mnI (D (r0 + 2) 0) (D (r0 + 2) 1)) fun y3 => lt (mxI (D (r0 + 2) 0) (D (r0 + 2) 1)) fun y7 => lt (ud D r0 2 0) fun D9 => if y3 = (-1) then (f_X6_gatherHeld_74 r0 y3 y7 D9) else (gd (inB (D9 r0 2) 2) (lt (ud D9 (r0 + 3) (Int32.toNatClampNeg (D9 r0 2)) y3) fun D13 => lt (ud D13 r0 2 ((D13 r0 2) + 1)) fun D15 => f_X6_gatherHeld_74 r0 y3 y7 D15))
def f_X6_noteShown_75 (k3 : Nat → Int32 → Int32 → Int32 → Dm → Option Dm) (r0 : Nat) (x2 : Int32) (x3 : Int32) (x4 : Int32) (D : Dm) : Option Dm := lt (x4 + 1) fun y1 => k3 r0 x2 x3 y1 D
def f_X6_noteShown_3_b (k3 : Nat → Int32 → Int32 → Int32 → Dm → Option Dm) (r0 : Nat) (x2 : Int32) (x3 : Int32) (x4 : Int32) (D : Dm) : Option Dm := if (D r0 2) ≤ x4 then (some D) else (gd (inB x4 2) (if (D (r0 + 4) (Int32.toNatClampNeg x4)) = (-1) then (gd (inB x2 10) (bI (f_X0_firstShowing x3 (ar_77 (Int32.toNatClampNeg x2)) (x4 + 1) (r0 + 3) 2 (D r0 2) D) fun y7 D5 => gd (inB x4 2) (lt (ud D5 (r0 + 5) (Int32.toNatClampNeg x4) y7) fun D9 => gd (inB x4 2) (if (D9 (r0 + 5) (Int32.toNatClampNeg x4)) = (-1) then (f_X6_noteShown_75 k3 r0 x2 x3 x4 D9) else (gd (inB x4 2) (lt (ud D9 (r0 + 4) (Int32.toNatClampNeg x4) x2) fun D14 => f_X6_noteShown_75 k3 r0 x2 x3 x4 D14)))))) else (f_X6_noteShown_75 k3 r0 x2 x3 x4 D)))
def f_X6_noteShown_3 : Nat → Nat → Int32 → Int32 → Int32 → Dm → Option Dm
  | 0, _, _, _, _, _ => none
  | n + 1, r0, x2, x3, x4, D => f_X6_noteShown_3_b (f_X6_noteShown_3 n) r0 x2 x3 x4 D
def f_X6_noteShown (r0 : Nat) (x2 : Int32) (x3 : Int32) (D : Dm) : Option Dm := f_X6_noteShown_3 FU r0 x2 x3 0 D
def f_X6_gatherKept_50 (k7 : Nat → Int32 → Dm → Option Dm) (r0 : Nat) (x1 : Int32) (D : Dm) : Option Dm := lt (x1 + 1) fun y1 => k7 r0 y1 D
def f_X6_gatherKept_7_b (k7 : Nat → Int32 → Dm → Option Dm) (r0 : Nat) (x1 : Int32) (D : Dm) : Option Dm := if (D r0 2) ≤ x1 then (lt (ud D (r0 + 7) 0 (D (r0 + 6) 1)) fun D4 => lt (ud D4 (r0 + 7) 1 (D4 (r0 + 6) 0)) fun D8 => some D8) else (gd (inB x1 2) (if (D (r0 + 4) (Int32.toNatClampNeg x1)) = (-1) then (f_X6_gatherKept_50 k7 r0 x1 D) else (gd (inB x1 2) (gd (inB (D r0 6) 2) (lt (ud D (r0 + 6) (Int32.toNatClampNeg (D r0 6)) (D (r0 + 3) (Int32.toNatClampNeg x1))) fun D14 => lt (ud D14 r0 6 ((D14 r0 6) + 1)) fun D16 => f_X6_gatherKept_50 k7 r0 x1 D16)))))
def f_X6_gatherKept_7 : Nat → Nat → Int32 → Dm → Option Dm
  | 0, _, _, _ => none
  | n + 1, r0, x1, D => f_X6_gatherKept_7_b (f_X6_gatherKept_7 n) r0 x1 D
def f_X6_gatherKept (r0 : Nat) (D : Dm) : Option Dm := lt (ud D r0 6 0) fun D1 => f_X6_gatherKept_7 FU r0 0 D1
def f_X6_look_179 (k99 : Nat → Int32 → Dm → Option Dm) (r0 : Nat) (x3 : Int32) (xs0 : Int32) (xs1 : Int32) (rs2 : Nat) (ns2 : Nat) (D : Dm) : Option Dm := gd (inB xs1 ns2) (lt (ud D rs2 (Int32.toNatClampNeg xs1) xs0) fun D2 => lt (x3 + 1) fun y4 => k99 r0 y4 D2)
def f_X6_look_99_b (k99 : Nat → Int32 → Dm → Option Dm) (r0 : Nat) (x3 : Int32) (D : Dm) : Option Dm := if (D r0 10) ≤ x3 then (some D) else (gd (inB x3 10) (bI (f_X0_answers (r0 + 1) (ar_77 (Int32.toNatClampNeg x3)) (r0 + 6) 2 (D r0 6) D) fun y5 D3 => gd (inB x3 10) (lt (ud D3 (r0 + 8) (Int32.toNatClampNeg x3) y5) fun D7 => if 2 ≤ (D7 r0 6) then (gd (inB x3 10) (bI (f_X0_answers (r0 + 1) (ar_77 (Int32.toNatClampNeg x3)) (r0 + 7) 2 (D7 r0 6) D7) fun y13 D11 => f_X6_look_179 k99 r0 x3 y13 x3 (r0 + 9) 10 D11)) else (gd (inB x3 10) (f_X6_look_179 k99 r0 x3 (D7 (r0 + 8) (Int32.toNatClampNeg x3)) x3 (r0 + 9) 10 D7)))))
def f_X6_look_99 : Nat → Nat → Int32 → Dm → Option Dm
  | 0, _, _, _ => none
  | n + 1, r0, x3, D => f_X6_look_99_b (f_X6_look_99 n) r0 x3 D
def f_X6_look_85 (r0 : Nat) (D : Dm) : Option Dm := bV (f_X6_gatherKept r0 D) fun D1 => lt (ud D1 r0 10 (D1 76 2)) fun D3 => f_X6_look_99 FU r0 0 D3
def f_X6_look_36_b (k36 : Nat → Int32 → Dm → Option Dm) (r0 : Nat) (x3 : Int32) (D : Dm) : Option Dm := if (D 76 2) ≤ x3 then (f_X6_look_85 r0 D) else (if (D r0 2) ≤ 0 then (f_X6_look_85 r0 D) else (gd (inB x3 10) (bI (f_X0_answers (r0 + 1) (ar_77 (Int32.toNatClampNeg x3)) (r0 + 3) 2 (D r0 2) D) fun y6 D4 => bV (f_X6_noteShown r0 x3 y6 D4) fun D7 => lt (x3 + 1) fun y9 => k36 r0 y9 D7)))
def f_X6_look_36 : Nat → Nat → Int32 → Dm → Option Dm
  | 0, _, _, _ => none
  | n + 1, r0, x3, D => f_X6_look_36_b (f_X6_look_36 n) r0 x3 D
def f_X6_look (r0 : Nat) (r2 : Nat) (D : Dm) : Option Dm := bV (f_X9_walk_m 9 (r0 + 1) r2 (D r2 3) D) fun D1 => bV (f_X6_gatherHeld r0 D1) fun D3 => lt (ud D3 (r0 + 4) 0 (-1)) fun D6 => lt (ud D6 (r0 + 4) 1 (-1)) fun D9 => f_X6_look_36 FU r0 0 D9
def f_X6_wayTo_94 (k32 : Nat → Nat → Int32 → Int32 → Int32 → Dm → Option (Int32 × Dm)) (r0 : Nat) (r1 : Nat) (x2 : Int32) (x4 : Int32) (xs0 : Int32) (D : Dm) : Option (Int32 × Dm) := lt (x4 + 1) fun y1 => k32 r0 r1 x2 xs0 y1 D
def f_X6_wayTo_93 (k32 : Nat → Nat → Int32 → Int32 → Int32 → Dm → Option (Int32 × Dm)) (r0 : Nat) (r1 : Nat) (x2 : Int32) (x4 : Int32) (D : Dm) : Option (Int32 × Dm) := f_X6_wayTo_94 k32 r0 r1 x2 x4 0 D
def f_X6_wayTo_67 (k32 : Nat → Nat → Int32 → Int32 → Int32 → Dm → Option (Int32 × Dm)) (r0 : Nat) (r1 : Nat) (x3 : Int32) (x4 : Int32) (xs0 : Int32) (D : Dm) : Option (Int32 × Dm) := if x3 = 0 then (f_X6_wayTo_93 k32 r0 r1 xs0 x4 D) else (gd (inB x4 10) (gd (inB x4 10) (if (D (r0 + 8) (Int32.toNatClampNeg x4)) = (D (r1 + 9) (Int32.toNatClampNeg x4)) then (f_X6_wayTo_94 k32 r0 r1 xs0 x4 1 D) else (f_X6_wayTo_93 k32 r0 r1 xs0 x4 D))))
def f_X6_wayTo_66 (k32 : Nat → Nat → Int32 → Int32 → Int32 → Dm → Option (Int32 × Dm)) (r0 : Nat) (r1 : Nat) (x3 : Int32) (x4 : Int32) (D : Dm) : Option (Int32 × Dm) := f_X6_wayTo_67 k32 r0 r1 x3 x4 0 D
def f_X6_wayTo_32_b (k32 : Nat → Nat → Int32 → Int32 → Int32 → Dm → Option (Int32 × Dm)) (r0 : Nat) (r1 : Nat) (x2 : Int32) (x3 : Int32) (x4 : Int32) (D : Dm) : Option (Int32 × Dm) := if (D r0 10) ≤ x4 then (if x2 = 0 then (if x3 = 0 then (some ((-1), D)) else (some (1, D))) else (some (0, D))) else (if x2 = 0 then (f_X6_wayTo_66 k32 r0 r1 x3 x4 D) else (gd (inB x4 10) (gd (inB x4 10) (if (D (r0 + 8) (Int32.toNatClampNeg x4)) = (D (r1 + 8) (Int32.toNatClampNeg x4)) then (f_X6_wayTo_67 k32 r0 r1 x3 x4 1 D) else (f_X6_wayTo_66 k32 r0 r1 x3 x4 D)))))
def f_X6_wayTo_32 : Nat → Nat → Nat → Int32 → Int32 → Int32 → Dm → Option (Int32 × Dm)
  | 0, _, _, _, _, _, _ => none
  | n + 1, r0, r1, x2, x3, x4, D => f_X6_wayTo_32_b (f_X6_wayTo_32 n) r0 r1 x2 x3 x4 D
def f_X6_wayTo_28 (r0 : Nat) (r1 : Nat) (x2 : Int32) (xs0 : Int32) (D : Dm) : Option (Int32 × Dm) := f_X6_wayTo_32 FU r0 r1 x2 xs0 0 D
def f_X6_wayTo (r0 : Nat) (r1 : Nat) (D : Dm) : Option (Int32 × Dm) := if (D r0 6) = (D r1 6) then (if (D r0 6) = 2 then (f_X6_wayTo_28 r0 r1 1 1 D) else (f_X6_wayTo_28 r0 r1 1 0 D)) else (some ((-1), D))
def f_X6_placeOf_2_b (k2 : Nat → Int32 → Int32 → Dm → Option (Int32 × Dm)) (r0 : Nat) (x1 : Int32) (x2 : Int32) (D : Dm) : Option (Int32 × Dm) := if (D r0 6) ≤ x2 then (some ((-1), D)) else (gd (inB x2 2) (if (D (r0 + 6) (Int32.toNatClampNeg x2)) = x1 then (some (x2, D)) else (lt (x2 + 1) fun y4 => k2 r0 x1 y4 D)))
def f_X6_placeOf_2 : Nat → Nat → Int32 → Int32 → Dm → Option (Int32 × Dm)
  | 0, _, _, _, _ => none
  | n + 1, r0, x1, x2, D => f_X6_placeOf_2_b (f_X6_placeOf_2 n) r0 x1 x2 D
def f_X6_placeOf (r0 : Nat) (x1 : Int32) (D : Dm) : Option (Int32 × Dm) := f_X6_placeOf_2 FU r0 x1 0 D
def f_X6_keptBits_4_b (k4 : Nat → Int32 → Int32 → Dm → Option (Int32 × Dm)) (r0 : Nat) (x1 : Int32) (x2 : Int32) (D : Dm) : Option (Int32 × Dm) := if (D r0 6) ≤ x2 then (some (x1, D)) else (gd (inB x2 2) (lt (x1 ||| (1 <<< ((D (r0 + 6) (Int32.toNatClampNeg x2)) &&& 31))) fun y3 => lt (x2 + 1) fun y5 => k4 r0 y3 y5 D))
def f_X6_keptBits_4 : Nat → Nat → Int32 → Int32 → Dm → Option (Int32 × Dm)
  | 0, _, _, _, _ => none
  | n + 1, r0, x1, x2, D => f_X6_keptBits_4_b (f_X6_keptBits_4 n) r0 x1 x2 D
def f_X6_keptBits (r0 : Nat) (D : Dm) : Option (Int32 × Dm) := f_X6_keptBits_4 FU r0 0 0 D
def f_X6_tellWay (r0 : Nat) (r1 : Nat) (D : Dm) : Option (Int32 × Dm) := bI (f_X6_wayTo r0 r1 D) fun y3 D1 => if y3 = (-1) then (some ((-1), D1)) else (if 2 ≤ (D1 r0 6) then (if y3 = 0 then (some (12, D1)) else (some (21, D1))) else (some ((D1 r0 6), D1)))
set_option maxHeartbeats 4000000 in
theorem w_X6_gatherHeld_74 {G : va_G} {tA : Nat → ClassId} {z : Nat} {E : Ex} {p : Program} {l : Launch} {e : Env} {s : State} {m : MethodId} {args : Array Value} {below : List Frame} {meth : Method} {c : Code} {D' : Dm} (O : Ok G tA z E cX6_gatherHeld RX6 3 p s m args c) (hr : meth.sig.returnType = none) (hlk : meth.locks = false) (r0 : Nat) (x1 : Int32) (x2 : Int32) (h0 : isC6 r0) (D : Dm) (h : f_X6_gatherHeld_74 r0 x1 x2 D = some D') : BV G tA z E p l e (rmC 1 0 0) s m args below meth c LAY D D' 3 74 [(0, .ref (z + r0)), (1, .int x1), (2, .int x2)] [] := by
  obtain ⟨hx, hb, -, hown, hts, -⟩ := id O
  unfold f_X6_gatherHeld_74 at h
  intro H locs ls hH hl
  refine lv_iload_n hx hb dX6_gatherHeld_74 rfl (lv_at hl 2 rfl) ?_
  refine lv_iload_n hx hb dX6_gatherHeld_75 rfl (lv_at hl 1 rfl) ?_
  refine lv_icmp_eq (tgt := 99) hx hb dX6_gatherHeld_76 (by decide) (fun c1 => ?_) (fun c1 => ?_)
  · have h := it_pos h c1
    obtain rfl := ret_v h
    exact h_vret O hr hlk hH dX6_gatherHeld_99
  · have h := it_neg h c1
    refine lv_aload_n hx hb dX6_gatherHeld_79 rfl (lv_at hl 0 rfl) ?_
    refine h_getr O hH h0.1 rfl fl_X6_18 dX6_gatherHeld_80 ?_
    refine lv_aload_n hx hb dX6_gatherHeld_83 rfl (lv_at hl 0 rfl) ?_
    refine h_geti O hH h0.1 rfl fl_X6_64 dX6_gatherHeld_84 ?_
    refine lv_iload_n hx hb dX6_gatherHeld_87 rfl (lv_at hl 2 rfl) ?_
    obtain ⟨g2, h⟩ := gd_some h
    obtain ⟨D3, e4, h⟩ := lt_some h
    refine h_iast O hH h0.2.2.2.1 g2 e4 dX6_gatherHeld_88 (fun H locs hH => ?_)
    refine lv_aload_n hx hb dX6_gatherHeld_89 rfl (lv_at hl 0 rfl) ?_
    refine lv_dup hx hb dX6_gatherHeld_90 rfl ?_
    refine h_geti O hH h0.1 rfl fl_X6_64 dX6_gatherHeld_91 ?_
    refine lv_iconst (v := 1) hx hb dX6_gatherHeld_94 (by decide) ?_
    refine lv_iadd hx hb dX6_gatherHeld_95 ?_
    obtain ⟨D5, e6, h⟩ := lt_some h
    refine h_puti O hH h0.1 rfl fl_X6_64 e6 dX6_gatherHeld_96 (fun H locs hH => ?_)
    obtain rfl := ret_v h
    exact h_vret O hr hlk hH dX6_gatherHeld_99
set_option maxHeartbeats 4000000 in
theorem w_X6_gatherHeld {G : va_G} {tA : Nat → ClassId} {z : Nat} {E : Ex} {p : Program} {l : Launch} {e : Env} {s : State} {m : MethodId} {args : Array Value} {below : List Frame} {meth : Method} {c : Code} {D' : Dm} (O : Ok G tA z E cX6_gatherHeld RX6 3 p s m args c) (hr : meth.sig.returnType = none) (hlk : meth.locks = false) (r0 : Nat) (h0 : isC6 r0) (D : Dm) (h : f_X6_gatherHeld r0 D = some D') : BV G tA z E p l e (rmC 1 0 0) s m args below meth c LAY D D' 3 0 [(0, .ref (z + r0))] [] := by
  obtain ⟨hx, hb, -, hown, hts, -⟩ := id O
  unfold f_X6_gatherHeld at h
  intro H locs ls hH hl
  refine lv_aload_n hx hb dX6_gatherHeld_0 rfl (lv_at hl 0 rfl) ?_
  refine h_getr O hH h0.1 rfl fl_X6_12 dX6_gatherHeld_1 ?_
  refine h_getr O hH h0.2.1 rfl fl_X6_88 dX6_gatherHeld_4 ?_
  refine lv_iconst (v := 0) hx hb dX6_gatherHeld_7 (by decide) ?_
  refine h_ialdk (k := 0) O hH h0.2.2.1 (by decide) (by decide) (by decide) dX6_gatherHeld_8 ?_
  refine lv_aload_n hx hb dX6_gatherHeld_9 rfl (lv_at hl 0 rfl) ?_
  refine h_getr O hH h0.1 rfl fl_X6_12 dX6_gatherHeld_10 ?_
  refine h_getr O hH h0.2.1 rfl fl_X6_88 dX6_gatherHeld_13 ?_
  refine lv_iconst (v := 1) hx hb dX6_gatherHeld_16 (by decide) ?_
  refine h_ialdk (k := 1) O hH h0.2.2.1 (by decide) (by decide) (by decide) dX6_gatherHeld_17 ?_
  refine h_min O hl.1 ww_889 (Nat.le_of_ble_eq_true rfl) (Nat.le_of_ble_eq_true rfl) dX6_gatherHeld_18 ?_
  refine lv_topi (fun y3 e4 => ?_)
  have h := lt_at e4 h
  refine lv_istore_n (lv' := [(1, .int y3), (0, .ref (z + r0))]) hx hb dX6_gatherHeld_21 rfl hl (by decide) rfl (fun ls hl => ?_)
  refine lv_aload_n hx hb dX6_gatherHeld_22 rfl (lv_at hl 1 rfl) ?_
  refine h_getr O hH h0.1 rfl fl_X6_12 dX6_gatherHeld_23 ?_
  refine h_getr O hH h0.2.1 rfl fl_X6_88 dX6_gatherHeld_26 ?_
  refine lv_iconst (v := 0) hx hb dX6_gatherHeld_29 (by decide) ?_
  refine h_ialdk (k := 0) O hH h0.2.2.1 (by decide) (by decide) (by decide) dX6_gatherHeld_30 ?_
  refine lv_aload_n hx hb dX6_gatherHeld_31 rfl (lv_at hl 1 rfl) ?_
  refine h_getr O hH h0.1 rfl fl_X6_12 dX6_gatherHeld_32 ?_
  refine h_getr O hH h0.2.1 rfl fl_X6_88 dX6_gatherHeld_35 ?_
  refine lv_iconst (v := 1) hx hb dX6_gatherHeld_38 (by decide) ?_
  refine h_ialdk (k := 1) O hH h0.2.2.1 (by decide) (by decide) (by decide) dX6_gatherHeld_39 ?_
  refine h_max O hl.1 ww_890 (Nat.le_of_ble_eq_true rfl) (Nat.le_of_ble_eq_true rfl) dX6_gatherHeld_40 ?_
  refine lv_topi (fun y7 e8 => ?_)
  have h := lt_at e8 h
  refine lv_istore_n (lv' := [(2, .int y7), (1, .int y3), (0, .ref (z + r0))]) hx hb dX6_gatherHeld_43 rfl hl (by decide) rfl (fun ls hl => ?_)
  refine lv_aload_n hx hb dX6_gatherHeld_44 rfl (lv_at hl 2 rfl) ?_
  refine lv_iconst (v := 0) hx hb dX6_gatherHeld_45 (by decide) ?_
  obtain ⟨D9, e10, h⟩ := lt_some h
  refine h_puti O hH h0.1 rfl fl_X6_64 e10 dX6_gatherHeld_46 (fun H locs hH => ?_)
  refine lv_iload_n hx hb dX6_gatherHeld_49 rfl (lv_at hl 1 rfl) ?_
  refine lv_iconst (v := (-1)) hx hb dX6_gatherHeld_50 (by decide) ?_
  refine lv_icmp_eq (tgt := 74) hx hb dX6_gatherHeld_51 (by decide) (fun c11 => ?_) (fun c11 => ?_)
  · have h := it_pos h c11
    exact w_X6_gatherHeld_74 O hr hlk _ _ _ h0 _ h _ _ _ hH (lv_sub hl [2, 1, 0] rfl)
  · have h := it_neg h c11
    refine lv_aload_n hx hb dX6_gatherHeld_54 rfl (lv_at hl 2 rfl) ?_
    refine h_getr O hH h0.1 rfl fl_X6_18 dX6_gatherHeld_55 ?_
    refine lv_aload_n hx hb dX6_gatherHeld_58 rfl (lv_at hl 2 rfl) ?_
    refine h_geti O hH h0.1 rfl fl_X6_64 dX6_gatherHeld_59 ?_
    refine lv_iload_n hx hb dX6_gatherHeld_62 rfl (lv_at hl 1 rfl) ?_
    obtain ⟨g12, h⟩ := gd_some h
    obtain ⟨D13, e14, h⟩ := lt_some h
    refine h_iast O hH h0.2.2.2.1 g12 e14 dX6_gatherHeld_63 (fun H locs hH => ?_)
    refine lv_aload_n hx hb dX6_gatherHeld_64 rfl (lv_at hl 2 rfl) ?_
    refine lv_dup hx hb dX6_gatherHeld_65 rfl ?_
    refine h_geti O hH h0.1 rfl fl_X6_64 dX6_gatherHeld_66 ?_
    refine lv_iconst (v := 1) hx hb dX6_gatherHeld_69 (by decide) ?_
    refine lv_iadd hx hb dX6_gatherHeld_70 ?_
    obtain ⟨D15, e16, h⟩ := lt_some h
    refine h_puti O hH h0.1 rfl fl_X6_64 e16 dX6_gatherHeld_71 (fun H locs hH => ?_)
    exact w_X6_gatherHeld_74 O hr hlk _ _ _ h0 _ h _ _ _ hH (lv_sub hl [2, 1, 0] rfl)
set_option maxHeartbeats 4000000 in
theorem c_X6_gatherHeld {l : Launch} {G : va_G} {tA : Nat → ClassId} {z : Nat} {E : Ex} {r0 : Nat} (h0 : isC6 r0) {D D' : Dm} (h : f_X6_gatherHeld r0 D = some D') : CtV l yX6_gatherHeld cX6_gatherHeld 3 G tA z E 1 0 0 [.ref (z + r0)] LAY D LAY D' :=
  ct_BV (by decide +kernel) (Nat.le_of_ble_eq_true rfl) (fun _ _ _ _ _ _ _ _ O hr hlk => w_X6_gatherHeld O hr hlk _ h0 _ h)
set_option maxHeartbeats 4000000 in
theorem w_X6_noteShown_75 {G : va_G} {tA : Nat → ClassId} {z : Nat} {E : Ex} {p : Program} {l : Launch} {e : Env} {s : State} {m : MethodId} {args : Array Value} {below : List Frame} {meth : Method} {c : Code} {D' : Dm} (O : Ok G tA z E cX6_noteShown RX6 5 p s m args c) (hr : meth.sig.returnType = none) (hlk : meth.locks = false) {k3 : Nat → Int32 → Int32 → Int32 → Dm → Option Dm} (hk3 : ∀ (r0 : Nat) (x2 : Int32) (x3 : Int32) (x4 : Int32) (h0 : isC6 r0) (D : Dm), k3 r0 x2 x3 x4 D = some D' → BV G tA z E p l e (rmC 3 0 0) s m args below meth c LAY D D' 5 3 [(0, .ref (z + r0)), (1, .ref (z + 76)), (2, .int x2), (3, .int x3), (4, .int x4)] []) (r0 : Nat) (x2 : Int32) (x3 : Int32) (x4 : Int32) (h0 : isC6 r0) (D : Dm) (h : f_X6_noteShown_75 k3 r0 x2 x3 x4 D = some D') : BV G tA z E p l e (rmC 3 0 0) s m args below meth c LAY D D' 5 75 [(0, .ref (z + r0)), (1, .ref (z + 76)), (2, .int x2), (3, .int x3), (4, .int x4)] [] := by
  obtain ⟨hx, hb, -, hown, hts, -⟩ := id O
  unfold f_X6_noteShown_75 at h
  intro H locs ls hH hl
  obtain ⟨y1, e2, h⟩ := lt_some h
  refine lv_iinc (v := y1) (lv' := [(4, .int y1), (0, .ref (z + r0)), (1, .ref (z + 76)), (2, .int x2), (3, .int x3)]) hx hb dX6_noteShown_75 hl (k := 4) rfl (by rw [e2]; rfl) (by decide) rfl (fun ls hl => ?_)
  refine lv_goto (tgt := 3) hx hb dX6_noteShown_78 (by decide) ?_
  exact hk3 _ _ _ _ h0 _ h _ _ _ hH (lv_sub hl [1, 2, 3, 4, 0] rfl)
set_option maxHeartbeats 4000000 in
theorem w_X6_noteShown_3_b {G : va_G} {tA : Nat → ClassId} {z : Nat} {E : Ex} {p : Program} {l : Launch} {e : Env} {s : State} {m : MethodId} {args : Array Value} {below : List Frame} {meth : Method} {c : Code} {D' : Dm} (O : Ok G tA z E cX6_noteShown RX6 5 p s m args c) (hr : meth.sig.returnType = none) (hlk : meth.locks = false) {k3 : Nat → Int32 → Int32 → Int32 → Dm → Option Dm} (hk3 : ∀ (r0 : Nat) (x2 : Int32) (x3 : Int32) (x4 : Int32) (h0 : isC6 r0) (D : Dm), k3 r0 x2 x3 x4 D = some D' → BV G tA z E p l e (rmC 3 0 0) s m args below meth c LAY D D' 5 3 [(0, .ref (z + r0)), (1, .ref (z + 76)), (2, .int x2), (3, .int x3), (4, .int x4)] []) (r0 : Nat) (x2 : Int32) (x3 : Int32) (x4 : Int32) (h0 : isC6 r0) (D : Dm) (h : f_X6_noteShown_3_b k3 r0 x2 x3 x4 D = some D') : BV G tA z E p l e (rmC 3 0 0) s m args below meth c LAY D D' 5 3 [(0, .ref (z + r0)), (1, .ref (z + 76)), (2, .int x2), (3, .int x3), (4, .int x4)] [] := by
  obtain ⟨hx, hb, -, hown, hts, -⟩ := id O
  unfold f_X6_noteShown_3_b at h
  intro H locs ls hH hl
  refine lv_iload hx hb dX6_noteShown_3 (lv_at hl 4 rfl) ?_
  refine lv_aload_n hx hb dX6_noteShown_5 rfl (lv_at hl 0 rfl) ?_
  refine h_geti O hH h0.1 rfl fl_X6_64 dX6_noteShown_6 ?_
  refine lv_icmp_ge (tgt := 81) hx hb dX6_noteShown_9 (by decide) (fun c1 => ?_) (fun c1 => ?_)
  · have h := it_pos h c1
    obtain rfl := ret_v h
    exact h_vret O hr hlk hH dX6_noteShown_81
  · have h := it_neg h c1
    refine lv_aload_n hx hb dX6_noteShown_12 rfl (lv_at hl 0 rfl) ?_
    refine h_getr O hH h0.1 rfl fl_X6_22 dX6_noteShown_13 ?_
    refine lv_iload hx hb dX6_noteShown_16 (lv_at hl 4 rfl) ?_
    obtain ⟨g2, h⟩ := gd_some h
    refine h_iald O hH h0.2.2.2.2.1 g2 dX6_noteShown_18 ?_
    refine lv_iconst (v := (-1)) hx hb dX6_noteShown_19 (by decide) ?_
    refine lv_icmp_eq (tgt := 26) hx hb dX6_noteShown_20 (by decide) (fun c3 => ?_) (fun c3 => ?_)
    · have h := it_pos h c3
      refine lv_aload_n hx hb dX6_noteShown_26 rfl (lv_at hl 0 rfl) ?_
      refine h_getr O hH h0.1 rfl fl_X6_25 dX6_noteShown_27 ?_
      refine lv_iload hx hb dX6_noteShown_30 (lv_at hl 4 rfl) ?_
      refine lv_aload_n hx hb dX6_noteShown_32 rfl (lv_at hl 1 rfl) ?_
      refine lv_iload_n hx hb dX6_noteShown_33 rfl (lv_at hl 3 rfl) ?_
      refine lv_aload_n hx hb dX6_noteShown_34 rfl (lv_at hl 1 rfl) ?_
      refine h_getr O hH ly_76 rfl fl_X6_67 dX6_noteShown_35 ?_
      refine lv_iload_n hx hb dX6_noteShown_38 rfl (lv_at hl 2 rfl) ?_
      obtain ⟨g4, h⟩ := gd_some h
      refine h_aald O hH ly_77 rfl g4 (ar_77_r g4) dX6_noteShown_39 ?_
      refine lv_iload hx hb dX6_noteShown_40 (lv_at hl 4 rfl) ?_
      refine lv_iconst (v := 1) hx hb dX6_noteShown_42 (by decide) ?_
      refine lv_iadd hx hb dX6_noteShown_43 ?_
      refine lv_aload_n hx hb dX6_noteShown_44 rfl (lv_at hl 0 rfl) ?_
      refine h_getr O hH h0.1 rfl fl_X6_18 dX6_noteShown_45 ?_
      refine lv_aload_n hx hb dX6_noteShown_48 rfl (lv_at hl 0 rfl) ?_
      refine h_geti O hH h0.1 rfl fl_X6_64 dX6_noteShown_49 ?_
      obtain ⟨y7, D5, hc6, h⟩ := bI_some h
      refine h_callVi (As := [.int x3, .ref (z + (ar_77 (Int32.toNatClampNeg x2))), .int (x4 + 1), .ref (z + (r0 + 3)), .int (D r0 2)]) (rest := [.int x4, .ref (z + (r0 + 5))]) O hH (c_X0_firstShowing (ar_77_c g4) h0.2.2.2.1 hc6) ml_X6_100 ly_76 rfl rfl hl.1 rfl ⟨Nat.le_of_ble_eq_true rfl, Nat.le_of_ble_eq_true rfl⟩ (Nat.le_of_ble_eq_true rfl) dX6_noteShown_52 (fun H locs hH => ?_)
      obtain ⟨g8, h⟩ := gd_some h
      obtain ⟨D9, e10, h⟩ := lt_some h
      refine h_iast O hH h0.2.2.2.2.2.1 g8 e10 dX6_noteShown_55 (fun H locs hH => ?_)
      refine lv_aload_n hx hb dX6_noteShown_56 rfl (lv_at hl 0 rfl) ?_
      refine h_getr O hH h0.1 rfl fl_X6_25 dX6_noteShown_57 ?_
      refine lv_iload hx hb dX6_noteShown_60 (lv_at hl 4 rfl) ?_
      obtain ⟨g11, h⟩ := gd_some h
      refine h_iald O hH h0.2.2.2.2.2.1 g11 dX6_noteShown_62 ?_
      refine lv_iconst (v := (-1)) hx hb dX6_noteShown_63 (by decide) ?_
      refine lv_icmp_eq (tgt := 75) hx hb dX6_noteShown_64 (by decide) (fun c12 => ?_) (fun c12 => ?_)
      · have h := it_pos h c12
        exact w_X6_noteShown_75 O hr hlk hk3 _ _ _ _ h0 _ h _ _ _ hH (lv_sub hl [0, 1, 2, 3, 4] rfl)
      · have h := it_neg h c12
        refine lv_aload_n hx hb dX6_noteShown_67 rfl (lv_at hl 0 rfl) ?_
        refine h_getr O hH h0.1 rfl fl_X6_22 dX6_noteShown_68 ?_
        refine lv_iload hx hb dX6_noteShown_71 (lv_at hl 4 rfl) ?_
        refine lv_iload_n hx hb dX6_noteShown_73 rfl (lv_at hl 2 rfl) ?_
        obtain ⟨g13, h⟩ := gd_some h
        obtain ⟨D14, e15, h⟩ := lt_some h
        refine h_iast O hH h0.2.2.2.2.1 g13 e15 dX6_noteShown_74 (fun H locs hH => ?_)
        exact w_X6_noteShown_75 O hr hlk hk3 _ _ _ _ h0 _ h _ _ _ hH (lv_sub hl [0, 1, 2, 3, 4] rfl)
    · have h := it_neg h c3
      refine lv_goto (tgt := 75) hx hb dX6_noteShown_23 (by decide) ?_
      exact w_X6_noteShown_75 O hr hlk hk3 _ _ _ _ h0 _ h _ _ _ hH (lv_sub hl [0, 1, 2, 3, 4] rfl)
set_option maxHeartbeats 4000000 in
theorem w_X6_noteShown_3 {G : va_G} {tA : Nat → ClassId} {z : Nat} {E : Ex} {p : Program} {l : Launch} {e : Env} {s : State} {m : MethodId} {args : Array Value} {below : List Frame} {meth : Method} {c : Code} {D' : Dm} (O : Ok G tA z E cX6_noteShown RX6 5 p s m args c) (hr : meth.sig.returnType = none) (hlk : meth.locks = false) : ∀ (n : Nat) (r0 : Nat) (x2 : Int32) (x3 : Int32) (x4 : Int32) (h0 : isC6 r0) (D : Dm) (h : f_X6_noteShown_3 n r0 x2 x3 x4 D = some D'), BV G tA z E p l e (rmC 3 0 0) s m args below meth c LAY D D' 5 3 [(0, .ref (z + r0)), (1, .ref (z + 76)), (2, .int x2), (3, .int x3), (4, .int x4)] [] := by
  intro n
  induction n with
  | zero => intro r0 x2 x3 x4 h0 D h; exact no_some h
  | succ n ih => intro r0 x2 x3 x4 h0 D h; exact w_X6_noteShown_3_b O hr hlk (fun r0 x2 x3 x4 h0 D h => ih r0 x2 x3 x4 h0 D h) r0 x2 x3 x4 h0 D h
set_option maxHeartbeats 4000000 in
theorem w_X6_noteShown {G : va_G} {tA : Nat → ClassId} {z : Nat} {E : Ex} {p : Program} {l : Launch} {e : Env} {s : State} {m : MethodId} {args : Array Value} {below : List Frame} {meth : Method} {c : Code} {D' : Dm} (O : Ok G tA z E cX6_noteShown RX6 5 p s m args c) (hr : meth.sig.returnType = none) (hlk : meth.locks = false) (r0 : Nat) (x2 : Int32) (x3 : Int32) (h0 : isC6 r0) (D : Dm) (h : f_X6_noteShown r0 x2 x3 D = some D') : BV G tA z E p l e (rmC 3 0 0) s m args below meth c LAY D D' 5 0 [(0, .ref (z + r0)), (1, .ref (z + 76)), (2, .int x2), (3, .int x3)] [] := by
  obtain ⟨hx, hb, -, hown, hts, -⟩ := id O
  unfold f_X6_noteShown at h
  intro H locs ls hH hl
  refine lv_iconst (v := 0) hx hb dX6_noteShown_0 (by decide) ?_
  refine lv_istore (lv' := [(4, .int 0), (0, .ref (z + r0)), (1, .ref (z + 76)), (2, .int x2), (3, .int x3)]) hx hb dX6_noteShown_1 hl (by decide) rfl (fun ls hl => ?_)
  exact w_X6_noteShown_3 O hr hlk FU _ _ _ _ h0 _ h _ _ _ hH (lv_sub hl [1, 2, 3, 4, 0] rfl)
set_option maxHeartbeats 4000000 in
theorem c_X6_noteShown {l : Launch} {G : va_G} {tA : Nat → ClassId} {z : Nat} {E : Ex} {r0 : Nat} {x2 : Int32} {x3 : Int32} (h0 : isC6 r0) {D D' : Dm} (h : f_X6_noteShown r0 x2 x3 D = some D') : CtV l yX6_noteShown cX6_noteShown 5 G tA z E 3 0 0 [.ref (z + r0), .ref (z + 76), .int x2, .int x3] LAY D LAY D' :=
  ct_BV (by decide +kernel) (Nat.le_of_ble_eq_true rfl) (fun _ _ _ _ _ _ _ _ O hr hlk => w_X6_noteShown O hr hlk _ _ _ h0 _ h)
set_option maxHeartbeats 4000000 in
theorem w_X6_gatherKept_50 {G : va_G} {tA : Nat → ClassId} {z : Nat} {E : Ex} {p : Program} {l : Launch} {e : Env} {s : State} {m : MethodId} {args : Array Value} {below : List Frame} {meth : Method} {c : Code} {D' : Dm} (O : Ok G tA z E cX6_gatherKept RX6 2 p s m args c) (hr : meth.sig.returnType = none) (hlk : meth.locks = false) {k7 : Nat → Int32 → Dm → Option Dm} (hk7 : ∀ (r0 : Nat) (x1 : Int32) (h0 : isC6 r0) (D : Dm), k7 r0 x1 D = some D' → BV G tA z E p l e (rmC 1 0 0) s m args below meth c LAY D D' 2 7 [(0, .ref (z + r0)), (1, .int x1)] []) (r0 : Nat) (x1 : Int32) (h0 : isC6 r0) (D : Dm) (h : f_X6_gatherKept_50 k7 r0 x1 D = some D') : BV G tA z E p l e (rmC 1 0 0) s m args below meth c LAY D D' 2 50 [(0, .ref (z + r0)), (1, .int x1)] [] := by
  obtain ⟨hx, hb, -, hown, hts, -⟩ := id O
  unfold f_X6_gatherKept_50 at h
  intro H locs ls hH hl
  obtain ⟨y1, e2, h⟩ := lt_some h
  refine lv_iinc (v := y1) (lv' := [(1, .int y1), (0, .ref (z + r0))]) hx hb dX6_gatherKept_50 hl (k := 1) rfl (by rw [e2]; rfl) (by decide) rfl (fun ls hl => ?_)
  refine lv_goto (tgt := 7) hx hb dX6_gatherKept_53 (by decide) ?_
  exact hk7 _ _ h0 _ h _ _ _ hH (lv_sub hl [1, 0] rfl)
set_option maxHeartbeats 4000000 in
theorem w_X6_gatherKept_7_b {G : va_G} {tA : Nat → ClassId} {z : Nat} {E : Ex} {p : Program} {l : Launch} {e : Env} {s : State} {m : MethodId} {args : Array Value} {below : List Frame} {meth : Method} {c : Code} {D' : Dm} (O : Ok G tA z E cX6_gatherKept RX6 2 p s m args c) (hr : meth.sig.returnType = none) (hlk : meth.locks = false) {k7 : Nat → Int32 → Dm → Option Dm} (hk7 : ∀ (r0 : Nat) (x1 : Int32) (h0 : isC6 r0) (D : Dm), k7 r0 x1 D = some D' → BV G tA z E p l e (rmC 1 0 0) s m args below meth c LAY D D' 2 7 [(0, .ref (z + r0)), (1, .int x1)] []) (r0 : Nat) (x1 : Int32) (h0 : isC6 r0) (D : Dm) (h : f_X6_gatherKept_7_b k7 r0 x1 D = some D') : BV G tA z E p l e (rmC 1 0 0) s m args below meth c LAY D D' 2 7 [(0, .ref (z + r0)), (1, .int x1)] [] := by
  obtain ⟨hx, hb, -, hown, hts, -⟩ := id O
  unfold f_X6_gatherKept_7_b at h
  intro H locs ls hH hl
  refine lv_iload_n hx hb dX6_gatherKept_7 rfl (lv_at hl 1 rfl) ?_
  refine lv_aload_n hx hb dX6_gatherKept_8 rfl (lv_at hl 0 rfl) ?_
  refine h_geti O hH h0.1 rfl fl_X6_64 dX6_gatherKept_9 ?_
  refine lv_icmp_ge (tgt := 56) hx hb dX6_gatherKept_12 (by decide) (fun c1 => ?_) (fun c1 => ?_)
  · have h := it_pos h c1
    refine lv_aload_n hx hb dX6_gatherKept_56 rfl (lv_at hl 0 rfl) ?_
    refine h_getr O hH h0.1 rfl fl_X6_31 dX6_gatherKept_57 ?_
    refine lv_iconst (v := 0) hx hb dX6_gatherKept_60 (by decide) ?_
    refine lv_aload_n hx hb dX6_gatherKept_61 rfl (lv_at hl 0 rfl) ?_
    refine h_getr O hH h0.1 rfl fl_X6_28 dX6_gatherKept_62 ?_
    refine lv_iconst (v := 1) hx hb dX6_gatherKept_65 (by decide) ?_
    refine h_ialdk (k := 1) O hH h0.2.2.2.2.2.2.1 (by decide) (by decide) (by decide) dX6_gatherKept_66 ?_
    obtain ⟨D4, e5, h⟩ := lt_some h
    refine h_iastk (k := 0) O hH h0.2.2.2.2.2.2.2.1 (by decide) (by decide) (by decide) e5 dX6_gatherKept_67 (fun H locs hH => ?_)
    refine lv_aload_n hx hb dX6_gatherKept_68 rfl (lv_at hl 0 rfl) ?_
    refine h_getr O hH h0.1 rfl fl_X6_31 dX6_gatherKept_69 ?_
    refine lv_iconst (v := 1) hx hb dX6_gatherKept_72 (by decide) ?_
    refine lv_aload_n hx hb dX6_gatherKept_73 rfl (lv_at hl 0 rfl) ?_
    refine h_getr O hH h0.1 rfl fl_X6_28 dX6_gatherKept_74 ?_
    refine lv_iconst (v := 0) hx hb dX6_gatherKept_77 (by decide) ?_
    refine h_ialdk (k := 0) O hH h0.2.2.2.2.2.2.1 (by decide) (by decide) (by decide) dX6_gatherKept_78 ?_
    obtain ⟨D8, e9, h⟩ := lt_some h
    refine h_iastk (k := 1) O hH h0.2.2.2.2.2.2.2.1 (by decide) (by decide) (by decide) e9 dX6_gatherKept_79 (fun H locs hH => ?_)
    obtain rfl := ret_v h
    exact h_vret O hr hlk hH dX6_gatherKept_80
  · have h := it_neg h c1
    refine lv_aload_n hx hb dX6_gatherKept_15 rfl (lv_at hl 0 rfl) ?_
    refine h_getr O hH h0.1 rfl fl_X6_22 dX6_gatherKept_16 ?_
    refine lv_iload_n hx hb dX6_gatherKept_19 rfl (lv_at hl 1 rfl) ?_
    obtain ⟨g10, h⟩ := gd_some h
    refine h_iald O hH h0.2.2.2.2.1 g10 dX6_gatherKept_20 ?_
    refine lv_iconst (v := (-1)) hx hb dX6_gatherKept_21 (by decide) ?_
    refine lv_icmp_eq (tgt := 50) hx hb dX6_gatherKept_22 (by decide) (fun c11 => ?_) (fun c11 => ?_)
    · have h := it_pos h c11
      exact w_X6_gatherKept_50 O hr hlk hk7 _ _ h0 _ h _ _ _ hH (lv_sub hl [0, 1] rfl)
    · have h := it_neg h c11
      refine lv_aload_n hx hb dX6_gatherKept_25 rfl (lv_at hl 0 rfl) ?_
      refine h_getr O hH h0.1 rfl fl_X6_28 dX6_gatherKept_26 ?_
      refine lv_aload_n hx hb dX6_gatherKept_29 rfl (lv_at hl 0 rfl) ?_
      refine h_geti O hH h0.1 rfl fl_X6_85 dX6_gatherKept_30 ?_
      refine lv_aload_n hx hb dX6_gatherKept_33 rfl (lv_at hl 0 rfl) ?_
      refine h_getr O hH h0.1 rfl fl_X6_18 dX6_gatherKept_34 ?_
      refine lv_iload_n hx hb dX6_gatherKept_37 rfl (lv_at hl 1 rfl) ?_
      obtain ⟨g12, h⟩ := gd_some h
      refine h_iald O hH h0.2.2.2.1 g12 dX6_gatherKept_38 ?_
      obtain ⟨g13, h⟩ := gd_some h
      obtain ⟨D14, e15, h⟩ := lt_some h
      refine h_iast O hH h0.2.2.2.2.2.2.1 g13 e15 dX6_gatherKept_39 (fun H locs hH => ?_)
      refine lv_aload_n hx hb dX6_gatherKept_40 rfl (lv_at hl 0 rfl) ?_
      refine lv_dup hx hb dX6_gatherKept_41 rfl ?_
      refine h_geti O hH h0.1 rfl fl_X6_85 dX6_gatherKept_42 ?_
      refine lv_iconst (v := 1) hx hb dX6_gatherKept_45 (by decide) ?_
      refine lv_iadd hx hb dX6_gatherKept_46 ?_
      obtain ⟨D16, e17, h⟩ := lt_some h
      refine h_puti O hH h0.1 rfl fl_X6_85 e17 dX6_gatherKept_47 (fun H locs hH => ?_)
      exact w_X6_gatherKept_50 O hr hlk hk7 _ _ h0 _ h _ _ _ hH (lv_sub hl [0, 1] rfl)
set_option maxHeartbeats 4000000 in
theorem w_X6_gatherKept_7 {G : va_G} {tA : Nat → ClassId} {z : Nat} {E : Ex} {p : Program} {l : Launch} {e : Env} {s : State} {m : MethodId} {args : Array Value} {below : List Frame} {meth : Method} {c : Code} {D' : Dm} (O : Ok G tA z E cX6_gatherKept RX6 2 p s m args c) (hr : meth.sig.returnType = none) (hlk : meth.locks = false) : ∀ (n : Nat) (r0 : Nat) (x1 : Int32) (h0 : isC6 r0) (D : Dm) (h : f_X6_gatherKept_7 n r0 x1 D = some D'), BV G tA z E p l e (rmC 1 0 0) s m args below meth c LAY D D' 2 7 [(0, .ref (z + r0)), (1, .int x1)] [] := by
  intro n
  induction n with
  | zero => intro r0 x1 h0 D h; exact no_some h
  | succ n ih => intro r0 x1 h0 D h; exact w_X6_gatherKept_7_b O hr hlk (fun r0 x1 h0 D h => ih r0 x1 h0 D h) r0 x1 h0 D h
set_option maxHeartbeats 4000000 in
theorem w_X6_gatherKept {G : va_G} {tA : Nat → ClassId} {z : Nat} {E : Ex} {p : Program} {l : Launch} {e : Env} {s : State} {m : MethodId} {args : Array Value} {below : List Frame} {meth : Method} {c : Code} {D' : Dm} (O : Ok G tA z E cX6_gatherKept RX6 2 p s m args c) (hr : meth.sig.returnType = none) (hlk : meth.locks = false) (r0 : Nat) (h0 : isC6 r0) (D : Dm) (h : f_X6_gatherKept r0 D = some D') : BV G tA z E p l e (rmC 1 0 0) s m args below meth c LAY D D' 2 0 [(0, .ref (z + r0))] [] := by
  obtain ⟨hx, hb, -, hown, hts, -⟩ := id O
  unfold f_X6_gatherKept at h
  intro H locs ls hH hl
  refine lv_aload_n hx hb dX6_gatherKept_0 rfl (lv_at hl 0 rfl) ?_
  refine lv_iconst (v := 0) hx hb dX6_gatherKept_1 (by decide) ?_
  obtain ⟨D1, e2, h⟩ := lt_some h
  refine h_puti O hH h0.1 rfl fl_X6_85 e2 dX6_gatherKept_2 (fun H locs hH => ?_)
  refine lv_iconst (v := 0) hx hb dX6_gatherKept_5 (by decide) ?_
  refine lv_istore_n (lv' := [(1, .int 0), (0, .ref (z + r0))]) hx hb dX6_gatherKept_6 rfl hl (by decide) rfl (fun ls hl => ?_)
  exact w_X6_gatherKept_7 O hr hlk FU _ _ h0 _ h _ _ _ hH (lv_sub hl [1, 0] rfl)
set_option maxHeartbeats 4000000 in
theorem c_X6_gatherKept {l : Launch} {G : va_G} {tA : Nat → ClassId} {z : Nat} {E : Ex} {r0 : Nat} (h0 : isC6 r0) {D D' : Dm} (h : f_X6_gatherKept r0 D = some D') : CtV l yX6_gatherKept cX6_gatherKept 2 G tA z E 1 0 0 [.ref (z + r0)] LAY D LAY D' :=
  ct_BV (by decide +kernel) (Nat.le_of_ble_eq_true rfl) (fun _ _ _ _ _ _ _ _ O hr hlk => w_X6_gatherKept O hr hlk _ h0 _ h)
set_option maxHeartbeats 4000000 in
theorem w_X6_look_179 {G : va_G} {tA : Nat → ClassId} {z : Nat} {E : Ex} {p : Program} {l : Launch} {e : Env} {s : State} {m : MethodId} {args : Array Value} {below : List Frame} {meth : Method} {c : Code} {D' : Dm} (O : Ok G tA z E cX6_look RX6 4 p s m args c) (hr : meth.sig.returnType = none) (hlk : meth.locks = false) {k99 : Nat → Int32 → Dm → Option Dm} (hk99 : ∀ (r0 : Nat) (x3 : Int32) (h0 : isC6 r0) (D : Dm), k99 r0 x3 D = some D' → BV G tA z E p l e (rmC 4 0 0) s m args below meth c LAY D D' 4 99 [(0, .ref (z + r0)), (1, .ref (z + 76)), (3, .int x3)] []) (r0 : Nat) (x3 : Int32) (xs0 : Int32) (xs1 : Int32) (rs2 : Nat) (ns2 : Nat) (h0 : isC6 r0) (hs2 : LAY[rs2]? = some (.inl (0, ns2))) (D : Dm) (h : f_X6_look_179 k99 r0 x3 xs0 xs1 rs2 ns2 D = some D') : BV G tA z E p l e (rmC 4 0 0) s m args below meth c LAY D D' 4 179 [(0, .ref (z + r0)), (1, .ref (z + 76)), (3, .int x3)] [.int xs0, .int xs1, .ref (z + rs2)] := by
  obtain ⟨hx, hb, -, hown, hts, -⟩ := id O
  unfold f_X6_look_179 at h
  intro H locs ls hH hl
  obtain ⟨g1, h⟩ := gd_some h
  obtain ⟨D2, e3, h⟩ := lt_some h
  refine h_iast O hH hs2 g1 e3 dX6_look_179 (fun H locs hH => ?_)
  obtain ⟨y4, e5, h⟩ := lt_some h
  refine lv_iinc (v := y4) (lv' := [(3, .int y4), (0, .ref (z + r0)), (1, .ref (z + 76))]) hx hb dX6_look_180 hl (k := 2) rfl (by rw [e5]; rfl) (by decide) rfl (fun ls hl => ?_)
  refine lv_goto (tgt := 99) hx hb dX6_look_183 (by decide) ?_
  exact hk99 _ _ h0 _ h _ _ _ hH (lv_sub hl [1, 2, 0] rfl)
set_option maxHeartbeats 4000000 in
theorem w_X6_look_99_b {G : va_G} {tA : Nat → ClassId} {z : Nat} {E : Ex} {p : Program} {l : Launch} {e : Env} {s : State} {m : MethodId} {args : Array Value} {below : List Frame} {meth : Method} {c : Code} {D' : Dm} (O : Ok G tA z E cX6_look RX6 4 p s m args c) (hr : meth.sig.returnType = none) (hlk : meth.locks = false) {k99 : Nat → Int32 → Dm → Option Dm} (hk99 : ∀ (r0 : Nat) (x3 : Int32) (h0 : isC6 r0) (D : Dm), k99 r0 x3 D = some D' → BV G tA z E p l e (rmC 4 0 0) s m args below meth c LAY D D' 4 99 [(0, .ref (z + r0)), (1, .ref (z + 76)), (3, .int x3)] []) (r0 : Nat) (x3 : Int32) (h0 : isC6 r0) (D : Dm) (h : f_X6_look_99_b k99 r0 x3 D = some D') : BV G tA z E p l e (rmC 4 0 0) s m args below meth c LAY D D' 4 99 [(0, .ref (z + r0)), (1, .ref (z + 76)), (3, .int x3)] [] := by
  obtain ⟨hx, hb, -, hown, hts, -⟩ := id O
  unfold f_X6_look_99_b at h
  intro H locs ls hH hl
  refine lv_iload_n hx hb dX6_look_99 rfl (lv_at hl 2 rfl) ?_
  refine lv_aload_n hx hb dX6_look_100 rfl (lv_at hl 0 rfl) ?_
  refine h_geti O hH h0.1 rfl fl_X6_82 dX6_look_101 ?_
  refine lv_icmp_ge (tgt := 186) hx hb dX6_look_104 (by decide) (fun c1 => ?_) (fun c1 => ?_)
  · have h := it_pos h c1
    obtain rfl := ret_v h
    exact h_vret O hr hlk hH dX6_look_186
  · have h := it_neg h c1
    refine lv_aload_n hx hb dX6_look_107 rfl (lv_at hl 0 rfl) ?_
    refine h_getr O hH h0.1 rfl fl_X6_34 dX6_look_108 ?_
    refine lv_iload_n hx hb dX6_look_111 rfl (lv_at hl 2 rfl) ?_
    refine lv_aload_n hx hb dX6_look_112 rfl (lv_at hl 1 rfl) ?_
    refine lv_aload_n hx hb dX6_look_113 rfl (lv_at hl 0 rfl) ?_
    refine h_getr O hH h0.1 rfl fl_X6_12 dX6_look_114 ?_
    refine lv_aload_n hx hb dX6_look_117 rfl (lv_at hl 1 rfl) ?_
    refine h_getr O hH ly_76 rfl fl_X6_67 dX6_look_118 ?_
    refine lv_iload_n hx hb dX6_look_121 rfl (lv_at hl 2 rfl) ?_
    obtain ⟨g2, h⟩ := gd_some h
    refine h_aald O hH ly_77 rfl g2 (ar_77_r g2) dX6_look_122 ?_
    refine lv_aload_n hx hb dX6_look_123 rfl (lv_at hl 0 rfl) ?_
    refine h_getr O hH h0.1 rfl fl_X6_28 dX6_look_124 ?_
    refine lv_aload_n hx hb dX6_look_127 rfl (lv_at hl 0 rfl) ?_
    refine h_geti O hH h0.1 rfl fl_X6_85 dX6_look_128 ?_
    obtain ⟨y5, D3, hc4, h⟩ := bI_some h
    refine h_callVi (As := [.ref (z + (r0 + 1)), .ref (z + (ar_77 (Int32.toNatClampNeg x3))), .ref (z + (r0 + 6)), .int (D r0 6)]) (rest := [.int x3, .ref (z + (r0 + 8))]) O hH (c_X0_answers ⟨h0.2.1, h0.2.2.1⟩ (ar_77_c g2) h0.2.2.2.2.2.2.1 hc4) ml_X6_71 ly_76 rfl rfl hl.1 rfl ⟨Nat.le_of_ble_eq_true rfl, Nat.le_of_ble_eq_true rfl⟩ (Nat.le_of_ble_eq_true rfl) dX6_look_131 (fun H locs hH => ?_)
    obtain ⟨g6, h⟩ := gd_some h
    obtain ⟨D7, e8, h⟩ := lt_some h
    refine h_iast O hH h0.2.2.2.2.2.2.2.2.1 g6 e8 dX6_look_134 (fun H locs hH => ?_)
    refine lv_aload_n hx hb dX6_look_135 rfl (lv_at hl 0 rfl) ?_
    refine h_getr O hH h0.1 rfl fl_X6_37 dX6_look_136 ?_
    refine lv_iload_n hx hb dX6_look_139 rfl (lv_at hl 2 rfl) ?_
    refine lv_aload_n hx hb dX6_look_140 rfl (lv_at hl 0 rfl) ?_
    refine h_geti O hH h0.1 rfl fl_X6_85 dX6_look_141 ?_
    refine lv_iconst (v := 2) hx hb dX6_look_144 (by decide) ?_
    refine lv_icmp_ge (tgt := 157) hx hb dX6_look_145 (by decide) (fun c9 => ?_) (fun c9 => ?_)
    · have h := it_pos h c9
      refine lv_aload_n hx hb dX6_look_157 rfl (lv_at hl 1 rfl) ?_
      refine lv_aload_n hx hb dX6_look_158 rfl (lv_at hl 0 rfl) ?_
      refine h_getr O hH h0.1 rfl fl_X6_12 dX6_look_159 ?_
      refine lv_aload_n hx hb dX6_look_162 rfl (lv_at hl 1 rfl) ?_
      refine h_getr O hH ly_76 rfl fl_X6_67 dX6_look_163 ?_
      refine lv_iload_n hx hb dX6_look_166 rfl (lv_at hl 2 rfl) ?_
      obtain ⟨g10, h⟩ := gd_some h
      refine h_aald O hH ly_77 rfl g10 (ar_77_r g10) dX6_look_167 ?_
      refine lv_aload_n hx hb dX6_look_168 rfl (lv_at hl 0 rfl) ?_
      refine h_getr O hH h0.1 rfl fl_X6_31 dX6_look_169 ?_
      refine lv_aload_n hx hb dX6_look_172 rfl (lv_at hl 0 rfl) ?_
      refine h_geti O hH h0.1 rfl fl_X6_85 dX6_look_173 ?_
      obtain ⟨y13, D11, hc12, h⟩ := bI_some h
      refine h_callVi (As := [.ref (z + (r0 + 1)), .ref (z + (ar_77 (Int32.toNatClampNeg x3))), .ref (z + (r0 + 7)), .int (D7 r0 6)]) (rest := [.int x3, .ref (z + (r0 + 9))]) O hH (c_X0_answers ⟨h0.2.1, h0.2.2.1⟩ (ar_77_c g10) h0.2.2.2.2.2.2.2.1 hc12) ml_X6_71 ly_76 rfl rfl hl.1 rfl ⟨Nat.le_of_ble_eq_true rfl, Nat.le_of_ble_eq_true rfl⟩ (Nat.le_of_ble_eq_true rfl) dX6_look_176 (fun H locs hH => ?_)
      exact w_X6_look_179 O hr hlk hk99 _ _ _ _ _ _ h0 h0.2.2.2.2.2.2.2.2.2 _ h _ _ _ hH (lv_sub hl [0, 1, 2] rfl)
    · have h := it_neg h c9
      refine lv_aload_n hx hb dX6_look_148 rfl (lv_at hl 0 rfl) ?_
      refine h_getr O hH h0.1 rfl fl_X6_34 dX6_look_149 ?_
      refine lv_iload_n hx hb dX6_look_152 rfl (lv_at hl 2 rfl) ?_
      obtain ⟨g14, h⟩ := gd_some h
      refine h_iald O hH h0.2.2.2.2.2.2.2.2.1 g14 dX6_look_153 ?_
      refine lv_goto (tgt := 179) hx hb dX6_look_154 (by decide) ?_
      exact w_X6_look_179 O hr hlk hk99 _ _ _ _ _ _ h0 h0.2.2.2.2.2.2.2.2.2 _ h _ _ _ hH (lv_sub hl [0, 1, 2] rfl)
set_option maxHeartbeats 4000000 in
theorem w_X6_look_99 {G : va_G} {tA : Nat → ClassId} {z : Nat} {E : Ex} {p : Program} {l : Launch} {e : Env} {s : State} {m : MethodId} {args : Array Value} {below : List Frame} {meth : Method} {c : Code} {D' : Dm} (O : Ok G tA z E cX6_look RX6 4 p s m args c) (hr : meth.sig.returnType = none) (hlk : meth.locks = false) : ∀ (n : Nat) (r0 : Nat) (x3 : Int32) (h0 : isC6 r0) (D : Dm) (h : f_X6_look_99 n r0 x3 D = some D'), BV G tA z E p l e (rmC 4 0 0) s m args below meth c LAY D D' 4 99 [(0, .ref (z + r0)), (1, .ref (z + 76)), (3, .int x3)] [] := by
  intro n
  induction n with
  | zero => intro r0 x3 h0 D h; exact no_some h
  | succ n ih => intro r0 x3 h0 D h; exact w_X6_look_99_b O hr hlk (fun r0 x3 h0 D h => ih r0 x3 h0 D h) r0 x3 h0 D h
set_option maxHeartbeats 4000000 in
theorem w_X6_look_85 {G : va_G} {tA : Nat → ClassId} {z : Nat} {E : Ex} {p : Program} {l : Launch} {e : Env} {s : State} {m : MethodId} {args : Array Value} {below : List Frame} {meth : Method} {c : Code} {D' : Dm} (O : Ok G tA z E cX6_look RX6 4 p s m args c) (hr : meth.sig.returnType = none) (hlk : meth.locks = false) (r0 : Nat) (h0 : isC6 r0) (D : Dm) (h : f_X6_look_85 r0 D = some D') : BV G tA z E p l e (rmC 4 0 0) s m args below meth c LAY D D' 4 85 [(0, .ref (z + r0)), (1, .ref (z + 76))] [] := by
  obtain ⟨hx, hb, -, hown, hts, -⟩ := id O
  unfold f_X6_look_85 at h
  intro H locs ls hH hl
  refine lv_aload_n hx hb dX6_look_85 rfl (lv_at hl 0 rfl) ?_
  obtain ⟨D1, hc2, h⟩ := bV_some h
  refine h_callVv (As := []) (rest := []) O hH (c_X6_gatherKept h0 hc2) ml_X6_79 h0.1 rfl rfl hl.1 rfl ⟨Nat.le_of_ble_eq_true rfl, Nat.le_of_ble_eq_true rfl⟩ (Nat.le_of_ble_eq_true rfl) dX6_look_86 (fun H locs hH => ?_)
  refine lv_aload_n hx hb dX6_look_89 rfl (lv_at hl 0 rfl) ?_
  refine lv_aload_n hx hb dX6_look_90 rfl (lv_at hl 1 rfl) ?_
  refine h_geti O hH ly_76 rfl fl_X6_61 dX6_look_91 ?_
  obtain ⟨D3, e4, h⟩ := lt_some h
  refine h_puti O hH h0.1 rfl fl_X6_82 e4 dX6_look_94 (fun H locs hH => ?_)
  refine lv_iconst (v := 0) hx hb dX6_look_97 (by decide) ?_
  refine lv_istore_n (lv' := [(3, .int 0), (0, .ref (z + r0)), (1, .ref (z + 76))]) hx hb dX6_look_98 rfl hl (by decide) rfl (fun ls hl => ?_)
  exact w_X6_look_99 O hr hlk FU _ _ h0 _ h _ _ _ hH (lv_sub hl [1, 2, 0] rfl)
set_option maxHeartbeats 4000000 in
theorem w_X6_look_36_b {G : va_G} {tA : Nat → ClassId} {z : Nat} {E : Ex} {p : Program} {l : Launch} {e : Env} {s : State} {m : MethodId} {args : Array Value} {below : List Frame} {meth : Method} {c : Code} {D' : Dm} (O : Ok G tA z E cX6_look RX6 4 p s m args c) (hr : meth.sig.returnType = none) (hlk : meth.locks = false) {k36 : Nat → Int32 → Dm → Option Dm} (hk36 : ∀ (r0 : Nat) (x3 : Int32) (h0 : isC6 r0) (D : Dm), k36 r0 x3 D = some D' → BV G tA z E p l e (rmC 4 0 0) s m args below meth c LAY D D' 4 36 [(0, .ref (z + r0)), (1, .ref (z + 76)), (3, .int x3)] []) (r0 : Nat) (x3 : Int32) (h0 : isC6 r0) (D : Dm) (h : f_X6_look_36_b k36 r0 x3 D = some D') : BV G tA z E p l e (rmC 4 0 0) s m args below meth c LAY D D' 4 36 [(0, .ref (z + r0)), (1, .ref (z + 76)), (3, .int x3)] [] := by
  obtain ⟨hx, hb, -, hown, hts, -⟩ := id O
  unfold f_X6_look_36_b at h
  intro H locs ls hH hl
  refine lv_iload_n hx hb dX6_look_36 rfl (lv_at hl 2 rfl) ?_
  refine lv_aload_n hx hb dX6_look_37 rfl (lv_at hl 1 rfl) ?_
  refine h_geti O hH ly_76 rfl fl_X6_61 dX6_look_38 ?_
  refine lv_icmp_ge (tgt := 85) hx hb dX6_look_41 (by decide) (fun c1 => ?_) (fun c1 => ?_)
  · have h := it_pos h c1
    exact w_X6_look_85 O hr hlk _ h0 _ h _ _ _ hH (lv_sub hl [0, 1] rfl)
  · have h := it_neg h c1
    refine lv_aload_n hx hb dX6_look_44 rfl (lv_at hl 0 rfl) ?_
    refine h_geti O hH h0.1 rfl fl_X6_64 dX6_look_45 ?_
    refine lv_if_le (tgt := 85) hx hb dX6_look_48 (by decide) (fun c2 => ?_) (fun c2 => ?_)
    · have h := it_pos h c2
      exact w_X6_look_85 O hr hlk _ h0 _ h _ _ _ hH (lv_sub hl [0, 1] rfl)
    · have h := it_neg h c2
      refine lv_aload_n hx hb dX6_look_51 rfl (lv_at hl 0 rfl) ?_
      refine lv_aload_n hx hb dX6_look_52 rfl (lv_at hl 1 rfl) ?_
      refine lv_iload_n hx hb dX6_look_53 rfl (lv_at hl 2 rfl) ?_
      refine lv_aload_n hx hb dX6_look_54 rfl (lv_at hl 1 rfl) ?_
      refine lv_aload_n hx hb dX6_look_55 rfl (lv_at hl 0 rfl) ?_
      refine h_getr O hH h0.1 rfl fl_X6_12 dX6_look_56 ?_
      refine lv_aload_n hx hb dX6_look_59 rfl (lv_at hl 1 rfl) ?_
      refine h_getr O hH ly_76 rfl fl_X6_67 dX6_look_60 ?_
      refine lv_iload_n hx hb dX6_look_63 rfl (lv_at hl 2 rfl) ?_
      obtain ⟨g3, h⟩ := gd_some h
      refine h_aald O hH ly_77 rfl g3 (ar_77_r g3) dX6_look_64 ?_
      refine lv_aload_n hx hb dX6_look_65 rfl (lv_at hl 0 rfl) ?_
      refine h_getr O hH h0.1 rfl fl_X6_18 dX6_look_66 ?_
      refine lv_aload_n hx hb dX6_look_69 rfl (lv_at hl 0 rfl) ?_
      refine h_geti O hH h0.1 rfl fl_X6_64 dX6_look_70 ?_
      obtain ⟨y6, D4, hc5, h⟩ := bI_some h
      refine h_callVi (As := [.ref (z + (r0 + 1)), .ref (z + (ar_77 (Int32.toNatClampNeg x3))), .ref (z + (r0 + 3)), .int (D r0 2)]) (rest := [.int x3, .ref (z + 76), .ref (z + r0)]) O hH (c_X0_answers ⟨h0.2.1, h0.2.2.1⟩ (ar_77_c g3) h0.2.2.2.1 hc5) ml_X6_71 ly_76 rfl rfl hl.1 rfl ⟨Nat.le_of_ble_eq_true rfl, Nat.le_of_ble_eq_true rfl⟩ (Nat.le_of_ble_eq_true rfl) dX6_look_73 (fun H locs hH => ?_)
      obtain ⟨D7, hc8, h⟩ := bV_some h
      refine h_callVv (As := [.ref (z + 76), .int x3, .int y6]) (rest := []) O hH (c_X6_noteShown h0 hc8) ml_X6_75 h0.1 rfl rfl hl.1 rfl ⟨Nat.le_of_ble_eq_true rfl, Nat.le_of_ble_eq_true rfl⟩ (Nat.le_of_ble_eq_true rfl) dX6_look_76 (fun H locs hH => ?_)
      obtain ⟨y9, e10, h⟩ := lt_some h
      refine lv_iinc (v := y9) (lv' := [(3, .int y9), (0, .ref (z + r0)), (1, .ref (z + 76))]) hx hb dX6_look_79 hl (k := 2) rfl (by rw [e10]; rfl) (by decide) rfl (fun ls hl => ?_)
      refine lv_goto (tgt := 36) hx hb dX6_look_82 (by decide) ?_
      exact hk36 _ _ h0 _ h _ _ _ hH (lv_sub hl [1, 2, 0] rfl)
set_option maxHeartbeats 4000000 in
theorem w_X6_look_36 {G : va_G} {tA : Nat → ClassId} {z : Nat} {E : Ex} {p : Program} {l : Launch} {e : Env} {s : State} {m : MethodId} {args : Array Value} {below : List Frame} {meth : Method} {c : Code} {D' : Dm} (O : Ok G tA z E cX6_look RX6 4 p s m args c) (hr : meth.sig.returnType = none) (hlk : meth.locks = false) : ∀ (n : Nat) (r0 : Nat) (x3 : Int32) (h0 : isC6 r0) (D : Dm) (h : f_X6_look_36 n r0 x3 D = some D'), BV G tA z E p l e (rmC 4 0 0) s m args below meth c LAY D D' 4 36 [(0, .ref (z + r0)), (1, .ref (z + 76)), (3, .int x3)] [] := by
  intro n
  induction n with
  | zero => intro r0 x3 h0 D h; exact no_some h
  | succ n ih => intro r0 x3 h0 D h; exact w_X6_look_36_b O hr hlk (fun r0 x3 h0 D h => ih r0 x3 h0 D h) r0 x3 h0 D h
set_option maxHeartbeats 4000000 in
theorem w_X6_look {G : va_G} {tA : Nat → ClassId} {z : Nat} {E : Ex} {p : Program} {l : Launch} {e : Env} {s : State} {m : MethodId} {args : Array Value} {below : List Frame} {meth : Method} {c : Code} {D' : Dm} (O : Ok G tA z E cX6_look RX6 4 p s m args c) (hr : meth.sig.returnType = none) (hlk : meth.locks = false) (r0 : Nat) (r2 : Nat) (h0 : isC6 r0) (h2 : isC10 r2) (D : Dm) (h : f_X6_look r0 r2 D = some D') : BV G tA z E p l e (rmC 4 0 0) s m args below meth c LAY D D' 4 0 [(0, .ref (z + r0)), (1, .ref (z + 76)), (2, .ref (z + r2))] [] := by
  obtain ⟨hx, hb, -, hown, hts, -⟩ := id O
  unfold f_X6_look at h
  intro H locs ls hH hl
  refine lv_aload_n hx hb dX6_look_0 rfl (lv_at hl 1 rfl) ?_
  refine h_getr O hH ly_76 rfl fl_X6_40 dX6_look_1 ?_
  refine lv_aload_n hx hb dX6_look_4 rfl (lv_at hl 0 rfl) ?_
  refine h_getr O hH h0.1 rfl fl_X6_12 dX6_look_5 ?_
  refine lv_aload_n hx hb dX6_look_8 rfl (lv_at hl 2 rfl) ?_
  refine lv_aload_n hx hb dX6_look_9 rfl (lv_at hl 2 rfl) ?_
  refine h_geti O hH h2.1 rfl fl_X6_46 dX6_look_10 ?_
  obtain ⟨D1, hc2, h⟩ := bV_some h
  refine h_callUv (As := [.ref (z + (r0 + 1)), .ref (z + r2), .int (D r2 3)]) (rest := []) O hH (c_X9_walk_m ic_9 ⟨h0.2.1, h0.2.2.1⟩ h2 hc2) mu_X6_52_4 ly_9 rfl rfl hl.1 rfl ⟨Nat.le_of_ble_eq_true rfl, Nat.le_of_ble_eq_true rfl⟩ (Nat.le_of_ble_eq_true rfl) dX6_look_13 (fun H locs hH => ?_)
  refine lv_aload_n hx hb dX6_look_16 rfl (lv_at hl 0 rfl) ?_
  obtain ⟨D3, hc4, h⟩ := bV_some h
  refine h_callVv (As := []) (rest := []) O hH (c_X6_gatherHeld h0 hc4) ml_X6_58 h0.1 rfl rfl hl.1 rfl ⟨Nat.le_of_ble_eq_true rfl, Nat.le_of_ble_eq_true rfl⟩ (Nat.le_of_ble_eq_true rfl) dX6_look_17 (fun H locs hH => ?_)
  refine lv_aload_n hx hb dX6_look_20 rfl (lv_at hl 0 rfl) ?_
  refine h_getr O hH h0.1 rfl fl_X6_22 dX6_look_21 ?_
  refine lv_iconst (v := 0) hx hb dX6_look_24 (by decide) ?_
  refine lv_iconst (v := (-1)) hx hb dX6_look_25 (by decide) ?_
  obtain ⟨D6, e7, h⟩ := lt_some h
  refine h_iastk (k := 0) O hH h0.2.2.2.2.1 (by decide) (by decide) (by decide) e7 dX6_look_26 (fun H locs hH => ?_)
  refine lv_aload_n hx hb dX6_look_27 rfl (lv_at hl 0 rfl) ?_
  refine h_getr O hH h0.1 rfl fl_X6_22 dX6_look_28 ?_
  refine lv_iconst (v := 1) hx hb dX6_look_31 (by decide) ?_
  refine lv_iconst (v := (-1)) hx hb dX6_look_32 (by decide) ?_
  obtain ⟨D9, e10, h⟩ := lt_some h
  refine h_iastk (k := 1) O hH h0.2.2.2.2.1 (by decide) (by decide) (by decide) e10 dX6_look_33 (fun H locs hH => ?_)
  refine lv_iconst (v := 0) hx hb dX6_look_34 (by decide) ?_
  refine lv_istore_n (lv' := [(3, .int 0), (0, .ref (z + r0)), (1, .ref (z + 76)), (2, .ref (z + r2))]) hx hb dX6_look_35 rfl hl (by decide) rfl (fun ls hl => ?_)
  exact w_X6_look_36 O hr hlk FU _ _ h0 _ h _ _ _ hH (lv_sub hl [1, 2, 0] rfl)
set_option maxHeartbeats 4000000 in
theorem c_X6_look {l : Launch} {G : va_G} {tA : Nat → ClassId} {z : Nat} {E : Ex} {r0 : Nat} {r2 : Nat} (h0 : isC6 r0) (h2 : isC10 r2) {D D' : Dm} (h : f_X6_look r0 r2 D = some D') : CtV l yX6_look cX6_look 4 G tA z E 4 0 0 [.ref (z + r0), .ref (z + 76), .ref (z + r2)] LAY D LAY D' :=
  ct_BV (by decide +kernel) (Nat.le_of_ble_eq_true rfl) (fun _ _ _ _ _ _ _ _ O hr hlk => w_X6_look O hr hlk _ _ h0 h2 _ h)
set_option maxHeartbeats 4000000 in
theorem w_X6_wayTo_94 {G : va_G} {tA : Nat → ClassId} {z : Nat} {E : Ex} {p : Program} {l : Launch} {e : Env} {s : State} {m : MethodId} {args : Array Value} {below : List Frame} {meth : Method} {c : Code} {r : Int32} {D' : Dm} (O : Ok G tA z E cX6_wayTo RX6 5 p s m args c) (hr : meth.sig.returnType = some .int) (hlk : meth.locks = false) {k32 : Nat → Nat → Int32 → Int32 → Int32 → Dm → Option (Int32 × Dm)} (hk32 : ∀ (r0 : Nat) (r1 : Nat) (x2 : Int32) (x3 : Int32) (x4 : Int32) (h0 : isC6 r0) (h1 : isC6 r1) (D : Dm), k32 r0 r1 x2 x3 x4 D = some (r, D') → BI G tA z E p l e (rmC 1 0 0) s m args below meth c LAY D r D' 5 32 [(0, .ref (z + r0)), (1, .ref (z + r1)), (2, .int x2), (3, .int x3), (4, .int x4)] []) (r0 : Nat) (r1 : Nat) (x2 : Int32) (x4 : Int32) (xs0 : Int32) (h0 : isC6 r0) (h1 : isC6 r1) (D : Dm) (h : f_X6_wayTo_94 k32 r0 r1 x2 x4 xs0 D = some (r, D')) : BI G tA z E p l e (rmC 1 0 0) s m args below meth c LAY D r D' 5 94 [(0, .ref (z + r0)), (1, .ref (z + r1)), (2, .int x2), (4, .int x4)] [.int xs0] := by
  obtain ⟨hx, hb, -, hown, hts, -⟩ := id O
  unfold f_X6_wayTo_94 at h
  intro H locs ls hH hl
  refine lv_istore_n (lv' := [(3, .int xs0), (0, .ref (z + r0)), (1, .ref (z + r1)), (2, .int x2), (4, .int x4)]) hx hb dX6_wayTo_94 rfl hl (by decide) rfl (fun ls hl => ?_)
  obtain ⟨y1, e2, h⟩ := lt_some h
  refine lv_iinc (v := y1) (lv' := [(4, .int y1), (3, .int xs0), (0, .ref (z + r0)), (1, .ref (z + r1)), (2, .int x2)]) hx hb dX6_wayTo_95 hl (k := 4) rfl (by rw [e2]; rfl) (by decide) rfl (fun ls hl => ?_)
  refine lv_goto (tgt := 32) hx hb dX6_wayTo_98 (by decide) ?_
  exact hk32 _ _ _ _ _ h0 h1 _ h _ _ _ hH (lv_sub hl [2, 3, 4, 1, 0] rfl)
set_option maxHeartbeats 4000000 in
theorem w_X6_wayTo_93 {G : va_G} {tA : Nat → ClassId} {z : Nat} {E : Ex} {p : Program} {l : Launch} {e : Env} {s : State} {m : MethodId} {args : Array Value} {below : List Frame} {meth : Method} {c : Code} {r : Int32} {D' : Dm} (O : Ok G tA z E cX6_wayTo RX6 5 p s m args c) (hr : meth.sig.returnType = some .int) (hlk : meth.locks = false) {k32 : Nat → Nat → Int32 → Int32 → Int32 → Dm → Option (Int32 × Dm)} (hk32 : ∀ (r0 : Nat) (r1 : Nat) (x2 : Int32) (x3 : Int32) (x4 : Int32) (h0 : isC6 r0) (h1 : isC6 r1) (D : Dm), k32 r0 r1 x2 x3 x4 D = some (r, D') → BI G tA z E p l e (rmC 1 0 0) s m args below meth c LAY D r D' 5 32 [(0, .ref (z + r0)), (1, .ref (z + r1)), (2, .int x2), (3, .int x3), (4, .int x4)] []) (r0 : Nat) (r1 : Nat) (x2 : Int32) (x4 : Int32) (h0 : isC6 r0) (h1 : isC6 r1) (D : Dm) (h : f_X6_wayTo_93 k32 r0 r1 x2 x4 D = some (r, D')) : BI G tA z E p l e (rmC 1 0 0) s m args below meth c LAY D r D' 5 93 [(0, .ref (z + r0)), (1, .ref (z + r1)), (2, .int x2), (4, .int x4)] [] := by
  obtain ⟨hx, hb, -, hown, hts, -⟩ := id O
  unfold f_X6_wayTo_93 at h
  intro H locs ls hH hl
  refine lv_iconst (v := 0) hx hb dX6_wayTo_93 (by decide) ?_
  exact w_X6_wayTo_94 O hr hlk hk32 _ _ _ _ _ h0 h1 _ h _ _ _ hH (lv_sub hl [0, 1, 2, 3] rfl)
set_option maxHeartbeats 4000000 in
theorem w_X6_wayTo_67 {G : va_G} {tA : Nat → ClassId} {z : Nat} {E : Ex} {p : Program} {l : Launch} {e : Env} {s : State} {m : MethodId} {args : Array Value} {below : List Frame} {meth : Method} {c : Code} {r : Int32} {D' : Dm} (O : Ok G tA z E cX6_wayTo RX6 5 p s m args c) (hr : meth.sig.returnType = some .int) (hlk : meth.locks = false) {k32 : Nat → Nat → Int32 → Int32 → Int32 → Dm → Option (Int32 × Dm)} (hk32 : ∀ (r0 : Nat) (r1 : Nat) (x2 : Int32) (x3 : Int32) (x4 : Int32) (h0 : isC6 r0) (h1 : isC6 r1) (D : Dm), k32 r0 r1 x2 x3 x4 D = some (r, D') → BI G tA z E p l e (rmC 1 0 0) s m args below meth c LAY D r D' 5 32 [(0, .ref (z + r0)), (1, .ref (z + r1)), (2, .int x2), (3, .int x3), (4, .int x4)] []) (r0 : Nat) (r1 : Nat) (x3 : Int32) (x4 : Int32) (xs0 : Int32) (h0 : isC6 r0) (h1 : isC6 r1) (D : Dm) (h : f_X6_wayTo_67 k32 r0 r1 x3 x4 xs0 D = some (r, D')) : BI G tA z E p l e (rmC 1 0 0) s m args below meth c LAY D r D' 5 67 [(0, .ref (z + r0)), (1, .ref (z + r1)), (3, .int x3), (4, .int x4)] [.int xs0] := by
  obtain ⟨hx, hb, -, hown, hts, -⟩ := id O
  unfold f_X6_wayTo_67 at h
  intro H locs ls hH hl
  refine lv_istore_n (lv' := [(2, .int xs0), (0, .ref (z + r0)), (1, .ref (z + r1)), (3, .int x3), (4, .int x4)]) hx hb dX6_wayTo_67 rfl hl (by decide) rfl (fun ls hl => ?_)
  refine lv_iload_n hx hb dX6_wayTo_68 rfl (lv_at hl 3 rfl) ?_
  refine lv_if_eq (tgt := 93) hx hb dX6_wayTo_69 (by decide) (fun c1 => ?_) (fun c1 => ?_)
  · have h := it_pos h c1
    exact w_X6_wayTo_93 O hr hlk hk32 _ _ _ _ h0 h1 _ h _ _ _ hH (lv_sub hl [1, 2, 0, 4] rfl)
  · have h := it_neg h c1
    refine lv_aload_n hx hb dX6_wayTo_72 rfl (lv_at hl 1 rfl) ?_
    refine h_getr O hH h0.1 rfl fl_X6_34 dX6_wayTo_73 ?_
    refine lv_iload hx hb dX6_wayTo_76 (lv_at hl 4 rfl) ?_
    obtain ⟨g2, h⟩ := gd_some h
    refine h_iald O hH h0.2.2.2.2.2.2.2.2.1 g2 dX6_wayTo_78 ?_
    refine lv_aload_n hx hb dX6_wayTo_79 rfl (lv_at hl 2 rfl) ?_
    refine h_getr O hH h1.1 rfl fl_X6_37 dX6_wayTo_80 ?_
    refine lv_iload hx hb dX6_wayTo_83 (lv_at hl 4 rfl) ?_
    obtain ⟨g3, h⟩ := gd_some h
    refine h_iald O hH h1.2.2.2.2.2.2.2.2.2 g3 dX6_wayTo_85 ?_
    refine lv_icmp_ne (tgt := 93) hx hb dX6_wayTo_86 (by decide) (fun c4 => ?_) (fun c4 => ?_)
    · have h := it_neg h c4
      exact w_X6_wayTo_93 O hr hlk hk32 _ _ _ _ h0 h1 _ h _ _ _ hH (lv_sub hl [1, 2, 0, 4] rfl)
    · have h := it_pos h c4
      refine lv_iconst (v := 1) hx hb dX6_wayTo_89 (by decide) ?_
      refine lv_goto (tgt := 94) hx hb dX6_wayTo_90 (by decide) ?_
      exact w_X6_wayTo_94 O hr hlk hk32 _ _ _ _ _ h0 h1 _ h _ _ _ hH (lv_sub hl [1, 2, 0, 4] rfl)
set_option maxHeartbeats 4000000 in
theorem w_X6_wayTo_66 {G : va_G} {tA : Nat → ClassId} {z : Nat} {E : Ex} {p : Program} {l : Launch} {e : Env} {s : State} {m : MethodId} {args : Array Value} {below : List Frame} {meth : Method} {c : Code} {r : Int32} {D' : Dm} (O : Ok G tA z E cX6_wayTo RX6 5 p s m args c) (hr : meth.sig.returnType = some .int) (hlk : meth.locks = false) {k32 : Nat → Nat → Int32 → Int32 → Int32 → Dm → Option (Int32 × Dm)} (hk32 : ∀ (r0 : Nat) (r1 : Nat) (x2 : Int32) (x3 : Int32) (x4 : Int32) (h0 : isC6 r0) (h1 : isC6 r1) (D : Dm), k32 r0 r1 x2 x3 x4 D = some (r, D') → BI G tA z E p l e (rmC 1 0 0) s m args below meth c LAY D r D' 5 32 [(0, .ref (z + r0)), (1, .ref (z + r1)), (2, .int x2), (3, .int x3), (4, .int x4)] []) (r0 : Nat) (r1 : Nat) (x3 : Int32) (x4 : Int32) (h0 : isC6 r0) (h1 : isC6 r1) (D : Dm) (h : f_X6_wayTo_66 k32 r0 r1 x3 x4 D = some (r, D')) : BI G tA z E p l e (rmC 1 0 0) s m args below meth c LAY D r D' 5 66 [(0, .ref (z + r0)), (1, .ref (z + r1)), (3, .int x3), (4, .int x4)] [] := by
  obtain ⟨hx, hb, -, hown, hts, -⟩ := id O
  unfold f_X6_wayTo_66 at h
  intro H locs ls hH hl
  refine lv_iconst (v := 0) hx hb dX6_wayTo_66 (by decide) ?_
  exact w_X6_wayTo_67 O hr hlk hk32 _ _ _ _ _ h0 h1 _ h _ _ _ hH (lv_sub hl [0, 1, 2, 3] rfl)
set_option maxHeartbeats 4000000 in
theorem w_X6_wayTo_32_b {G : va_G} {tA : Nat → ClassId} {z : Nat} {E : Ex} {p : Program} {l : Launch} {e : Env} {s : State} {m : MethodId} {args : Array Value} {below : List Frame} {meth : Method} {c : Code} {r : Int32} {D' : Dm} (O : Ok G tA z E cX6_wayTo RX6 5 p s m args c) (hr : meth.sig.returnType = some .int) (hlk : meth.locks = false) {k32 : Nat → Nat → Int32 → Int32 → Int32 → Dm → Option (Int32 × Dm)} (hk32 : ∀ (r0 : Nat) (r1 : Nat) (x2 : Int32) (x3 : Int32) (x4 : Int32) (h0 : isC6 r0) (h1 : isC6 r1) (D : Dm), k32 r0 r1 x2 x3 x4 D = some (r, D') → BI G tA z E p l e (rmC 1 0 0) s m args below meth c LAY D r D' 5 32 [(0, .ref (z + r0)), (1, .ref (z + r1)), (2, .int x2), (3, .int x3), (4, .int x4)] []) (r0 : Nat) (r1 : Nat) (x2 : Int32) (x3 : Int32) (x4 : Int32) (h0 : isC6 r0) (h1 : isC6 r1) (D : Dm) (h : f_X6_wayTo_32_b k32 r0 r1 x2 x3 x4 D = some (r, D')) : BI G tA z E p l e (rmC 1 0 0) s m args below meth c LAY D r D' 5 32 [(0, .ref (z + r0)), (1, .ref (z + r1)), (2, .int x2), (3, .int x3), (4, .int x4)] [] := by
  obtain ⟨hx, hb, -, hown, hts, -⟩ := id O
  unfold f_X6_wayTo_32_b at h
  intro H locs ls hH hl
  refine lv_iload hx hb dX6_wayTo_32 (lv_at hl 4 rfl) ?_
  refine lv_aload_n hx hb dX6_wayTo_34 rfl (lv_at hl 0 rfl) ?_
  refine h_geti O hH h0.1 rfl fl_X6_82 dX6_wayTo_35 ?_
  refine lv_icmp_ge (tgt := 101) hx hb dX6_wayTo_38 (by decide) (fun c1 => ?_) (fun c1 => ?_)
  · have h := it_pos h c1
    refine lv_iload_n hx hb dX6_wayTo_101 rfl (lv_at hl 2 rfl) ?_
    refine lv_if_eq (tgt := 107) hx hb dX6_wayTo_102 (by decide) (fun c2 => ?_) (fun c2 => ?_)
    · have h := it_pos h c2
      refine lv_iload_n hx hb dX6_wayTo_107 rfl (lv_at hl 3 rfl) ?_
      refine lv_if_eq (tgt := 115) hx hb dX6_wayTo_108 (by decide) (fun c3 => ?_) (fun c3 => ?_)
      · have h := it_pos h c3
        refine lv_iconst (v := (-1)) hx hb dX6_wayTo_115 (by decide) ?_
        obtain ⟨rfl, rfl⟩ := ret_i h
        exact h_iret O hr hlk hH dX6_wayTo_116
      · have h := it_neg h c3
        refine lv_iconst (v := 1) hx hb dX6_wayTo_111 (by decide) ?_
        refine lv_goto (tgt := 116) hx hb dX6_wayTo_112 (by decide) ?_
        obtain ⟨rfl, rfl⟩ := ret_i h
        exact h_iret O hr hlk hH dX6_wayTo_116
    · have h := it_neg h c2
      refine lv_iconst (v := 0) hx hb dX6_wayTo_105 (by decide) ?_
      obtain ⟨rfl, rfl⟩ := ret_i h
      exact h_iret O hr hlk hH dX6_wayTo_106
  · have h := it_neg h c1
    refine lv_iload_n hx hb dX6_wayTo_41 rfl (lv_at hl 2 rfl) ?_
    refine lv_if_eq (tgt := 66) hx hb dX6_wayTo_42 (by decide) (fun c4 => ?_) (fun c4 => ?_)
    · have h := it_pos h c4
      exact w_X6_wayTo_66 O hr hlk hk32 _ _ _ _ h0 h1 _ h _ _ _ hH (lv_sub hl [0, 1, 3, 4] rfl)
    · have h := it_neg h c4
      refine lv_aload_n hx hb dX6_wayTo_45 rfl (lv_at hl 0 rfl) ?_
      refine h_getr O hH h0.1 rfl fl_X6_34 dX6_wayTo_46 ?_
      refine lv_iload hx hb dX6_wayTo_49 (lv_at hl 4 rfl) ?_
      obtain ⟨g5, h⟩ := gd_some h
      refine h_iald O hH h0.2.2.2.2.2.2.2.2.1 g5 dX6_wayTo_51 ?_
      refine lv_aload_n hx hb dX6_wayTo_52 rfl (lv_at hl 1 rfl) ?_
      refine h_getr O hH h1.1 rfl fl_X6_34 dX6_wayTo_53 ?_
      refine lv_iload hx hb dX6_wayTo_56 (lv_at hl 4 rfl) ?_
      obtain ⟨g6, h⟩ := gd_some h
      refine h_iald O hH h1.2.2.2.2.2.2.2.2.1 g6 dX6_wayTo_58 ?_
      refine lv_icmp_ne (tgt := 66) hx hb dX6_wayTo_59 (by decide) (fun c7 => ?_) (fun c7 => ?_)
      · have h := it_neg h c7
        exact w_X6_wayTo_66 O hr hlk hk32 _ _ _ _ h0 h1 _ h _ _ _ hH (lv_sub hl [0, 1, 3, 4] rfl)
      · have h := it_pos h c7
        refine lv_iconst (v := 1) hx hb dX6_wayTo_62 (by decide) ?_
        refine lv_goto (tgt := 67) hx hb dX6_wayTo_63 (by decide) ?_
        exact w_X6_wayTo_67 O hr hlk hk32 _ _ _ _ _ h0 h1 _ h _ _ _ hH (lv_sub hl [0, 1, 3, 4] rfl)
set_option maxHeartbeats 4000000 in
theorem w_X6_wayTo_32 {G : va_G} {tA : Nat → ClassId} {z : Nat} {E : Ex} {p : Program} {l : Launch} {e : Env} {s : State} {m : MethodId} {args : Array Value} {below : List Frame} {meth : Method} {c : Code} {r : Int32} {D' : Dm} (O : Ok G tA z E cX6_wayTo RX6 5 p s m args c) (hr : meth.sig.returnType = some .int) (hlk : meth.locks = false) : ∀ (n : Nat) (r0 : Nat) (r1 : Nat) (x2 : Int32) (x3 : Int32) (x4 : Int32) (h0 : isC6 r0) (h1 : isC6 r1) (D : Dm) (h : f_X6_wayTo_32 n r0 r1 x2 x3 x4 D = some (r, D')), BI G tA z E p l e (rmC 1 0 0) s m args below meth c LAY D r D' 5 32 [(0, .ref (z + r0)), (1, .ref (z + r1)), (2, .int x2), (3, .int x3), (4, .int x4)] [] := by
  intro n
  induction n with
  | zero => intro r0 r1 x2 x3 x4 h0 h1 D h; exact no_some h
  | succ n ih => intro r0 r1 x2 x3 x4 h0 h1 D h; exact w_X6_wayTo_32_b O hr hlk (fun r0 r1 x2 x3 x4 h0 h1 D h => ih r0 r1 x2 x3 x4 h0 h1 D h) r0 r1 x2 x3 x4 h0 h1 D h
set_option maxHeartbeats 4000000 in
theorem w_X6_wayTo_28 {G : va_G} {tA : Nat → ClassId} {z : Nat} {E : Ex} {p : Program} {l : Launch} {e : Env} {s : State} {m : MethodId} {args : Array Value} {below : List Frame} {meth : Method} {c : Code} {r : Int32} {D' : Dm} (O : Ok G tA z E cX6_wayTo RX6 5 p s m args c) (hr : meth.sig.returnType = some .int) (hlk : meth.locks = false) (r0 : Nat) (r1 : Nat) (x2 : Int32) (xs0 : Int32) (h0 : isC6 r0) (h1 : isC6 r1) (D : Dm) (h : f_X6_wayTo_28 r0 r1 x2 xs0 D = some (r, D')) : BI G tA z E p l e (rmC 1 0 0) s m args below meth c LAY D r D' 5 28 [(0, .ref (z + r0)), (1, .ref (z + r1)), (2, .int x2)] [.int xs0] := by
  obtain ⟨hx, hb, -, hown, hts, -⟩ := id O
  unfold f_X6_wayTo_28 at h
  intro H locs ls hH hl
  refine lv_istore_n (lv' := [(3, .int xs0), (0, .ref (z + r0)), (1, .ref (z + r1)), (2, .int x2)]) hx hb dX6_wayTo_28 rfl hl (by decide) rfl (fun ls hl => ?_)
  refine lv_iconst (v := 0) hx hb dX6_wayTo_29 (by decide) ?_
  refine lv_istore (lv' := [(4, .int 0), (3, .int xs0), (0, .ref (z + r0)), (1, .ref (z + r1)), (2, .int x2)]) hx hb dX6_wayTo_30 hl (by decide) rfl (fun ls hl => ?_)
  exact w_X6_wayTo_32 O hr hlk FU _ _ _ _ _ h0 h1 _ h _ _ _ hH (lv_sub hl [2, 3, 4, 1, 0] rfl)
set_option maxHeartbeats 4000000 in
theorem w_X6_wayTo {G : va_G} {tA : Nat → ClassId} {z : Nat} {E : Ex} {p : Program} {l : Launch} {e : Env} {s : State} {m : MethodId} {args : Array Value} {below : List Frame} {meth : Method} {c : Code} {r : Int32} {D' : Dm} (O : Ok G tA z E cX6_wayTo RX6 5 p s m args c) (hr : meth.sig.returnType = some .int) (hlk : meth.locks = false) (r0 : Nat) (r1 : Nat) (h0 : isC6 r0) (h1 : isC6 r1) (D : Dm) (h : f_X6_wayTo r0 r1 D = some (r, D')) : BI G tA z E p l e (rmC 1 0 0) s m args below meth c LAY D r D' 5 0 [(0, .ref (z + r0)), (1, .ref (z + r1))] [] := by
  obtain ⟨hx, hb, -, hown, hts, -⟩ := id O
  unfold f_X6_wayTo at h
  intro H locs ls hH hl
  refine lv_aload_n hx hb dX6_wayTo_0 rfl (lv_at hl 0 rfl) ?_
  refine h_geti O hH h0.1 rfl fl_X6_85 dX6_wayTo_1 ?_
  refine lv_aload_n hx hb dX6_wayTo_4 rfl (lv_at hl 1 rfl) ?_
  refine h_geti O hH h1.1 rfl fl_X6_85 dX6_wayTo_5 ?_
  refine lv_icmp_eq (tgt := 13) hx hb dX6_wayTo_8 (by decide) (fun c1 => ?_) (fun c1 => ?_)
  · have h := it_pos h c1
    refine lv_iconst (v := 1) hx hb dX6_wayTo_13 (by decide) ?_
    refine lv_istore_n (lv' := [(2, .int 1), (0, .ref (z + r0)), (1, .ref (z + r1))]) hx hb dX6_wayTo_14 rfl hl (by decide) rfl (fun ls hl => ?_)
    refine lv_aload_n hx hb dX6_wayTo_15 rfl (lv_at hl 1 rfl) ?_
    refine h_geti O hH h0.1 rfl fl_X6_85 dX6_wayTo_16 ?_
    refine lv_iconst (v := 2) hx hb dX6_wayTo_19 (by decide) ?_
    refine lv_icmp_ne (tgt := 27) hx hb dX6_wayTo_20 (by decide) (fun c2 => ?_) (fun c2 => ?_)
    · have h := it_neg h c2
      refine lv_iconst (v := 0) hx hb dX6_wayTo_27 (by decide) ?_
      exact w_X6_wayTo_28 O hr hlk _ _ _ _ h0 h1 _ h _ _ _ hH (lv_sub hl [1, 2, 0] rfl)
    · have h := it_pos h c2
      refine lv_iconst (v := 1) hx hb dX6_wayTo_23 (by decide) ?_
      refine lv_goto (tgt := 28) hx hb dX6_wayTo_24 (by decide) ?_
      exact w_X6_wayTo_28 O hr hlk _ _ _ _ h0 h1 _ h _ _ _ hH (lv_sub hl [1, 2, 0] rfl)
  · have h := it_neg h c1
    refine lv_iconst (v := (-1)) hx hb dX6_wayTo_11 (by decide) ?_
    obtain ⟨rfl, rfl⟩ := ret_i h
    exact h_iret O hr hlk hH dX6_wayTo_12
set_option maxHeartbeats 4000000 in
theorem c_X6_wayTo {l : Launch} {G : va_G} {tA : Nat → ClassId} {z : Nat} {E : Ex} {r0 : Nat} {r1 : Nat} (h0 : isC6 r0) (h1 : isC6 r1) {D D' : Dm} {r : Int32} (h : f_X6_wayTo r0 r1 D = some (r, D')) : CtI l yX6_wayTo cX6_wayTo 5 (some .int) G tA z E 1 0 0 [.ref (z + r0), .ref (z + r1)] LAY D r LAY D' :=
  ct_BI (by decide +kernel) (Nat.le_of_ble_eq_true rfl) (fun _ _ _ _ _ _ _ _ O hr hlk => w_X6_wayTo O hr hlk _ _ h0 h1 _ h)
set_option maxHeartbeats 4000000 in
theorem w_X6_placeOf_2_b {G : va_G} {tA : Nat → ClassId} {z : Nat} {E : Ex} {p : Program} {l : Launch} {e : Env} {s : State} {m : MethodId} {args : Array Value} {below : List Frame} {meth : Method} {c : Code} {r : Int32} {D' : Dm} (O : Ok G tA z E cX6_placeOf RX6 3 p s m args c) (hr : meth.sig.returnType = some .int) (hlk : meth.locks = false) {k2 : Nat → Int32 → Int32 → Dm → Option (Int32 × Dm)} (hk2 : ∀ (r0 : Nat) (x1 : Int32) (x2 : Int32) (h0 : isC6 r0) (D : Dm), k2 r0 x1 x2 D = some (r, D') → BI G tA z E p l e (rmC 1 0 0) s m args below meth c LAY D r D' 3 2 [(0, .ref (z + r0)), (1, .int x1), (2, .int x2)] []) (r0 : Nat) (x1 : Int32) (x2 : Int32) (h0 : isC6 r0) (D : Dm) (h : f_X6_placeOf_2_b k2 r0 x1 x2 D = some (r, D')) : BI G tA z E p l e (rmC 1 0 0) s m args below meth c LAY D r D' 3 2 [(0, .ref (z + r0)), (1, .int x1), (2, .int x2)] [] := by
  obtain ⟨hx, hb, -, hown, hts, -⟩ := id O
  unfold f_X6_placeOf_2_b at h
  intro H locs ls hH hl
  refine lv_iload_n hx hb dX6_placeOf_2 rfl (lv_at hl 2 rfl) ?_
  refine lv_aload_n hx hb dX6_placeOf_3 rfl (lv_at hl 0 rfl) ?_
  refine h_geti O hH h0.1 rfl fl_X6_85 dX6_placeOf_4 ?_
  refine lv_icmp_ge (tgt := 28) hx hb dX6_placeOf_7 (by decide) (fun c1 => ?_) (fun c1 => ?_)
  · have h := it_pos h c1
    refine lv_iconst (v := (-1)) hx hb dX6_placeOf_28 (by decide) ?_
    obtain ⟨rfl, rfl⟩ := ret_i h
    exact h_iret O hr hlk hH dX6_placeOf_29
  · have h := it_neg h c1
    refine lv_aload_n hx hb dX6_placeOf_10 rfl (lv_at hl 0 rfl) ?_
    refine h_getr O hH h0.1 rfl fl_X6_28 dX6_placeOf_11 ?_
    refine lv_iload_n hx hb dX6_placeOf_14 rfl (lv_at hl 2 rfl) ?_
    obtain ⟨g2, h⟩ := gd_some h
    refine h_iald O hH h0.2.2.2.2.2.2.1 g2 dX6_placeOf_15 ?_
    refine lv_iload_n hx hb dX6_placeOf_16 rfl (lv_at hl 1 rfl) ?_
    refine lv_icmp_ne (tgt := 22) hx hb dX6_placeOf_17 (by decide) (fun c3 => ?_) (fun c3 => ?_)
    · have h := it_neg h c3
      obtain ⟨y4, e5, h⟩ := lt_some h
      refine lv_iinc (v := y4) (lv' := [(2, .int y4), (0, .ref (z + r0)), (1, .int x1)]) hx hb dX6_placeOf_22 hl (k := 2) rfl (by rw [e5]; rfl) (by decide) rfl (fun ls hl => ?_)
      refine lv_goto (tgt := 2) hx hb dX6_placeOf_25 (by decide) ?_
      exact hk2 _ _ _ h0 _ h _ _ _ hH (lv_sub hl [1, 2, 0] rfl)
    · have h := it_pos h c3
      refine lv_iload_n hx hb dX6_placeOf_20 rfl (lv_at hl 2 rfl) ?_
      obtain ⟨rfl, rfl⟩ := ret_i h
      exact h_iret O hr hlk hH dX6_placeOf_21
set_option maxHeartbeats 4000000 in
theorem w_X6_placeOf_2 {G : va_G} {tA : Nat → ClassId} {z : Nat} {E : Ex} {p : Program} {l : Launch} {e : Env} {s : State} {m : MethodId} {args : Array Value} {below : List Frame} {meth : Method} {c : Code} {r : Int32} {D' : Dm} (O : Ok G tA z E cX6_placeOf RX6 3 p s m args c) (hr : meth.sig.returnType = some .int) (hlk : meth.locks = false) : ∀ (n : Nat) (r0 : Nat) (x1 : Int32) (x2 : Int32) (h0 : isC6 r0) (D : Dm) (h : f_X6_placeOf_2 n r0 x1 x2 D = some (r, D')), BI G tA z E p l e (rmC 1 0 0) s m args below meth c LAY D r D' 3 2 [(0, .ref (z + r0)), (1, .int x1), (2, .int x2)] [] := by
  intro n
  induction n with
  | zero => intro r0 x1 x2 h0 D h; exact no_some h
  | succ n ih => intro r0 x1 x2 h0 D h; exact w_X6_placeOf_2_b O hr hlk (fun r0 x1 x2 h0 D h => ih r0 x1 x2 h0 D h) r0 x1 x2 h0 D h
set_option maxHeartbeats 4000000 in
theorem w_X6_placeOf {G : va_G} {tA : Nat → ClassId} {z : Nat} {E : Ex} {p : Program} {l : Launch} {e : Env} {s : State} {m : MethodId} {args : Array Value} {below : List Frame} {meth : Method} {c : Code} {r : Int32} {D' : Dm} (O : Ok G tA z E cX6_placeOf RX6 3 p s m args c) (hr : meth.sig.returnType = some .int) (hlk : meth.locks = false) (r0 : Nat) (x1 : Int32) (h0 : isC6 r0) (D : Dm) (h : f_X6_placeOf r0 x1 D = some (r, D')) : BI G tA z E p l e (rmC 1 0 0) s m args below meth c LAY D r D' 3 0 [(0, .ref (z + r0)), (1, .int x1)] [] := by
  obtain ⟨hx, hb, -, hown, hts, -⟩ := id O
  unfold f_X6_placeOf at h
  intro H locs ls hH hl
  refine lv_iconst (v := 0) hx hb dX6_placeOf_0 (by decide) ?_
  refine lv_istore_n (lv' := [(2, .int 0), (0, .ref (z + r0)), (1, .int x1)]) hx hb dX6_placeOf_1 rfl hl (by decide) rfl (fun ls hl => ?_)
  exact w_X6_placeOf_2 O hr hlk FU _ _ _ h0 _ h _ _ _ hH (lv_sub hl [1, 2, 0] rfl)
set_option maxHeartbeats 4000000 in
theorem c_X6_placeOf {l : Launch} {G : va_G} {tA : Nat → ClassId} {z : Nat} {E : Ex} {r0 : Nat} {x1 : Int32} (h0 : isC6 r0) {D D' : Dm} {r : Int32} (h : f_X6_placeOf r0 x1 D = some (r, D')) : CtI l yX6_placeOf cX6_placeOf 3 (some .int) G tA z E 1 0 0 [.ref (z + r0), .int x1] LAY D r LAY D' :=
  ct_BI (by decide +kernel) (Nat.le_of_ble_eq_true rfl) (fun _ _ _ _ _ _ _ _ O hr hlk => w_X6_placeOf O hr hlk _ _ h0 _ h)
set_option maxHeartbeats 4000000 in
theorem w_X6_keptBits_4_b {G : va_G} {tA : Nat → ClassId} {z : Nat} {E : Ex} {p : Program} {l : Launch} {e : Env} {s : State} {m : MethodId} {args : Array Value} {below : List Frame} {meth : Method} {c : Code} {r : Int32} {D' : Dm} (O : Ok G tA z E cX6_keptBits RX6 3 p s m args c) (hr : meth.sig.returnType = some .int) (hlk : meth.locks = false) {k4 : Nat → Int32 → Int32 → Dm → Option (Int32 × Dm)} (hk4 : ∀ (r0 : Nat) (x1 : Int32) (x2 : Int32) (h0 : isC6 r0) (D : Dm), k4 r0 x1 x2 D = some (r, D') → BI G tA z E p l e (rmC 1 0 0) s m args below meth c LAY D r D' 3 4 [(0, .ref (z + r0)), (1, .int x1), (2, .int x2)] []) (r0 : Nat) (x1 : Int32) (x2 : Int32) (h0 : isC6 r0) (D : Dm) (h : f_X6_keptBits_4_b k4 r0 x1 x2 D = some (r, D')) : BI G tA z E p l e (rmC 1 0 0) s m args below meth c LAY D r D' 3 4 [(0, .ref (z + r0)), (1, .int x1), (2, .int x2)] [] := by
  obtain ⟨hx, hb, -, hown, hts, -⟩ := id O
  unfold f_X6_keptBits_4_b at h
  intro H locs ls hH hl
  refine lv_iload_n hx hb dX6_keptBits_4 rfl (lv_at hl 2 rfl) ?_
  refine lv_aload_n hx hb dX6_keptBits_5 rfl (lv_at hl 0 rfl) ?_
  refine h_geti O hH h0.1 rfl fl_X6_85 dX6_keptBits_6 ?_
  refine lv_icmp_ge (tgt := 29) hx hb dX6_keptBits_9 (by decide) (fun c1 => ?_) (fun c1 => ?_)
  · have h := it_pos h c1
    refine lv_iload_n hx hb dX6_keptBits_29 rfl (lv_at hl 1 rfl) ?_
    obtain ⟨rfl, rfl⟩ := ret_i h
    exact h_iret O hr hlk hH dX6_keptBits_30
  · have h := it_neg h c1
    refine lv_iload_n hx hb dX6_keptBits_12 rfl (lv_at hl 1 rfl) ?_
    refine lv_iconst (v := 1) hx hb dX6_keptBits_13 (by decide) ?_
    refine lv_aload_n hx hb dX6_keptBits_14 rfl (lv_at hl 0 rfl) ?_
    refine h_getr O hH h0.1 rfl fl_X6_28 dX6_keptBits_15 ?_
    refine lv_iload_n hx hb dX6_keptBits_18 rfl (lv_at hl 2 rfl) ?_
    obtain ⟨g2, h⟩ := gd_some h
    refine h_iald O hH h0.2.2.2.2.2.2.1 g2 dX6_keptBits_19 ?_
    refine lv_ishl hx hb dX6_keptBits_20 ?_
    refine lv_ior hx hb dX6_keptBits_21 ?_
    refine lv_topi (fun y3 e4 => ?_)
    have h := lt_at e4 h
    refine lv_istore_n (lv' := [(1, .int y3), (0, .ref (z + r0)), (2, .int x2)]) hx hb dX6_keptBits_22 rfl hl (by decide) rfl (fun ls hl => ?_)
    obtain ⟨y5, e6, h⟩ := lt_some h
    refine lv_iinc (v := y5) (lv' := [(2, .int y5), (1, .int y3), (0, .ref (z + r0))]) hx hb dX6_keptBits_23 hl (k := 2) rfl (by rw [e6]; rfl) (by decide) rfl (fun ls hl => ?_)
    refine lv_goto (tgt := 4) hx hb dX6_keptBits_26 (by decide) ?_
    exact hk4 _ _ _ h0 _ h _ _ _ hH (lv_sub hl [2, 1, 0] rfl)
set_option maxHeartbeats 4000000 in
theorem w_X6_keptBits_4 {G : va_G} {tA : Nat → ClassId} {z : Nat} {E : Ex} {p : Program} {l : Launch} {e : Env} {s : State} {m : MethodId} {args : Array Value} {below : List Frame} {meth : Method} {c : Code} {r : Int32} {D' : Dm} (O : Ok G tA z E cX6_keptBits RX6 3 p s m args c) (hr : meth.sig.returnType = some .int) (hlk : meth.locks = false) : ∀ (n : Nat) (r0 : Nat) (x1 : Int32) (x2 : Int32) (h0 : isC6 r0) (D : Dm) (h : f_X6_keptBits_4 n r0 x1 x2 D = some (r, D')), BI G tA z E p l e (rmC 1 0 0) s m args below meth c LAY D r D' 3 4 [(0, .ref (z + r0)), (1, .int x1), (2, .int x2)] [] := by
  intro n
  induction n with
  | zero => intro r0 x1 x2 h0 D h; exact no_some h
  | succ n ih => intro r0 x1 x2 h0 D h; exact w_X6_keptBits_4_b O hr hlk (fun r0 x1 x2 h0 D h => ih r0 x1 x2 h0 D h) r0 x1 x2 h0 D h
set_option maxHeartbeats 4000000 in
theorem w_X6_keptBits {G : va_G} {tA : Nat → ClassId} {z : Nat} {E : Ex} {p : Program} {l : Launch} {e : Env} {s : State} {m : MethodId} {args : Array Value} {below : List Frame} {meth : Method} {c : Code} {r : Int32} {D' : Dm} (O : Ok G tA z E cX6_keptBits RX6 3 p s m args c) (hr : meth.sig.returnType = some .int) (hlk : meth.locks = false) (r0 : Nat) (h0 : isC6 r0) (D : Dm) (h : f_X6_keptBits r0 D = some (r, D')) : BI G tA z E p l e (rmC 1 0 0) s m args below meth c LAY D r D' 3 0 [(0, .ref (z + r0))] [] := by
  obtain ⟨hx, hb, -, hown, hts, -⟩ := id O
  unfold f_X6_keptBits at h
  intro H locs ls hH hl
  refine lv_iconst (v := 0) hx hb dX6_keptBits_0 (by decide) ?_
  refine lv_istore_n (lv' := [(1, .int 0), (0, .ref (z + r0))]) hx hb dX6_keptBits_1 rfl hl (by decide) rfl (fun ls hl => ?_)
  refine lv_iconst (v := 0) hx hb dX6_keptBits_2 (by decide) ?_
  refine lv_istore_n (lv' := [(2, .int 0), (1, .int 0), (0, .ref (z + r0))]) hx hb dX6_keptBits_3 rfl hl (by decide) rfl (fun ls hl => ?_)
  exact w_X6_keptBits_4 O hr hlk FU _ _ _ h0 _ h _ _ _ hH (lv_sub hl [2, 1, 0] rfl)
set_option maxHeartbeats 4000000 in
theorem c_X6_keptBits {l : Launch} {G : va_G} {tA : Nat → ClassId} {z : Nat} {E : Ex} {r0 : Nat} (h0 : isC6 r0) {D D' : Dm} {r : Int32} (h : f_X6_keptBits r0 D = some (r, D')) : CtI l yX6_keptBits cX6_keptBits 3 (some .int) G tA z E 1 0 0 [.ref (z + r0)] LAY D r LAY D' :=
  ct_BI (by decide +kernel) (Nat.le_of_ble_eq_true rfl) (fun _ _ _ _ _ _ _ _ O hr hlk => w_X6_keptBits O hr hlk _ h0 _ h)
set_option maxHeartbeats 4000000 in
theorem w_X6_tellWay {G : va_G} {tA : Nat → ClassId} {z : Nat} {E : Ex} {p : Program} {l : Launch} {e : Env} {s : State} {m : MethodId} {args : Array Value} {below : List Frame} {meth : Method} {c : Code} {r : Int32} {D' : Dm} (O : Ok G tA z E cX6_tellWay RX6 3 p s m args c) (hr : meth.sig.returnType = some .int) (hlk : meth.locks = false) (r0 : Nat) (r1 : Nat) (h0 : isC6 r0) (h1 : isC6 r1) (D : Dm) (h : f_X6_tellWay r0 r1 D = some (r, D')) : BI G tA z E p l e (rmC 2 0 0) s m args below meth c LAY D r D' 3 0 [(0, .ref (z + r0)), (1, .ref (z + r1))] [] := by
  obtain ⟨hx, hb, -, hown, hts, -⟩ := id O
  unfold f_X6_tellWay at h
  intro H locs ls hH hl
  refine lv_aload_n hx hb dX6_tellWay_0 rfl (lv_at hl 0 rfl) ?_
  refine lv_aload_n hx hb dX6_tellWay_1 rfl (lv_at hl 1 rfl) ?_
  obtain ⟨y3, D1, hc2, h⟩ := bI_some h
  refine h_callVi (As := [.ref (z + r1)]) (rest := []) O hH (c_X6_wayTo h0 h1 hc2) ml_X6_104 h0.1 rfl rfl hl.1 rfl ⟨Nat.le_of_ble_eq_true rfl, Nat.le_of_ble_eq_true rfl⟩ (Nat.le_of_ble_eq_true rfl) dX6_tellWay_2 (fun H locs hH => ?_)
  refine lv_istore_n (lv' := [(2, .int y3), (0, .ref (z + r0)), (1, .ref (z + r1))]) hx hb dX6_tellWay_5 rfl hl (by decide) rfl (fun ls hl => ?_)
  refine lv_iload_n hx hb dX6_tellWay_6 rfl (lv_at hl 0 rfl) ?_
  refine lv_iconst (v := (-1)) hx hb dX6_tellWay_7 (by decide) ?_
  refine lv_icmp_ne (tgt := 13) hx hb dX6_tellWay_8 (by decide) (fun c4 => ?_) (fun c4 => ?_)
  · have h := it_neg h c4
    refine lv_aload_n hx hb dX6_tellWay_13 rfl (lv_at hl 1 rfl) ?_
    refine h_geti O hH h0.1 rfl fl_X6_85 dX6_tellWay_14 ?_
    refine lv_iconst (v := 2) hx hb dX6_tellWay_17 (by decide) ?_
    refine lv_icmp_ge (tgt := 26) hx hb dX6_tellWay_18 (by decide) (fun c5 => ?_) (fun c5 => ?_)
    · have h := it_pos h c5
      refine lv_iload_n hx hb dX6_tellWay_26 rfl (lv_at hl 0 rfl) ?_
      refine lv_if_ne (tgt := 35) hx hb dX6_tellWay_27 (by decide) (fun c6 => ?_) (fun c6 => ?_)
      · have h := it_neg h c6
        refine lv_bipush (v := 21) hx hb dX6_tellWay_35 (by decide) ?_
        obtain ⟨rfl, rfl⟩ := ret_i h
        exact h_iret O hr hlk hH dX6_tellWay_37
      · have h := it_pos h c6
        refine lv_bipush (v := 12) hx hb dX6_tellWay_30 (by decide) ?_
        refine lv_goto (tgt := 37) hx hb dX6_tellWay_32 (by decide) ?_
        obtain ⟨rfl, rfl⟩ := ret_i h
        exact h_iret O hr hlk hH dX6_tellWay_37
    · have h := it_neg h c5
      refine lv_aload_n hx hb dX6_tellWay_21 rfl (lv_at hl 1 rfl) ?_
      refine h_geti O hH h0.1 rfl fl_X6_85 dX6_tellWay_22 ?_
      obtain ⟨rfl, rfl⟩ := ret_i h
      exact h_iret O hr hlk hH dX6_tellWay_25
  · have h := it_pos h c4
    refine lv_iconst (v := (-1)) hx hb dX6_tellWay_11 (by decide) ?_
    obtain ⟨rfl, rfl⟩ := ret_i h
    exact h_iret O hr hlk hH dX6_tellWay_12
set_option maxHeartbeats 4000000 in
theorem c_X6_tellWay {l : Launch} {G : va_G} {tA : Nat → ClassId} {z : Nat} {E : Ex} {r0 : Nat} {r1 : Nat} (h0 : isC6 r0) (h1 : isC6 r1) {D D' : Dm} {r : Int32} (h : f_X6_tellWay r0 r1 D = some (r, D')) : CtI l yX6_tellWay cX6_tellWay 3 (some .int) G tA z E 2 0 0 [.ref (z + r0), .ref (z + r1)] LAY D r LAY D' :=
  ct_BI (by decide +kernel) (Nat.le_of_ble_eq_true rfl) (fun _ _ _ _ _ _ _ _ O hr hlk => w_X6_tellWay O hr hlk _ _ h0 h1 _ h)
