theorem dX3_startAnew_0 : decode cX3_startAnew 0 = .ok (.aload_n 0, 1) := by decide +kernel
theorem dX3_startAnew_1 : decode cX3_startAnew 1 = .ok (.iconst 1, 1) := by decide +kernel
theorem dX3_startAnew_2 : decode cX3_startAnew 2 = .ok (.putfield 76, 3) := by decide +kernel
theorem dX3_startAnew_5 : decode cX3_startAnew 5 = .ok (.aload_n 0, 1) := by decide +kernel
theorem dX3_startAnew_6 : decode cX3_startAnew 6 = .ok (.getfield 69, 3) := by decide +kernel
theorem dX3_startAnew_9 : decode cX3_startAnew 9 = .ok (.iconst 1, 1) := by decide +kernel
theorem dX3_startAnew_10 : decode cX3_startAnew 10 = .ok (.putfield 80, 3) := by decide +kernel
theorem dX3_startAnew_13 : decode cX3_startAnew 13 = .ok (.aload_n 0, 1) := by decide +kernel
theorem dX3_startAnew_14 : decode cX3_startAnew 14 = .ok (.iconst 0, 1) := by decide +kernel
theorem dX3_startAnew_15 : decode cX3_startAnew 15 = .ok (.putfield 83, 3) := by decide +kernel
theorem dX3_startAnew_18 : decode cX3_startAnew 18 = .ok (.aload_n 0, 1) := by decide +kernel
theorem dX3_startAnew_19 : decode cX3_startAnew 19 = .ok (.iconst 0, 1) := by decide +kernel
theorem dX3_startAnew_20 : decode cX3_startAnew 20 = .ok (.putfield 87, 3) := by decide +kernel
theorem dX3_startAnew_23 : decode cX3_startAnew 23 = .ok (.return_, 1) := by decide +kernel
theorem dX3_isShort_0 : decode cX3_isShort 0 = .ok (.iload_n 1, 1) := by decide +kernel
theorem dX3_isShort_1 : decode cX3_isShort 1 = .ok (.ifCond .lt 15, 3) := by decide +kernel
theorem dX3_isShort_4 : decode cX3_isShort 4 = .ok (.iload_n 1, 1) := by decide +kernel
theorem dX3_isShort_5 : decode cX3_isShort 5 = .ok (.aload_n 0, 1) := by decide +kernel
theorem dX3_isShort_6 : decode cX3_isShort 6 = .ok (.getfield 76, 3) := by decide +kernel
theorem dX3_isShort_9 : decode cX3_isShort 9 = .ok (.if_icmp .ge 7, 3) := by decide +kernel
theorem dX3_isShort_12 : decode cX3_isShort 12 = .ok (.iconst 1, 1) := by decide +kernel
theorem dX3_isShort_13 : decode cX3_isShort 13 = .ok (.goto 4, 3) := by decide +kernel
theorem dX3_isShort_16 : decode cX3_isShort 16 = .ok (.iconst 0, 1) := by decide +kernel
theorem dX3_isShort_17 : decode cX3_isShort 17 = .ok (.ireturn, 1) := by decide +kernel
theorem dX3_isStanding_0 : decode cX3_isStanding 0 = .ok (.aload_n 0, 1) := by decide +kernel
theorem dX3_isStanding_1 : decode cX3_isStanding 1 = .ok (.getfield 90, 3) := by decide +kernel
theorem dX3_isStanding_4 : decode cX3_isStanding 4 = .ok (.ifCond .eq 11, 3) := by decide +kernel
theorem dX3_isStanding_7 : decode cX3_isStanding 7 = .ok (.aload_n 0, 1) := by decide +kernel
theorem dX3_isStanding_8 : decode cX3_isStanding 8 = .ok (.getfield 90, 3) := by decide +kernel
theorem dX3_isStanding_11 : decode cX3_isStanding 11 = .ok (.iconst 3, 1) := by decide +kernel
theorem dX3_isStanding_12 : decode cX3_isStanding 12 = .ok (.if_icmp .ne 7, 3) := by decide +kernel
theorem dX3_isStanding_15 : decode cX3_isStanding 15 = .ok (.iconst 1, 1) := by decide +kernel
theorem dX3_isStanding_16 : decode cX3_isStanding 16 = .ok (.goto 4, 3) := by decide +kernel
theorem dX3_isStanding_19 : decode cX3_isStanding 19 = .ok (.iconst 0, 1) := by decide +kernel
theorem dX3_isStanding_20 : decode cX3_isStanding 20 = .ok (.ireturn, 1) := by decide +kernel
theorem dX3_lookAtShortWords_0 : decode cX3_lookAtShortWords 0 = .ok (.aload_n 0, 1) := by decide +kernel
theorem dX3_lookAtShortWords_1 : decode cX3_lookAtShortWords 1 = .ok (.getfield 83, 3) := by decide +kernel
theorem dX3_lookAtShortWords_4 : decode cX3_lookAtShortWords 4 = .ok (.ifCond .eq 4, 3) := by decide +kernel
theorem dX3_lookAtShortWords_7 : decode cX3_lookAtShortWords 7 = .ok (.return_, 1) := by decide +kernel
theorem dX3_lookAtShortWords_8 : decode cX3_lookAtShortWords 8 = .ok (.aload_n 0, 1) := by decide +kernel
theorem dX3_lookAtShortWords_9 : decode cX3_lookAtShortWords 9 = .ok (.iconst 1, 1) := by decide +kernel
theorem dX3_lookAtShortWords_10 : decode cX3_lookAtShortWords 10 = .ok (.putfield 83, 3) := by decide +kernel
theorem dX3_lookAtShortWords_13 : decode cX3_lookAtShortWords 13 = .ok (.iconst 0, 1) := by decide +kernel
theorem dX3_lookAtShortWords_14 : decode cX3_lookAtShortWords 14 = .ok (.istore_n 1, 1) := by decide +kernel
theorem dX3_lookAtShortWords_15 : decode cX3_lookAtShortWords 15 = .ok (.iload_n 1, 1) := by decide +kernel
theorem dX3_lookAtShortWords_16 : decode cX3_lookAtShortWords 16 = .ok (.aload_n 0, 1) := by decide +kernel
theorem dX3_lookAtShortWords_17 : decode cX3_lookAtShortWords 17 = .ok (.getfield 76, 3) := by decide +kernel
theorem dX3_lookAtShortWords_20 : decode cX3_lookAtShortWords 20 = .ok (.if_icmp .ge 28, 3) := by decide +kernel
theorem dX3_lookAtShortWords_23 : decode cX3_lookAtShortWords 23 = .ok (.aload_n 0, 1) := by decide +kernel
theorem dX3_lookAtShortWords_24 : decode cX3_lookAtShortWords 24 = .ok (.getfield 19, 3) := by decide +kernel
theorem dX3_lookAtShortWords_27 : decode cX3_lookAtShortWords 27 = .ok (.iload_n 1, 1) := by decide +kernel
theorem dX3_lookAtShortWords_28 : decode cX3_lookAtShortWords 28 = .ok (.aaload, 1) := by decide +kernel
theorem dX3_lookAtShortWords_29 : decode cX3_lookAtShortWords 29 = .ok (.aload_n 0, 1) := by decide +kernel
theorem dX3_lookAtShortWords_30 : decode cX3_lookAtShortWords 30 = .ok (.getfield 69, 3) := by decide +kernel
theorem dX3_lookAtShortWords_33 : decode cX3_lookAtShortWords 33 = .ok (.aload_n 0, 1) := by decide +kernel
theorem dX3_lookAtShortWords_34 : decode cX3_lookAtShortWords 34 = .ok (.getfield 11, 3) := by decide +kernel
theorem dX3_lookAtShortWords_37 : decode cX3_lookAtShortWords 37 = .ok (.iload_n 1, 1) := by decide +kernel
theorem dX3_lookAtShortWords_38 : decode cX3_lookAtShortWords 38 = .ok (.aaload, 1) := by decide +kernel
theorem dX3_lookAtShortWords_39 : decode cX3_lookAtShortWords 39 = .ok (.invokevirtual 93, 3) := by decide +kernel
theorem dX3_lookAtShortWords_42 : decode cX3_lookAtShortWords 42 = .ok (.iinc 1 1, 3) := by decide +kernel
theorem dX3_lookAtShortWords_45 : decode cX3_lookAtShortWords 45 = .ok (.goto (-30), 3) := by decide +kernel
theorem dX3_lookAtShortWords_48 : decode cX3_lookAtShortWords 48 = .ok (.return_, 1) := by decide +kernel
theorem dX3_lookAt_0 : decode cX3_lookAt 0 = .ok (.aload_n 0, 1) := by decide +kernel
theorem dX3_lookAt_1 : decode cX3_lookAt 1 = .ok (.getfield 40, 3) := by decide +kernel
theorem dX3_lookAt_4 : decode cX3_lookAt 4 = .ok (.aload_n 1, 1) := by decide +kernel
theorem dX3_lookAt_5 : decode cX3_lookAt 5 = .ok (.invokevirtual 97, 3) := by decide +kernel
theorem dX3_lookAt_8 : decode cX3_lookAt 8 = .ok (.aload_n 0, 1) := by decide +kernel
theorem dX3_lookAt_9 : decode cX3_lookAt 9 = .ok (.getfield 24, 3) := by decide +kernel
theorem dX3_lookAt_12 : decode cX3_lookAt 12 = .ok (.aload_n 0, 1) := by decide +kernel
theorem dX3_lookAt_13 : decode cX3_lookAt 13 = .ok (.getfield 69, 3) := by decide +kernel
theorem dX3_lookAt_16 : decode cX3_lookAt 16 = .ok (.aload_n 0, 1) := by decide +kernel
theorem dX3_lookAt_17 : decode cX3_lookAt 17 = .ok (.getfield 40, 3) := by decide +kernel
theorem dX3_lookAt_20 : decode cX3_lookAt 20 = .ok (.invokevirtual 93, 3) := by decide +kernel
theorem dX3_lookAt_23 : decode cX3_lookAt 23 = .ok (.return_, 1) := by decide +kernel
theorem dX3_makeLonger_0 : decode cX3_makeLonger 0 = .ok (.aload_n 0, 1) := by decide +kernel
theorem dX3_makeLonger_1 : decode cX3_makeLonger 1 = .ok (.getfield 40, 3) := by decide +kernel
theorem dX3_makeLonger_4 : decode cX3_makeLonger 4 = .ok (.aload_n 0, 1) := by decide +kernel
theorem dX3_makeLonger_5 : decode cX3_makeLonger 5 = .ok (.getfield 11, 3) := by decide +kernel
theorem dX3_makeLonger_8 : decode cX3_makeLonger 8 = .ok (.iload_n 1, 1) := by decide +kernel
theorem dX3_makeLonger_9 : decode cX3_makeLonger 9 = .ok (.aaload, 1) := by decide +kernel
theorem dX3_makeLonger_10 : decode cX3_makeLonger 10 = .ok (.invokevirtual 101, 3) := by decide +kernel
theorem dX3_makeLonger_13 : decode cX3_makeLonger 13 = .ok (.aload_n 0, 1) := by decide +kernel
theorem dX3_makeLonger_14 : decode cX3_makeLonger 14 = .ok (.getfield 40, 3) := by decide +kernel
theorem dX3_makeLonger_17 : decode cX3_makeLonger 17 = .ok (.iload_n 2, 1) := by decide +kernel
theorem dX3_makeLonger_18 : decode cX3_makeLonger 18 = .ok (.iload_n 3, 1) := by decide +kernel
theorem dX3_makeLonger_19 : decode cX3_makeLonger 19 = .ok (.invokevirtual 104, 3) := by decide +kernel
theorem dX3_makeLonger_22 : decode cX3_makeLonger 22 = .ok (.return_, 1) := by decide +kernel
theorem dX3_lookAtLonger_0 : decode cX3_lookAtLonger 0 = .ok (.aload_n 0, 1) := by decide +kernel
theorem dX3_lookAtLonger_1 : decode cX3_lookAtLonger 1 = .ok (.iload_n 1, 1) := by decide +kernel
theorem dX3_lookAtLonger_2 : decode cX3_lookAtLonger 2 = .ok (.iload_n 2, 1) := by decide +kernel
theorem dX3_lookAtLonger_3 : decode cX3_lookAtLonger 3 = .ok (.iload_n 3, 1) := by decide +kernel
theorem dX3_lookAtLonger_4 : decode cX3_lookAtLonger 4 = .ok (.invokevirtual 108, 3) := by decide +kernel
theorem dX3_lookAtLonger_7 : decode cX3_lookAtLonger 7 = .ok (.aload_n 0, 1) := by decide +kernel
theorem dX3_lookAtLonger_8 : decode cX3_lookAtLonger 8 = .ok (.getfield 24, 3) := by decide +kernel
theorem dX3_lookAtLonger_11 : decode cX3_lookAtLonger 11 = .ok (.aload_n 0, 1) := by decide +kernel
theorem dX3_lookAtLonger_12 : decode cX3_lookAtLonger 12 = .ok (.getfield 69, 3) := by decide +kernel
theorem dX3_lookAtLonger_15 : decode cX3_lookAtLonger 15 = .ok (.aload_n 0, 1) := by decide +kernel
theorem dX3_lookAtLonger_16 : decode cX3_lookAtLonger 16 = .ok (.getfield 40, 3) := by decide +kernel
theorem dX3_lookAtLonger_19 : decode cX3_lookAtLonger 19 = .ok (.invokevirtual 93, 3) := by decide +kernel
theorem dX3_lookAtLonger_22 : decode cX3_lookAtLonger 22 = .ok (.return_, 1) := by decide +kernel
theorem dX3_firstAlike_0 : decode cX3_firstAlike 0 = .ok (.iconst 0, 1) := by decide +kernel
theorem dX3_firstAlike_1 : decode cX3_firstAlike 1 = .ok (.istore_n 1, 1) := by decide +kernel
theorem dX3_firstAlike_2 : decode cX3_firstAlike 2 = .ok (.iload_n 1, 1) := by decide +kernel
theorem dX3_firstAlike_3 : decode cX3_firstAlike 3 = .ok (.aload_n 0, 1) := by decide +kernel
theorem dX3_firstAlike_4 : decode cX3_firstAlike 4 = .ok (.getfield 76, 3) := by decide +kernel
theorem dX3_firstAlike_7 : decode cX3_firstAlike 7 = .ok (.if_icmp .ge 28, 3) := by decide +kernel
theorem dX3_firstAlike_10 : decode cX3_firstAlike 10 = .ok (.aload_n 0, 1) := by decide +kernel
theorem dX3_firstAlike_11 : decode cX3_firstAlike 11 = .ok (.getfield 24, 3) := by decide +kernel
theorem dX3_firstAlike_14 : decode cX3_firstAlike 14 = .ok (.aload_n 0, 1) := by decide +kernel
theorem dX3_firstAlike_15 : decode cX3_firstAlike 15 = .ok (.getfield 19, 3) := by decide +kernel
theorem dX3_firstAlike_18 : decode cX3_firstAlike 18 = .ok (.iload_n 1, 1) := by decide +kernel
theorem dX3_firstAlike_19 : decode cX3_firstAlike 19 = .ok (.aaload, 1) := by decide +kernel
theorem dX3_firstAlike_20 : decode cX3_firstAlike 20 = .ok (.invokevirtual 112, 3) := by decide +kernel
theorem dX3_firstAlike_23 : decode cX3_firstAlike 23 = .ok (.iconst (-1), 1) := by decide +kernel
theorem dX3_firstAlike_24 : decode cX3_firstAlike 24 = .ok (.if_icmp .eq 5, 3) := by decide +kernel
theorem dX3_firstAlike_27 : decode cX3_firstAlike 27 = .ok (.iload_n 1, 1) := by decide +kernel
theorem dX3_firstAlike_28 : decode cX3_firstAlike 28 = .ok (.ireturn, 1) := by decide +kernel
theorem dX3_firstAlike_29 : decode cX3_firstAlike 29 = .ok (.iinc 1 1, 3) := by decide +kernel
theorem dX3_firstAlike_32 : decode cX3_firstAlike 32 = .ok (.goto (-30), 3) := by decide +kernel
theorem dX3_firstAlike_35 : decode cX3_firstAlike 35 = .ok (.iconst (-1), 1) := by decide +kernel
theorem dX3_firstAlike_36 : decode cX3_firstAlike 36 = .ok (.ireturn, 1) := by decide +kernel
theorem dX3_mostKept_0 : decode cX3_mostKept 0 = .ok (.iconst 0, 1) := by decide +kernel
theorem dX3_mostKept_1 : decode cX3_mostKept 1 = .ok (.istore_n 1, 1) := by decide +kernel
theorem dX3_mostKept_2 : decode cX3_mostKept 2 = .ok (.iconst 0, 1) := by decide +kernel
theorem dX3_mostKept_3 : decode cX3_mostKept 3 = .ok (.istore_n 2, 1) := by decide +kernel
theorem dX3_mostKept_4 : decode cX3_mostKept 4 = .ok (.iload_n 2, 1) := by decide +kernel
theorem dX3_mostKept_5 : decode cX3_mostKept 5 = .ok (.aload_n 0, 1) := by decide +kernel
theorem dX3_mostKept_6 : decode cX3_mostKept 6 = .ok (.getfield 76, 3) := by decide +kernel
theorem dX3_mostKept_9 : decode cX3_mostKept 9 = .ok (.if_icmp .ge 23, 3) := by decide +kernel
theorem dX3_mostKept_12 : decode cX3_mostKept 12 = .ok (.iload_n 1, 1) := by decide +kernel
theorem dX3_mostKept_13 : decode cX3_mostKept 13 = .ok (.aload_n 0, 1) := by decide +kernel
theorem dX3_mostKept_14 : decode cX3_mostKept 14 = .ok (.getfield 19, 3) := by decide +kernel
theorem dX3_mostKept_17 : decode cX3_mostKept 17 = .ok (.iload_n 2, 1) := by decide +kernel
theorem dX3_mostKept_18 : decode cX3_mostKept 18 = .ok (.aaload, 1) := by decide +kernel
theorem dX3_mostKept_19 : decode cX3_mostKept 19 = .ok (.getfield 116, 3) := by decide +kernel
theorem dX3_mostKept_22 : decode cX3_mostKept 22 = .ok (.invokestatic 119, 3) := by decide +kernel
theorem dX3_mostKept_25 : decode cX3_mostKept 25 = .ok (.istore_n 1, 1) := by decide +kernel
theorem dX3_mostKept_26 : decode cX3_mostKept 26 = .ok (.iinc 2 1, 3) := by decide +kernel
theorem dX3_mostKept_29 : decode cX3_mostKept 29 = .ok (.goto (-25), 3) := by decide +kernel
theorem dX3_mostKept_32 : decode cX3_mostKept 32 = .ok (.iload_n 1, 1) := by decide +kernel
theorem dX3_mostKept_33 : decode cX3_mostKept 33 = .ok (.ireturn, 1) := by decide +kernel
theorem dX3_countLongWords_0 : decode cX3_countLongWords 0 = .ok (.aload_n 0, 1) := by decide +kernel
theorem dX3_countLongWords_1 : decode cX3_countLongWords 1 = .ok (.invokevirtual 125, 3) := by decide +kernel
theorem dX3_countLongWords_4 : decode cX3_countLongWords 4 = .ok (.iconst 0, 1) := by decide +kernel
theorem dX3_countLongWords_5 : decode cX3_countLongWords 5 = .ok (.istore_n 1, 1) := by decide +kernel
theorem dX3_countLongWords_6 : decode cX3_countLongWords 6 = .ok (.iconst 0, 1) := by decide +kernel
theorem dX3_countLongWords_7 : decode cX3_countLongWords 7 = .ok (.istore_n 2, 1) := by decide +kernel
theorem dX3_countLongWords_8 : decode cX3_countLongWords 8 = .ok (.iload_n 2, 1) := by decide +kernel
theorem dX3_countLongWords_9 : decode cX3_countLongWords 9 = .ok (.aload_n 0, 1) := by decide +kernel
theorem dX3_countLongWords_10 : decode cX3_countLongWords 10 = .ok (.getfield 76, 3) := by decide +kernel
theorem dX3_countLongWords_13 : decode cX3_countLongWords 13 = .ok (.if_icmp .ge 31, 3) := by decide +kernel
theorem dX3_countLongWords_16 : decode cX3_countLongWords 16 = .ok (.iload_n 1, 1) := by decide +kernel
theorem dX3_countLongWords_17 : decode cX3_countLongWords 17 = .ok (.aload_n 0, 1) := by decide +kernel
theorem dX3_countLongWords_18 : decode cX3_countLongWords 18 = .ok (.getfield 56, 3) := by decide +kernel
theorem dX3_countLongWords_21 : decode cX3_countLongWords 21 = .ok (.getfield 128, 3) := by decide +kernel
theorem dX3_countLongWords_24 : decode cX3_countLongWords 24 = .ok (.aload_n 0, 1) := by decide +kernel
theorem dX3_countLongWords_25 : decode cX3_countLongWords 25 = .ok (.getfield 19, 3) := by decide +kernel
theorem dX3_countLongWords_28 : decode cX3_countLongWords 28 = .ok (.iload_n 2, 1) := by decide +kernel
theorem dX3_countLongWords_29 : decode cX3_countLongWords 29 = .ok (.aaload, 1) := by decide +kernel
theorem dX3_countLongWords_30 : decode cX3_countLongWords 30 = .ok (.getfield 116, 3) := by decide +kernel
theorem dX3_countLongWords_33 : decode cX3_countLongWords 33 = .ok (.iconst 1, 1) := by decide +kernel
theorem dX3_countLongWords_34 : decode cX3_countLongWords 34 = .ok (.iadd, 1) := by decide +kernel
theorem dX3_countLongWords_35 : decode cX3_countLongWords 35 = .ok (.imul, 1) := by decide +kernel
theorem dX3_countLongWords_36 : decode cX3_countLongWords 36 = .ok (.iadd, 1) := by decide +kernel
theorem dX3_countLongWords_37 : decode cX3_countLongWords 37 = .ok (.istore_n 1, 1) := by decide +kernel
theorem dX3_countLongWords_38 : decode cX3_countLongWords 38 = .ok (.iinc 2 1, 3) := by decide +kernel
theorem dX3_countLongWords_41 : decode cX3_countLongWords 41 = .ok (.goto (-33), 3) := by decide +kernel
theorem dX3_countLongWords_44 : decode cX3_countLongWords 44 = .ok (.iload_n 1, 1) := by decide +kernel
theorem dX3_countLongWords_45 : decode cX3_countLongWords 45 = .ok (.ireturn, 1) := by decide +kernel
theorem dX3_countTakenShorts_0 : decode cX3_countTakenShorts 0 = .ok (.aload_n 0, 1) := by decide +kernel
theorem dX3_countTakenShorts_1 : decode cX3_countTakenShorts 1 = .ok (.invokevirtual 125, 3) := by decide +kernel
theorem dX3_countTakenShorts_4 : decode cX3_countTakenShorts 4 = .ok (.iconst 0, 1) := by decide +kernel
theorem dX3_countTakenShorts_5 : decode cX3_countTakenShorts 5 = .ok (.istore_n 1, 1) := by decide +kernel
theorem dX3_countTakenShorts_6 : decode cX3_countTakenShorts 6 = .ok (.iconst 0, 1) := by decide +kernel
theorem dX3_countTakenShorts_7 : decode cX3_countTakenShorts 7 = .ok (.istore_n 2, 1) := by decide +kernel
theorem dX3_countTakenShorts_8 : decode cX3_countTakenShorts 8 = .ok (.iload_n 2, 1) := by decide +kernel
theorem dX3_countTakenShorts_9 : decode cX3_countTakenShorts 9 = .ok (.aload_n 0, 1) := by decide +kernel
theorem dX3_countTakenShorts_10 : decode cX3_countTakenShorts 10 = .ok (.getfield 76, 3) := by decide +kernel
theorem dX3_countTakenShorts_13 : decode cX3_countTakenShorts 13 = .ok (.if_icmp .ge 31, 3) := by decide +kernel
theorem dX3_countTakenShorts_16 : decode cX3_countTakenShorts 16 = .ok (.aload_n 0, 1) := by decide +kernel
theorem dX3_countTakenShorts_17 : decode cX3_countTakenShorts 17 = .ok (.getfield 56, 3) := by decide +kernel
theorem dX3_countTakenShorts_20 : decode cX3_countTakenShorts 20 = .ok (.aload_n 0, 1) := by decide +kernel
theorem dX3_countTakenShorts_21 : decode cX3_countTakenShorts 21 = .ok (.getfield 19, 3) := by decide +kernel
theorem dX3_countTakenShorts_24 : decode cX3_countTakenShorts 24 = .ok (.iload_n 2, 1) := by decide +kernel
theorem dX3_countTakenShorts_25 : decode cX3_countTakenShorts 25 = .ok (.aaload, 1) := by decide +kernel
theorem dX3_countTakenShorts_26 : decode cX3_countTakenShorts 26 = .ok (.getfield 133, 3) := by decide +kernel
theorem dX3_countTakenShorts_29 : decode cX3_countTakenShorts 29 = .ok (.invokevirtual 136, 3) := by decide +kernel
theorem dX3_countTakenShorts_32 : decode cX3_countTakenShorts 32 = .ok (.ifCond .eq 6, 3) := by decide +kernel
theorem dX3_countTakenShorts_35 : decode cX3_countTakenShorts 35 = .ok (.iinc 1 1, 3) := by decide +kernel
theorem dX3_countTakenShorts_38 : decode cX3_countTakenShorts 38 = .ok (.iinc 2 1, 3) := by decide +kernel
theorem dX3_countTakenShorts_41 : decode cX3_countTakenShorts 41 = .ok (.goto (-33), 3) := by decide +kernel
theorem dX3_countTakenShorts_44 : decode cX3_countTakenShorts 44 = .ok (.iload_n 1, 1) := by decide +kernel
theorem dX3_countTakenShorts_45 : decode cX3_countTakenShorts 45 = .ok (.ireturn, 1) := by decide +kernel
theorem dX3_makeStep_0 : decode cX3_makeStep 0 = .ok (.aload_n 0, 1) := by decide +kernel
theorem dX3_makeStep_1 : decode cX3_makeStep 1 = .ok (.getfield 90, 3) := by decide +kernel
theorem dX3_makeStep_4 : decode cX3_makeStep 4 = .ok (.ifCond .ne 5, 3) := by decide +kernel
theorem dX3_makeStep_7 : decode cX3_makeStep 7 = .ok (.iconst 0, 1) := by decide +kernel
theorem dX3_makeStep_8 : decode cX3_makeStep 8 = .ok (.ireturn, 1) := by decide +kernel
theorem dX3_makeStep_9 : decode cX3_makeStep 9 = .ok (.aload_n 0, 1) := by decide +kernel
theorem dX3_makeStep_10 : decode cX3_makeStep 10 = .ok (.getfield 140, 3) := by decide +kernel
theorem dX3_makeStep_13 : decode cX3_makeStep 13 = .ok (.ifCond .eq 6, 3) := by decide +kernel
theorem dX3_makeStep_16 : decode cX3_makeStep 16 = .ok (.bipush (-4), 2) := by decide +kernel
theorem dX3_makeStep_18 : decode cX3_makeStep 18 = .ok (.ireturn, 1) := by decide +kernel
theorem dX3_makeStep_19 : decode cX3_makeStep 19 = .ok (.aload_n 0, 1) := by decide +kernel
theorem dX3_makeStep_20 : decode cX3_makeStep 20 = .ok (.getfield 90, 3) := by decide +kernel
theorem dX3_makeStep_23 : decode cX3_makeStep 23 = .ok (.iconst 2, 1) := by decide +kernel
theorem dX3_makeStep_24 : decode cX3_makeStep 24 = .ok (.if_icmp .ne 32, 3) := by decide +kernel
theorem dX3_makeStep_27 : decode cX3_makeStep 27 = .ok (.aload_n 0, 1) := by decide +kernel
theorem dX3_makeStep_28 : decode cX3_makeStep 28 = .ok (.getfield 11, 3) := by decide +kernel
theorem dX3_makeStep_31 : decode cX3_makeStep 31 = .ok (.aload_n 0, 1) := by decide +kernel
theorem dX3_makeStep_32 : decode cX3_makeStep 32 = .ok (.getfield 76, 3) := by decide +kernel
theorem dX3_makeStep_35 : decode cX3_makeStep 35 = .ok (.aaload, 1) := by decide +kernel
theorem dX3_makeStep_36 : decode cX3_makeStep 36 = .ok (.aload_n 0, 1) := by decide +kernel
theorem dX3_makeStep_37 : decode cX3_makeStep 37 = .ok (.getfield 43, 3) := by decide +kernel
theorem dX3_makeStep_40 : decode cX3_makeStep 40 = .ok (.invokevirtual 97, 3) := by decide +kernel
theorem dX3_makeStep_43 : decode cX3_makeStep 43 = .ok (.aload_n 0, 1) := by decide +kernel
theorem dX3_makeStep_44 : decode cX3_makeStep 44 = .ok (.dup, 1) := by decide +kernel
theorem dX3_makeStep_45 : decode cX3_makeStep 45 = .ok (.getfield 76, 3) := by decide +kernel
theorem dX3_makeStep_48 : decode cX3_makeStep 48 = .ok (.iconst 1, 1) := by decide +kernel
theorem dX3_makeStep_49 : decode cX3_makeStep 49 = .ok (.iadd, 1) := by decide +kernel
theorem dX3_makeStep_50 : decode cX3_makeStep 50 = .ok (.putfield 76, 3) := by decide +kernel
theorem dX3_makeStep_53 : decode cX3_makeStep 53 = .ok (.goto 38, 3) := by decide +kernel
theorem dX3_makeStep_56 : decode cX3_makeStep 56 = .ok (.aload_n 0, 1) := by decide +kernel
theorem dX3_makeStep_57 : decode cX3_makeStep 57 = .ok (.getfield 69, 3) := by decide +kernel
theorem dX3_makeStep_60 : decode cX3_makeStep 60 = .ok (.getfield 143, 3) := by decide +kernel
theorem dX3_makeStep_63 : decode cX3_makeStep 63 = .ok (.aload_n 0, 1) := by decide +kernel
theorem dX3_makeStep_64 : decode cX3_makeStep 64 = .ok (.getfield 69, 3) := by decide +kernel
theorem dX3_makeStep_67 : decode cX3_makeStep 67 = .ok (.getfield 80, 3) := by decide +kernel
theorem dX3_makeStep_70 : decode cX3_makeStep 70 = .ok (.aaload, 1) := by decide +kernel
theorem dX3_makeStep_71 : decode cX3_makeStep 71 = .ok (.aload_n 0, 1) := by decide +kernel
theorem dX3_makeStep_72 : decode cX3_makeStep 72 = .ok (.getfield 43, 3) := by decide +kernel
theorem dX3_makeStep_75 : decode cX3_makeStep 75 = .ok (.invokevirtual 97, 3) := by decide +kernel
theorem dX3_makeStep_78 : decode cX3_makeStep 78 = .ok (.aload_n 0, 1) := by decide +kernel
theorem dX3_makeStep_79 : decode cX3_makeStep 79 = .ok (.getfield 69, 3) := by decide +kernel
theorem dX3_makeStep_82 : decode cX3_makeStep 82 = .ok (.dup, 1) := by decide +kernel
theorem dX3_makeStep_83 : decode cX3_makeStep 83 = .ok (.getfield 80, 3) := by decide +kernel
theorem dX3_makeStep_86 : decode cX3_makeStep 86 = .ok (.iconst 1, 1) := by decide +kernel
theorem dX3_makeStep_87 : decode cX3_makeStep 87 = .ok (.iadd, 1) := by decide +kernel
theorem dX3_makeStep_88 : decode cX3_makeStep 88 = .ok (.putfield 80, 3) := by decide +kernel
theorem dX3_makeStep_91 : decode cX3_makeStep 91 = .ok (.aload_n 0, 1) := by decide +kernel
theorem dX3_makeStep_92 : decode cX3_makeStep 92 = .ok (.iconst 0, 1) := by decide +kernel
theorem dX3_makeStep_93 : decode cX3_makeStep 93 = .ok (.putfield 83, 3) := by decide +kernel
theorem dX3_makeStep_96 : decode cX3_makeStep 96 = .ok (.aload_n 0, 1) := by decide +kernel
theorem dX3_makeStep_97 : decode cX3_makeStep 97 = .ok (.iconst 0, 1) := by decide +kernel
theorem dX3_makeStep_98 : decode cX3_makeStep 98 = .ok (.putfield 87, 3) := by decide +kernel
theorem dX3_makeStep_101 : decode cX3_makeStep 101 = .ok (.aload_n 0, 1) := by decide +kernel
theorem dX3_makeStep_102 : decode cX3_makeStep 102 = .ok (.getfield 90, 3) := by decide +kernel
theorem dX3_makeStep_105 : decode cX3_makeStep 105 = .ok (.ireturn, 1) := by decide +kernel
theorem dX3_findMissed_0 : decode cX3_findMissed 0 = .ok (.iconst 0, 1) := by decide +kernel
theorem dX3_findMissed_1 : decode cX3_findMissed 1 = .ok (.istore_n 2, 1) := by decide +kernel
theorem dX3_findMissed_2 : decode cX3_findMissed 2 = .ok (.iload_n 2, 1) := by decide +kernel
theorem dX3_findMissed_3 : decode cX3_findMissed 3 = .ok (.aload_n 0, 1) := by decide +kernel
theorem dX3_findMissed_4 : decode cX3_findMissed 4 = .ok (.getfield 24, 3) := by decide +kernel
theorem dX3_findMissed_7 : decode cX3_findMissed 7 = .ok (.getfield 194, 3) := by decide +kernel
theorem dX3_findMissed_10 : decode cX3_findMissed 10 = .ok (.if_icmp .ge 61, 3) := by decide +kernel
theorem dX3_findMissed_13 : decode cX3_findMissed 13 = .ok (.aload_n 0, 1) := by decide +kernel
theorem dX3_findMissed_14 : decode cX3_findMissed 14 = .ok (.getfield 24, 3) := by decide +kernel
theorem dX3_findMissed_17 : decode cX3_findMissed 17 = .ok (.getfield 197, 3) := by decide +kernel
theorem dX3_findMissed_20 : decode cX3_findMissed 20 = .ok (.iload_n 2, 1) := by decide +kernel
theorem dX3_findMissed_21 : decode cX3_findMissed 21 = .ok (.iaload, 1) := by decide +kernel
theorem dX3_findMissed_22 : decode cX3_findMissed 22 = .ok (.istore_n 3, 1) := by decide +kernel
theorem dX3_findMissed_23 : decode cX3_findMissed 23 = .ok (.aload_n 0, 1) := by decide +kernel
theorem dX3_findMissed_24 : decode cX3_findMissed 24 = .ok (.getfield 24, 3) := by decide +kernel
theorem dX3_findMissed_27 : decode cX3_findMissed 27 = .ok (.getfield 200, 3) := by decide +kernel
theorem dX3_findMissed_30 : decode cX3_findMissed 30 = .ok (.iload_n 2, 1) := by decide +kernel
theorem dX3_findMissed_31 : decode cX3_findMissed 31 = .ok (.iaload, 1) := by decide +kernel
theorem dX3_findMissed_32 : decode cX3_findMissed 32 = .ok (.iconst (-1), 1) := by decide +kernel
theorem dX3_findMissed_33 : decode cX3_findMissed 33 = .ok (.if_icmp .eq 32, 3) := by decide +kernel
theorem dX3_findMissed_36 : decode cX3_findMissed 36 = .ok (.iload_n 3, 1) := by decide +kernel
theorem dX3_findMissed_37 : decode cX3_findMissed 37 = .ok (.aload_n 0, 1) := by decide +kernel
theorem dX3_findMissed_38 : decode cX3_findMissed 38 = .ok (.getfield 11, 3) := by decide +kernel
theorem dX3_findMissed_41 : decode cX3_findMissed 41 = .ok (.iload_n 1, 1) := by decide +kernel
theorem dX3_findMissed_42 : decode cX3_findMissed 42 = .ok (.aaload, 1) := by decide +kernel
theorem dX3_findMissed_43 : decode cX3_findMissed 43 = .ok (.getfield 165, 3) := by decide +kernel
theorem dX3_findMissed_46 : decode cX3_findMissed 46 = .ok (.if_icmp .ge 19, 3) := by decide +kernel
theorem dX3_findMissed_49 : decode cX3_findMissed 49 = .ok (.aload_n 0, 1) := by decide +kernel
theorem dX3_findMissed_50 : decode cX3_findMissed 50 = .ok (.getfield 19, 3) := by decide +kernel
theorem dX3_findMissed_53 : decode cX3_findMissed 53 = .ok (.iload_n 1, 1) := by decide +kernel
theorem dX3_findMissed_54 : decode cX3_findMissed 54 = .ok (.aaload, 1) := by decide +kernel
theorem dX3_findMissed_55 : decode cX3_findMissed 55 = .ok (.iload_n 3, 1) := by decide +kernel
theorem dX3_findMissed_56 : decode cX3_findMissed 56 = .ok (.invokevirtual 203, 3) := by decide +kernel
theorem dX3_findMissed_59 : decode cX3_findMissed 59 = .ok (.iconst (-1), 1) := by decide +kernel
theorem dX3_findMissed_60 : decode cX3_findMissed 60 = .ok (.if_icmp .ne 5, 3) := by decide +kernel
theorem dX3_findMissed_63 : decode cX3_findMissed 63 = .ok (.iload_n 2, 1) := by decide +kernel
theorem dX3_findMissed_64 : decode cX3_findMissed 64 = .ok (.ireturn, 1) := by decide +kernel
theorem dX3_findMissed_65 : decode cX3_findMissed 65 = .ok (.iinc 2 1, 3) := by decide +kernel
theorem dX3_findMissed_68 : decode cX3_findMissed 68 = .ok (.goto (-66), 3) := by decide +kernel
theorem dX3_findMissed_71 : decode cX3_findMissed 71 = .ok (.iconst (-1), 1) := by decide +kernel
theorem dX3_findMissed_72 : decode cX3_findMissed 72 = .ok (.ireturn, 1) := by decide +kernel
theorem dX3_proposeShown_0 : decode cX3_proposeShown 0 = .ok (.aload_n 0, 1) := by decide +kernel
theorem dX3_proposeShown_1 : decode cX3_proposeShown 1 = .ok (.getfield 69, 3) := by decide +kernel
theorem dX3_proposeShown_4 : decode cX3_proposeShown 4 = .ok (.getfield 143, 3) := by decide +kernel
theorem dX3_proposeShown_7 : decode cX3_proposeShown 7 = .ok (.aload_n 0, 1) := by decide +kernel
theorem dX3_proposeShown_8 : decode cX3_proposeShown 8 = .ok (.getfield 24, 3) := by decide +kernel
theorem dX3_proposeShown_11 : decode cX3_proposeShown 11 = .ok (.getfield 200, 3) := by decide +kernel
theorem dX3_proposeShown_14 : decode cX3_proposeShown 14 = .ok (.iload_n 3, 1) := by decide +kernel
theorem dX3_proposeShown_15 : decode cX3_proposeShown 15 = .ok (.iaload, 1) := by decide +kernel
theorem dX3_proposeShown_16 : decode cX3_proposeShown 16 = .ok (.aaload, 1) := by decide +kernel
theorem dX3_proposeShown_17 : decode cX3_proposeShown 17 = .ok (.astore 4, 2) := by decide +kernel
theorem dX3_proposeShown_19 : decode cX3_proposeShown 19 = .ok (.aload_n 0, 1) := by decide +kernel
theorem dX3_proposeShown_20 : decode cX3_proposeShown 20 = .ok (.getfield 69, 3) := by decide +kernel
theorem dX3_proposeShown_23 : decode cX3_proposeShown 23 = .ok (.aload_n 0, 1) := by decide +kernel
theorem dX3_proposeShown_24 : decode cX3_proposeShown 24 = .ok (.getfield 24, 3) := by decide +kernel
theorem dX3_proposeShown_27 : decode cX3_proposeShown 27 = .ok (.getfield 206, 3) := by decide +kernel
theorem dX3_proposeShown_30 : decode cX3_proposeShown 30 = .ok (.iload_n 3, 1) := by decide +kernel
theorem dX3_proposeShown_31 : decode cX3_proposeShown 31 = .ok (.iaload, 1) := by decide +kernel
theorem dX3_proposeShown_32 : decode cX3_proposeShown 32 = .ok (.aload 4, 2) := by decide +kernel
theorem dX3_proposeShown_34 : decode cX3_proposeShown 34 = .ok (.aload_n 0, 1) := by decide +kernel
theorem dX3_proposeShown_35 : decode cX3_proposeShown 35 = .ok (.getfield 24, 3) := by decide +kernel
theorem dX3_proposeShown_38 : decode cX3_proposeShown 38 = .ok (.getfield 197, 3) := by decide +kernel
theorem dX3_proposeShown_41 : decode cX3_proposeShown 41 = .ok (.aload_n 0, 1) := by decide +kernel
theorem dX3_proposeShown_42 : decode cX3_proposeShown 42 = .ok (.getfield 24, 3) := by decide +kernel
theorem dX3_proposeShown_45 : decode cX3_proposeShown 45 = .ok (.getfield 194, 3) := by decide +kernel
theorem dX3_proposeShown_48 : decode cX3_proposeShown 48 = .ok (.invokevirtual 209, 3) := by decide +kernel
theorem dX3_proposeShown_51 : decode cX3_proposeShown 51 = .ok (.pop, 1) := by decide +kernel
theorem dX3_proposeShown_52 : decode cX3_proposeShown 52 = .ok (.aload_n 0, 1) := by decide +kernel
theorem dX3_proposeShown_53 : decode cX3_proposeShown 53 = .ok (.getfield 43, 3) := by decide +kernel
theorem dX3_proposeShown_56 : decode cX3_proposeShown 56 = .ok (.invokevirtual 213, 3) := by decide +kernel
theorem dX3_proposeShown_59 : decode cX3_proposeShown 59 = .ok (.aload_n 0, 1) := by decide +kernel
theorem dX3_proposeShown_60 : decode cX3_proposeShown 60 = .ok (.getfield 43, 3) := by decide +kernel
theorem dX3_proposeShown_63 : decode cX3_proposeShown 63 = .ok (.iload_n 1, 1) := by decide +kernel
theorem dX3_proposeShown_64 : decode cX3_proposeShown 64 = .ok (.iload_n 2, 1) := by decide +kernel
theorem dX3_proposeShown_65 : decode cX3_proposeShown 65 = .ok (.invokevirtual 104, 3) := by decide +kernel
theorem dX3_proposeShown_68 : decode cX3_proposeShown 68 = .ok (.iconst 0, 1) := by decide +kernel
theorem dX3_proposeShown_69 : decode cX3_proposeShown 69 = .ok (.istore 5, 2) := by decide +kernel
theorem dX3_proposeShown_71 : decode cX3_proposeShown 71 = .ok (.iload 5, 2) := by decide +kernel
theorem dX3_proposeShown_73 : decode cX3_proposeShown 73 = .ok (.aload 4, 2) := by decide +kernel
theorem dX3_proposeShown_75 : decode cX3_proposeShown 75 = .ok (.getfield 162, 3) := by decide +kernel
theorem dX3_proposeShown_78 : decode cX3_proposeShown 78 = .ok (.if_icmp .ge 40, 3) := by decide +kernel
theorem dX3_proposeShown_81 : decode cX3_proposeShown 81 = .ok (.aload_n 0, 1) := by decide +kernel
theorem dX3_proposeShown_82 : decode cX3_proposeShown 82 = .ok (.getfield 43, 3) := by decide +kernel
theorem dX3_proposeShown_85 : decode cX3_proposeShown 85 = .ok (.aload 4, 2) := by decide +kernel
theorem dX3_proposeShown_87 : decode cX3_proposeShown 87 = .ok (.getfield 214, 3) := by decide +kernel
theorem dX3_proposeShown_90 : decode cX3_proposeShown 90 = .ok (.iload 5, 2) := by decide +kernel
theorem dX3_proposeShown_92 : decode cX3_proposeShown 92 = .ok (.iaload, 1) := by decide +kernel
theorem dX3_proposeShown_93 : decode cX3_proposeShown 93 = .ok (.aload_n 0, 1) := by decide +kernel
theorem dX3_proposeShown_94 : decode cX3_proposeShown 94 = .ok (.getfield 69, 3) := by decide +kernel
theorem dX3_proposeShown_97 : decode cX3_proposeShown 97 = .ok (.getfield 216, 3) := by decide +kernel
theorem dX3_proposeShown_100 : decode cX3_proposeShown 100 = .ok (.aload 4, 2) := by decide +kernel
theorem dX3_proposeShown_102 : decode cX3_proposeShown 102 = .ok (.getfield 219, 3) := by decide +kernel
theorem dX3_proposeShown_105 : decode cX3_proposeShown 105 = .ok (.iload 5, 2) := by decide +kernel
theorem dX3_proposeShown_107 : decode cX3_proposeShown 107 = .ok (.iaload, 1) := by decide +kernel
theorem dX3_proposeShown_108 : decode cX3_proposeShown 108 = .ok (.iaload, 1) := by decide +kernel
theorem dX3_proposeShown_109 : decode cX3_proposeShown 109 = .ok (.invokevirtual 104, 3) := by decide +kernel
theorem dX3_proposeShown_112 : decode cX3_proposeShown 112 = .ok (.iinc 5 1, 3) := by decide +kernel
theorem dX3_proposeShown_115 : decode cX3_proposeShown 115 = .ok (.goto (-44), 3) := by decide +kernel
theorem dX3_proposeShown_118 : decode cX3_proposeShown 118 = .ok (.return_, 1) := by decide +kernel
theorem dX3_fillOf_0 : decode cX3_fillOf 0 = .ok (.iload_n 2, 1) := by decide +kernel
theorem dX3_fillOf_1 : decode cX3_fillOf 1 = .ok (.aload_n 0, 1) := by decide +kernel
theorem dX3_fillOf_2 : decode cX3_fillOf 2 = .ok (.getfield 24, 3) := by decide +kernel
theorem dX3_fillOf_5 : decode cX3_fillOf 5 = .ok (.getfield 116, 3) := by decide +kernel
theorem dX3_fillOf_8 : decode cX3_fillOf 8 = .ok (.if_icmp .lt 5, 3) := by decide +kernel
theorem dX3_fillOf_11 : decode cX3_fillOf 11 = .ok (.iconst (-1), 1) := by decide +kernel
theorem dX3_fillOf_12 : decode cX3_fillOf 12 = .ok (.ireturn, 1) := by decide +kernel
theorem dX3_fillOf_13 : decode cX3_fillOf 13 = .ok (.iload_n 3, 1) := by decide +kernel
theorem dX3_fillOf_14 : decode cX3_fillOf 14 = .ok (.iconst 1, 1) := by decide +kernel
theorem dX3_fillOf_15 : decode cX3_fillOf 15 = .ok (.if_icmp .ne 9, 3) := by decide +kernel
theorem dX3_fillOf_18 : decode cX3_fillOf 18 = .ok (.iconst 1, 1) := by decide +kernel
theorem dX3_fillOf_19 : decode cX3_fillOf 19 = .ok (.iload_n 2, 1) := by decide +kernel
theorem dX3_fillOf_20 : decode cX3_fillOf 20 = .ok (.isub, 1) := by decide +kernel
theorem dX3_fillOf_21 : decode cX3_fillOf 21 = .ok (.goto 4, 3) := by decide +kernel
theorem dX3_fillOf_24 : decode cX3_fillOf 24 = .ok (.iload_n 2, 1) := by decide +kernel
theorem dX3_fillOf_25 : decode cX3_fillOf 25 = .ok (.istore 4, 2) := by decide +kernel
theorem dX3_fillOf_27 : decode cX3_fillOf 27 = .ok (.aload_n 0, 1) := by decide +kernel
theorem dX3_fillOf_28 : decode cX3_fillOf 28 = .ok (.getfield 19, 3) := by decide +kernel
theorem dX3_fillOf_31 : decode cX3_fillOf 31 = .ok (.iload_n 1, 1) := by decide +kernel
theorem dX3_fillOf_32 : decode cX3_fillOf 32 = .ok (.aaload, 1) := by decide +kernel
theorem dX3_fillOf_33 : decode cX3_fillOf 33 = .ok (.aload_n 0, 1) := by decide +kernel
theorem dX3_fillOf_34 : decode cX3_fillOf 34 = .ok (.getfield 24, 3) := by decide +kernel
theorem dX3_fillOf_37 : decode cX3_fillOf 37 = .ok (.getfield 172, 3) := by decide +kernel
theorem dX3_fillOf_40 : decode cX3_fillOf 40 = .ok (.iload 4, 2) := by decide +kernel
theorem dX3_fillOf_42 : decode cX3_fillOf 42 = .ok (.iaload, 1) := by decide +kernel
theorem dX3_fillOf_43 : decode cX3_fillOf 43 = .ok (.invokevirtual 203, 3) := by decide +kernel
theorem dX3_fillOf_46 : decode cX3_fillOf 46 = .ok (.istore 5, 2) := by decide +kernel
theorem dX3_fillOf_48 : decode cX3_fillOf 48 = .ok (.iload 5, 2) := by decide +kernel
theorem dX3_fillOf_50 : decode cX3_fillOf 50 = .ok (.iconst (-1), 1) := by decide +kernel
theorem dX3_fillOf_51 : decode cX3_fillOf 51 = .ok (.if_icmp .ne 7, 3) := by decide +kernel
theorem dX3_fillOf_54 : decode cX3_fillOf 54 = .ok (.iconst 2, 1) := by decide +kernel
theorem dX3_fillOf_55 : decode cX3_fillOf 55 = .ok (.goto 5, 3) := by decide +kernel
theorem dX3_fillOf_58 : decode cX3_fillOf 58 = .ok (.iload 5, 2) := by decide +kernel
theorem dX3_fillOf_60 : decode cX3_fillOf 60 = .ok (.ireturn, 1) := by decide +kernel
theorem dX3_connect_0 : decode cX3_connect 0 = .ok (.aload_n 0, 1) := by decide +kernel
theorem dX3_connect_1 : decode cX3_connect 1 = .ok (.getfield 24, 3) := by decide +kernel
theorem dX3_connect_4 : decode cX3_connect 4 = .ok (.aload_n 0, 1) := by decide +kernel
theorem dX3_connect_5 : decode cX3_connect 5 = .ok (.getfield 19, 3) := by decide +kernel
theorem dX3_connect_8 : decode cX3_connect 8 = .ok (.iload_n 3, 1) := by decide +kernel
theorem dX3_connect_9 : decode cX3_connect 9 = .ok (.aaload, 1) := by decide +kernel
theorem dX3_connect_10 : decode cX3_connect 10 = .ok (.invokevirtual 112, 3) := by decide +kernel
theorem dX3_connect_13 : decode cX3_connect 13 = .ok (.istore 4, 2) := by decide +kernel
theorem dX3_connect_15 : decode cX3_connect 15 = .ok (.aload_n 0, 1) := by decide +kernel
theorem dX3_connect_16 : decode cX3_connect 16 = .ok (.getfield 31, 3) := by decide +kernel
theorem dX3_connect_19 : decode cX3_connect 19 = .ok (.iload_n 1, 1) := by decide +kernel
theorem dX3_connect_20 : decode cX3_connect 20 = .ok (.iload_n 3, 1) := by decide +kernel
theorem dX3_connect_21 : decode cX3_connect 21 = .ok (.aload_n 0, 1) := by decide +kernel
theorem dX3_connect_22 : decode cX3_connect 22 = .ok (.iload_n 2, 1) := by decide +kernel
theorem dX3_connect_23 : decode cX3_connect 23 = .ok (.iconst 0, 1) := by decide +kernel
theorem dX3_connect_24 : decode cX3_connect 24 = .ok (.iload 4, 2) := by decide +kernel
theorem dX3_connect_26 : decode cX3_connect 26 = .ok (.invokevirtual 222, 3) := by decide +kernel
theorem dX3_connect_29 : decode cX3_connect 29 = .ok (.aload_n 0, 1) := by decide +kernel
theorem dX3_connect_30 : decode cX3_connect 30 = .ok (.iload_n 2, 1) := by decide +kernel
theorem dX3_connect_31 : decode cX3_connect 31 = .ok (.iconst 1, 1) := by decide +kernel
theorem dX3_connect_32 : decode cX3_connect 32 = .ok (.iload 4, 2) := by decide +kernel
theorem dX3_connect_34 : decode cX3_connect 34 = .ok (.invokevirtual 222, 3) := by decide +kernel
theorem dX3_connect_37 : decode cX3_connect 37 = .ok (.invokevirtual 225, 3) := by decide +kernel
theorem dX3_connect_40 : decode cX3_connect 40 = .ok (.return_, 1) := by decide +kernel
theorem dX3_lookAtLongWord_0 : decode cX3_lookAtLongWord 0 = .ok (.iload_n 3, 1) := by decide +kernel
theorem dX3_lookAtLongWord_1 : decode cX3_lookAtLongWord 1 = .ok (.aload_n 0, 1) := by decide +kernel
theorem dX3_lookAtLongWord_2 : decode cX3_lookAtLongWord 2 = .ok (.getfield 19, 3) := by decide +kernel
theorem dX3_lookAtLongWord_5 : decode cX3_lookAtLongWord 5 = .ok (.iload_n 1, 1) := by decide +kernel
theorem dX3_lookAtLongWord_6 : decode cX3_lookAtLongWord 6 = .ok (.aaload, 1) := by decide +kernel
theorem dX3_lookAtLongWord_7 : decode cX3_lookAtLongWord 7 = .ok (.getfield 116, 3) := by decide +kernel
theorem dX3_lookAtLongWord_10 : decode cX3_lookAtLongWord 10 = .ok (.if_icmp .lt 7, 3) := by decide +kernel
theorem dX3_lookAtLongWord_13 : decode cX3_lookAtLongWord 13 = .ok (.iconst 1, 1) := by decide +kernel
theorem dX3_lookAtLongWord_14 : decode cX3_lookAtLongWord 14 = .ok (.goto 4, 3) := by decide +kernel
theorem dX3_lookAtLongWord_17 : decode cX3_lookAtLongWord 17 = .ok (.iconst 0, 1) := by decide +kernel
theorem dX3_lookAtLongWord_18 : decode cX3_lookAtLongWord 18 = .ok (.istore 4, 2) := by decide +kernel
theorem dX3_lookAtLongWord_20 : decode cX3_lookAtLongWord 20 = .ok (.iload 4, 2) := by decide +kernel
theorem dX3_lookAtLongWord_22 : decode cX3_lookAtLongWord 22 = .ok (.ifCond .eq 15, 3) := by decide +kernel
theorem dX3_lookAtLongWord_25 : decode cX3_lookAtLongWord 25 = .ok (.aload_n 0, 1) := by decide +kernel
theorem dX3_lookAtLongWord_26 : decode cX3_lookAtLongWord 26 = .ok (.getfield 11, 3) := by decide +kernel
theorem dX3_lookAtLongWord_29 : decode cX3_lookAtLongWord 29 = .ok (.iload_n 1, 1) := by decide +kernel
theorem dX3_lookAtLongWord_30 : decode cX3_lookAtLongWord 30 = .ok (.aaload, 1) := by decide +kernel
theorem dX3_lookAtLongWord_31 : decode cX3_lookAtLongWord 31 = .ok (.getfield 165, 3) := by decide +kernel
theorem dX3_lookAtLongWord_34 : decode cX3_lookAtLongWord 34 = .ok (.goto 14, 3) := by decide +kernel
theorem dX3_lookAtLongWord_37 : decode cX3_lookAtLongWord 37 = .ok (.aload_n 0, 1) := by decide +kernel
theorem dX3_lookAtLongWord_38 : decode cX3_lookAtLongWord 38 = .ok (.getfield 19, 3) := by decide +kernel
theorem dX3_lookAtLongWord_41 : decode cX3_lookAtLongWord 41 = .ok (.iload_n 1, 1) := by decide +kernel
theorem dX3_lookAtLongWord_42 : decode cX3_lookAtLongWord 42 = .ok (.aaload, 1) := by decide +kernel
theorem dX3_lookAtLongWord_43 : decode cX3_lookAtLongWord 43 = .ok (.getfield 172, 3) := by decide +kernel
theorem dX3_lookAtLongWord_46 : decode cX3_lookAtLongWord 46 = .ok (.iload_n 3, 1) := by decide +kernel
theorem dX3_lookAtLongWord_47 : decode cX3_lookAtLongWord 47 = .ok (.iaload, 1) := by decide +kernel
theorem dX3_lookAtLongWord_48 : decode cX3_lookAtLongWord 48 = .ok (.istore 5, 2) := by decide +kernel
theorem dX3_lookAtLongWord_50 : decode cX3_lookAtLongWord 50 = .ok (.aload_n 0, 1) := by decide +kernel
theorem dX3_lookAtLongWord_51 : decode cX3_lookAtLongWord 51 = .ok (.iload_n 1, 1) := by decide +kernel
theorem dX3_lookAtLongWord_52 : decode cX3_lookAtLongWord 52 = .ok (.iload_n 2, 1) := by decide +kernel
theorem dX3_lookAtLongWord_53 : decode cX3_lookAtLongWord 53 = .ok (.iload 5, 2) := by decide +kernel
theorem dX3_lookAtLongWord_55 : decode cX3_lookAtLongWord 55 = .ok (.invokevirtual 108, 3) := by decide +kernel
theorem dX3_lookAtLongWord_58 : decode cX3_lookAtLongWord 58 = .ok (.aload_n 0, 1) := by decide +kernel
theorem dX3_lookAtLongWord_59 : decode cX3_lookAtLongWord 59 = .ok (.getfield 24, 3) := by decide +kernel
theorem dX3_lookAtLongWord_62 : decode cX3_lookAtLongWord 62 = .ok (.aload_n 0, 1) := by decide +kernel
theorem dX3_lookAtLongWord_63 : decode cX3_lookAtLongWord 63 = .ok (.getfield 69, 3) := by decide +kernel
theorem dX3_lookAtLongWord_66 : decode cX3_lookAtLongWord 66 = .ok (.aload_n 0, 1) := by decide +kernel
theorem dX3_lookAtLongWord_67 : decode cX3_lookAtLongWord 67 = .ok (.getfield 40, 3) := by decide +kernel
theorem dX3_lookAtLongWord_70 : decode cX3_lookAtLongWord 70 = .ok (.invokevirtual 93, 3) := by decide +kernel
theorem dX3_lookAtLongWord_73 : decode cX3_lookAtLongWord 73 = .ok (.aload_n 0, 1) := by decide +kernel
theorem dX3_lookAtLongWord_74 : decode cX3_lookAtLongWord 74 = .ok (.iload_n 1, 1) := by decide +kernel
theorem dX3_lookAtLongWord_75 : decode cX3_lookAtLongWord 75 = .ok (.invokevirtual 176, 3) := by decide +kernel
theorem dX3_lookAtLongWord_78 : decode cX3_lookAtLongWord 78 = .ok (.istore 6, 2) := by decide +kernel
theorem dX3_lookAtLongWord_80 : decode cX3_lookAtLongWord 80 = .ok (.iload 6, 2) := by decide +kernel
theorem dX3_lookAtLongWord_82 : decode cX3_lookAtLongWord 82 = .ok (.iconst (-1), 1) := by decide +kernel
theorem dX3_lookAtLongWord_83 : decode cX3_lookAtLongWord 83 = .ok (.if_icmp .eq 18, 3) := by decide +kernel
theorem dX3_lookAtLongWord_86 : decode cX3_lookAtLongWord 86 = .ok (.aload_n 0, 1) := by decide +kernel
theorem dX3_lookAtLongWord_87 : decode cX3_lookAtLongWord 87 = .ok (.iconst 1, 1) := by decide +kernel
theorem dX3_lookAtLongWord_88 : decode cX3_lookAtLongWord 88 = .ok (.putfield 90, 3) := by decide +kernel
theorem dX3_lookAtLongWord_91 : decode cX3_lookAtLongWord 91 = .ok (.aload_n 0, 1) := by decide +kernel
theorem dX3_lookAtLongWord_92 : decode cX3_lookAtLongWord 92 = .ok (.iload_n 2, 1) := by decide +kernel
theorem dX3_lookAtLongWord_93 : decode cX3_lookAtLongWord 93 = .ok (.iload 5, 2) := by decide +kernel
theorem dX3_lookAtLongWord_95 : decode cX3_lookAtLongWord 95 = .ok (.iload 6, 2) := by decide +kernel
theorem dX3_lookAtLongWord_97 : decode cX3_lookAtLongWord 97 = .ok (.invokevirtual 180, 3) := by decide +kernel
theorem dX3_lookAtLongWord_100 : decode cX3_lookAtLongWord 100 = .ok (.return_, 1) := by decide +kernel
theorem dX3_lookAtLongWord_101 : decode cX3_lookAtLongWord 101 = .ok (.aload_n 0, 1) := by decide +kernel
theorem dX3_lookAtLongWord_102 : decode cX3_lookAtLongWord 102 = .ok (.invokevirtual 183, 3) := by decide +kernel
theorem dX3_lookAtLongWord_105 : decode cX3_lookAtLongWord 105 = .ok (.istore 7, 2) := by decide +kernel
theorem dX3_lookAtLongWord_107 : decode cX3_lookAtLongWord 107 = .ok (.iload 7, 2) := by decide +kernel
theorem dX3_lookAtLongWord_109 : decode cX3_lookAtLongWord 109 = .ok (.iconst (-1), 1) := by decide +kernel
theorem dX3_lookAtLongWord_110 : decode cX3_lookAtLongWord 110 = .ok (.if_icmp .eq 28, 3) := by decide +kernel
theorem dX3_lookAtLongWord_113 : decode cX3_lookAtLongWord 113 = .ok (.aload_n 0, 1) := by decide +kernel
theorem dX3_lookAtLongWord_114 : decode cX3_lookAtLongWord 114 = .ok (.iload_n 1, 1) := by decide +kernel
theorem dX3_lookAtLongWord_115 : decode cX3_lookAtLongWord 115 = .ok (.iload_n 2, 1) := by decide +kernel
theorem dX3_lookAtLongWord_116 : decode cX3_lookAtLongWord 116 = .ok (.iload 4, 2) := by decide +kernel
theorem dX3_lookAtLongWord_118 : decode cX3_lookAtLongWord 118 = .ok (.ifCond .eq 7, 3) := by decide +kernel
theorem dX3_lookAtLongWord_121 : decode cX3_lookAtLongWord 121 = .ok (.iconst 2, 1) := by decide +kernel
theorem dX3_lookAtLongWord_122 : decode cX3_lookAtLongWord 122 = .ok (.goto 4, 3) := by decide +kernel
theorem dX3_lookAtLongWord_125 : decode cX3_lookAtLongWord 125 = .ok (.iload_n 3, 1) := by decide +kernel
theorem dX3_lookAtLongWord_126 : decode cX3_lookAtLongWord 126 = .ok (.invokestatic 187, 3) := by decide +kernel
theorem dX3_lookAtLongWord_129 : decode cX3_lookAtLongWord 129 = .ok (.iload_n 1, 1) := by decide +kernel
theorem dX3_lookAtLongWord_130 : decode cX3_lookAtLongWord 130 = .ok (.iload 7, 2) := by decide +kernel
theorem dX3_lookAtLongWord_132 : decode cX3_lookAtLongWord 132 = .ok (.invokevirtual 191, 3) := by decide +kernel
theorem dX3_lookAtLongWord_135 : decode cX3_lookAtLongWord 135 = .ok (.goto 26, 3) := by decide +kernel
theorem dX3_lookAtLongWord_138 : decode cX3_lookAtLongWord 138 = .ok (.aload_n 0, 1) := by decide +kernel
theorem dX3_lookAtLongWord_139 : decode cX3_lookAtLongWord 139 = .ok (.getfield 90, 3) := by decide +kernel
theorem dX3_lookAtLongWord_142 : decode cX3_lookAtLongWord 142 = .ok (.ifCond .ne 19, 3) := by decide +kernel
theorem dX3_lookAtLongWord_145 : decode cX3_lookAtLongWord 145 = .ok (.aload_n 0, 1) := by decide +kernel
theorem dX3_lookAtLongWord_146 : decode cX3_lookAtLongWord 146 = .ok (.iconst 2, 1) := by decide +kernel
theorem dX3_lookAtLongWord_147 : decode cX3_lookAtLongWord 147 = .ok (.putfield 90, 3) := by decide +kernel
theorem dX3_lookAtLongWord_150 : decode cX3_lookAtLongWord 150 = .ok (.aload_n 0, 1) := by decide +kernel
theorem dX3_lookAtLongWord_151 : decode cX3_lookAtLongWord 151 = .ok (.getfield 43, 3) := by decide +kernel
theorem dX3_lookAtLongWord_154 : decode cX3_lookAtLongWord 154 = .ok (.aload_n 0, 1) := by decide +kernel
theorem dX3_lookAtLongWord_155 : decode cX3_lookAtLongWord 155 = .ok (.getfield 40, 3) := by decide +kernel
theorem dX3_lookAtLongWord_158 : decode cX3_lookAtLongWord 158 = .ok (.invokevirtual 97, 3) := by decide +kernel
theorem dX3_lookAtLongWord_161 : decode cX3_lookAtLongWord 161 = .ok (.return_, 1) := by decide +kernel
theorem dX3_takesMixed_0 : decode cX3_takesMixed 0 = .ok (.aload_n 0, 1) := by decide +kernel
theorem dX3_takesMixed_1 : decode cX3_takesMixed 1 = .ok (.getfield 31, 3) := by decide +kernel
theorem dX3_takesMixed_4 : decode cX3_takesMixed 4 = .ok (.aload_n 0, 1) := by decide +kernel
theorem dX3_takesMixed_5 : decode cX3_takesMixed 5 = .ok (.getfield 49, 3) := by decide +kernel
theorem dX3_takesMixed_8 : decode cX3_takesMixed 8 = .ok (.aload_n 0, 1) := by decide +kernel
theorem dX3_takesMixed_9 : decode cX3_takesMixed 9 = .ok (.getfield 36, 3) := by decide +kernel
theorem dX3_takesMixed_12 : decode cX3_takesMixed 12 = .ok (.iload_n 1, 1) := by decide +kernel
theorem dX3_takesMixed_13 : decode cX3_takesMixed 13 = .ok (.invokevirtual 243, 3) := by decide +kernel
theorem dX3_takesMixed_16 : decode cX3_takesMixed 16 = .ok (.aload_n 0, 1) := by decide +kernel
theorem dX3_takesMixed_17 : decode cX3_takesMixed 17 = .ok (.getfield 49, 3) := by decide +kernel
theorem dX3_takesMixed_20 : decode cX3_takesMixed 20 = .ok (.getfield 247, 3) := by decide +kernel
theorem dX3_takesMixed_23 : decode cX3_takesMixed 23 = .ok (.iconst 0, 1) := by decide +kernel
theorem dX3_takesMixed_24 : decode cX3_takesMixed 24 = .ok (.invokestatic 119, 3) := by decide +kernel
theorem dX3_takesMixed_27 : decode cX3_takesMixed 27 = .ok (.istore_n 2, 1) := by decide +kernel
theorem dX3_takesMixed_28 : decode cX3_takesMixed 28 = .ok (.aload_n 0, 1) := by decide +kernel
theorem dX3_takesMixed_29 : decode cX3_takesMixed 29 = .ok (.getfield 53, 3) := by decide +kernel
theorem dX3_takesMixed_32 : decode cX3_takesMixed 32 = .ok (.invokevirtual 250, 3) := by decide +kernel
theorem dX3_takesMixed_35 : decode cX3_takesMixed 35 = .ok (.iconst 0, 1) := by decide +kernel
theorem dX3_takesMixed_36 : decode cX3_takesMixed 36 = .ok (.istore_n 3, 1) := by decide +kernel
theorem dX3_takesMixed_37 : decode cX3_takesMixed 37 = .ok (.iload_n 3, 1) := by decide +kernel
theorem dX3_takesMixed_38 : decode cX3_takesMixed 38 = .ok (.aload_n 0, 1) := by decide +kernel
theorem dX3_takesMixed_39 : decode cX3_takesMixed 39 = .ok (.getfield 11, 3) := by decide +kernel
theorem dX3_takesMixed_42 : decode cX3_takesMixed 42 = .ok (.iload_n 2, 1) := by decide +kernel
theorem dX3_takesMixed_43 : decode cX3_takesMixed 43 = .ok (.aaload, 1) := by decide +kernel
theorem dX3_takesMixed_44 : decode cX3_takesMixed 44 = .ok (.getfield 162, 3) := by decide +kernel
theorem dX3_takesMixed_47 : decode cX3_takesMixed 47 = .ok (.if_icmp .ge 82, 3) := by decide +kernel
theorem dX3_takesMixed_50 : decode cX3_takesMixed 50 = .ok (.aload_n 0, 1) := by decide +kernel
theorem dX3_takesMixed_51 : decode cX3_takesMixed 51 = .ok (.getfield 11, 3) := by decide +kernel
theorem dX3_takesMixed_54 : decode cX3_takesMixed 54 = .ok (.iload_n 2, 1) := by decide +kernel
theorem dX3_takesMixed_55 : decode cX3_takesMixed 55 = .ok (.aaload, 1) := by decide +kernel
theorem dX3_takesMixed_56 : decode cX3_takesMixed 56 = .ok (.getfield 219, 3) := by decide +kernel
theorem dX3_takesMixed_59 : decode cX3_takesMixed 59 = .ok (.iload_n 3, 1) := by decide +kernel
theorem dX3_takesMixed_60 : decode cX3_takesMixed 60 = .ok (.iaload, 1) := by decide +kernel
theorem dX3_takesMixed_61 : decode cX3_takesMixed 61 = .ok (.istore 4, 2) := by decide +kernel
theorem dX3_takesMixed_63 : decode cX3_takesMixed 63 = .ok (.aload_n 0, 1) := by decide +kernel
theorem dX3_takesMixed_64 : decode cX3_takesMixed 64 = .ok (.getfield 19, 3) := by decide +kernel
theorem dX3_takesMixed_67 : decode cX3_takesMixed 67 = .ok (.iload_n 2, 1) := by decide +kernel
theorem dX3_takesMixed_68 : decode cX3_takesMixed 68 = .ok (.aaload, 1) := by decide +kernel
theorem dX3_takesMixed_69 : decode cX3_takesMixed 69 = .ok (.iload 4, 2) := by decide +kernel
theorem dX3_takesMixed_71 : decode cX3_takesMixed 71 = .ok (.invokevirtual 203, 3) := by decide +kernel
theorem dX3_takesMixed_74 : decode cX3_takesMixed 74 = .ok (.istore 5, 2) := by decide +kernel
theorem dX3_takesMixed_76 : decode cX3_takesMixed 76 = .ok (.aload_n 0, 1) := by decide +kernel
theorem dX3_takesMixed_77 : decode cX3_takesMixed 77 = .ok (.getfield 56, 3) := by decide +kernel
theorem dX3_takesMixed_80 : decode cX3_takesMixed 80 = .ok (.aload_n 0, 1) := by decide +kernel
theorem dX3_takesMixed_81 : decode cX3_takesMixed 81 = .ok (.getfield 53, 3) := by decide +kernel
theorem dX3_takesMixed_84 : decode cX3_takesMixed 84 = .ok (.aload_n 0, 1) := by decide +kernel
theorem dX3_takesMixed_85 : decode cX3_takesMixed 85 = .ok (.getfield 11, 3) := by decide +kernel
theorem dX3_takesMixed_88 : decode cX3_takesMixed 88 = .ok (.iload_n 2, 1) := by decide +kernel
theorem dX3_takesMixed_89 : decode cX3_takesMixed 89 = .ok (.aaload, 1) := by decide +kernel
theorem dX3_takesMixed_90 : decode cX3_takesMixed 90 = .ok (.getfield 214, 3) := by decide +kernel
theorem dX3_takesMixed_93 : decode cX3_takesMixed 93 = .ok (.iload_n 3, 1) := by decide +kernel
theorem dX3_takesMixed_94 : decode cX3_takesMixed 94 = .ok (.iaload, 1) := by decide +kernel
theorem dX3_takesMixed_95 : decode cX3_takesMixed 95 = .ok (.iload 5, 2) := by decide +kernel
theorem dX3_takesMixed_97 : decode cX3_takesMixed 97 = .ok (.iconst (-1), 1) := by decide +kernel
theorem dX3_takesMixed_98 : decode cX3_takesMixed 98 = .ok (.if_icmp .ne 12, 3) := by decide +kernel
theorem dX3_takesMixed_101 : decode cX3_takesMixed 101 = .ok (.sipush 1000, 3) := by decide +kernel
theorem dX3_takesMixed_104 : decode cX3_takesMixed 104 = .ok (.iload 4, 2) := by decide +kernel
theorem dX3_takesMixed_106 : decode cX3_takesMixed 106 = .ok (.iadd, 1) := by decide +kernel
theorem dX3_takesMixed_107 : decode cX3_takesMixed 107 = .ok (.goto 13, 3) := by decide +kernel
theorem dX3_takesMixed_110 : decode cX3_takesMixed 110 = .ok (.aload_n 0, 1) := by decide +kernel
theorem dX3_takesMixed_111 : decode cX3_takesMixed 111 = .ok (.getfield 49, 3) := by decide +kernel
theorem dX3_takesMixed_114 : decode cX3_takesMixed 114 = .ok (.getfield 253, 3) := by decide +kernel
theorem dX3_takesMixed_117 : decode cX3_takesMixed 117 = .ok (.iload 5, 2) := by decide +kernel
theorem dX3_takesMixed_119 : decode cX3_takesMixed 119 = .ok (.iaload, 1) := by decide +kernel
theorem dX3_takesMixed_120 : decode cX3_takesMixed 120 = .ok (.invokevirtual 254, 3) := by decide +kernel
theorem dX3_takesMixed_123 : decode cX3_takesMixed 123 = .ok (.iinc 3 1, 3) := by decide +kernel
theorem dX3_takesMixed_126 : decode cX3_takesMixed 126 = .ok (.goto (-89), 3) := by decide +kernel
theorem dX3_takesMixed_129 : decode cX3_takesMixed 129 = .ok (.iload_n 1, 1) := by decide +kernel
theorem dX3_takesMixed_130 : decode cX3_takesMixed 130 = .ok (.istore_n 3, 1) := by decide +kernel
theorem dX3_takesMixed_131 : decode cX3_takesMixed 131 = .ok (.iload_n 3, 1) := by decide +kernel
theorem dX3_takesMixed_132 : decode cX3_takesMixed 132 = .ok (.aload_n 0, 1) := by decide +kernel
theorem dX3_takesMixed_133 : decode cX3_takesMixed 133 = .ok (.getfield 36, 3) := by decide +kernel
theorem dX3_takesMixed_136 : decode cX3_takesMixed 136 = .ok (.getfield 162, 3) := by decide +kernel
theorem dX3_takesMixed_139 : decode cX3_takesMixed 139 = .ok (.if_icmp .ge 38, 3) := by decide +kernel
theorem dX3_takesMixed_142 : decode cX3_takesMixed 142 = .ok (.aload_n 0, 1) := by decide +kernel
theorem dX3_takesMixed_143 : decode cX3_takesMixed 143 = .ok (.getfield 56, 3) := by decide +kernel
theorem dX3_takesMixed_146 : decode cX3_takesMixed 146 = .ok (.aload_n 0, 1) := by decide +kernel
theorem dX3_takesMixed_147 : decode cX3_takesMixed 147 = .ok (.getfield 53, 3) := by decide +kernel
theorem dX3_takesMixed_150 : decode cX3_takesMixed 150 = .ok (.aload_n 0, 1) := by decide +kernel
theorem dX3_takesMixed_151 : decode cX3_takesMixed 151 = .ok (.getfield 36, 3) := by decide +kernel
theorem dX3_takesMixed_154 : decode cX3_takesMixed 154 = .ok (.getfield 214, 3) := by decide +kernel
theorem dX3_takesMixed_157 : decode cX3_takesMixed 157 = .ok (.iload_n 3, 1) := by decide +kernel
theorem dX3_takesMixed_158 : decode cX3_takesMixed 158 = .ok (.iaload, 1) := by decide +kernel
theorem dX3_takesMixed_159 : decode cX3_takesMixed 159 = .ok (.aload_n 0, 1) := by decide +kernel
theorem dX3_takesMixed_160 : decode cX3_takesMixed 160 = .ok (.getfield 36, 3) := by decide +kernel
theorem dX3_takesMixed_163 : decode cX3_takesMixed 163 = .ok (.getfield 219, 3) := by decide +kernel
theorem dX3_takesMixed_166 : decode cX3_takesMixed 166 = .ok (.iload_n 3, 1) := by decide +kernel
theorem dX3_takesMixed_167 : decode cX3_takesMixed 167 = .ok (.iaload, 1) := by decide +kernel
theorem dX3_takesMixed_168 : decode cX3_takesMixed 168 = .ok (.invokevirtual 254, 3) := by decide +kernel
theorem dX3_takesMixed_171 : decode cX3_takesMixed 171 = .ok (.iinc 3 1, 3) := by decide +kernel
theorem dX3_takesMixed_174 : decode cX3_takesMixed 174 = .ok (.goto (-43), 3) := by decide +kernel
theorem dX3_takesMixed_177 : decode cX3_takesMixed 177 = .ok (.aload_n 0, 1) := by decide +kernel
theorem dX3_takesMixed_178 : decode cX3_takesMixed 178 = .ok (.getfield 56, 3) := by decide +kernel
theorem dX3_takesMixed_181 : decode cX3_takesMixed 181 = .ok (.aload_n 0, 1) := by decide +kernel
theorem dX3_takesMixed_182 : decode cX3_takesMixed 182 = .ok (.getfield 53, 3) := by decide +kernel
theorem dX3_takesMixed_185 : decode cX3_takesMixed 185 = .ok (.invokevirtual 136, 3) := by decide +kernel
theorem dX3_takesMixed_188 : decode cX3_takesMixed 188 = .ok (.ireturn, 1) := by decide +kernel
theorem dX3_tryHypothesis_0 : decode cX3_tryHypothesis 0 = .ok (.iconst 0, 1) := by decide +kernel
theorem dX3_tryHypothesis_1 : decode cX3_tryHypothesis 1 = .ok (.istore_n 1, 1) := by decide +kernel
theorem dX3_tryHypothesis_2 : decode cX3_tryHypothesis 2 = .ok (.iload_n 1, 1) := by decide +kernel
theorem dX3_tryHypothesis_3 : decode cX3_tryHypothesis 3 = .ok (.aload_n 0, 1) := by decide +kernel
theorem dX3_tryHypothesis_4 : decode cX3_tryHypothesis 4 = .ok (.getfield 76, 3) := by decide +kernel
theorem dX3_tryHypothesis_7 : decode cX3_tryHypothesis 7 = .ok (.if_icmp .ge 36, 3) := by decide +kernel
theorem dX3_tryHypothesis_10 : decode cX3_tryHypothesis 10 = .ok (.aload_n 0, 1) := by decide +kernel
theorem dX3_tryHypothesis_11 : decode cX3_tryHypothesis 11 = .ok (.getfield 56, 3) := by decide +kernel
theorem dX3_tryHypothesis_14 : decode cX3_tryHypothesis 14 = .ok (.aload_n 0, 1) := by decide +kernel
theorem dX3_tryHypothesis_15 : decode cX3_tryHypothesis 15 = .ok (.getfield 19, 3) := by decide +kernel
theorem dX3_tryHypothesis_18 : decode cX3_tryHypothesis 18 = .ok (.iload_n 1, 1) := by decide +kernel
theorem dX3_tryHypothesis_19 : decode cX3_tryHypothesis 19 = .ok (.aaload, 1) := by decide +kernel
theorem dX3_tryHypothesis_20 : decode cX3_tryHypothesis 20 = .ok (.getfield 133, 3) := by decide +kernel
theorem dX3_tryHypothesis_23 : decode cX3_tryHypothesis 23 = .ok (.invokevirtual 136, 3) := by decide +kernel
theorem dX3_tryHypothesis_26 : decode cX3_tryHypothesis 26 = .ok (.ifCond .eq 11, 3) := by decide +kernel
theorem dX3_tryHypothesis_29 : decode cX3_tryHypothesis 29 = .ok (.aload_n 0, 1) := by decide +kernel
theorem dX3_tryHypothesis_30 : decode cX3_tryHypothesis 30 = .ok (.getfield 31, 3) := by decide +kernel
theorem dX3_tryHypothesis_33 : decode cX3_tryHypothesis 33 = .ok (.iload_n 1, 1) := by decide +kernel
theorem dX3_tryHypothesis_34 : decode cX3_tryHypothesis 34 = .ok (.invokevirtual 229, 3) := by decide +kernel
theorem dX3_tryHypothesis_37 : decode cX3_tryHypothesis 37 = .ok (.iinc 1 1, 3) := by decide +kernel
theorem dX3_tryHypothesis_40 : decode cX3_tryHypothesis 40 = .ok (.goto (-38), 3) := by decide +kernel
theorem dX3_tryHypothesis_43 : decode cX3_tryHypothesis 43 = .ok (.aload_n 0, 1) := by decide +kernel
theorem dX3_tryHypothesis_44 : decode cX3_tryHypothesis 44 = .ok (.getfield 60, 3) := by decide +kernel
theorem dX3_tryHypothesis_47 : decode cX3_tryHypothesis 47 = .ok (.aload_n 0, 1) := by decide +kernel
theorem dX3_tryHypothesis_48 : decode cX3_tryHypothesis 48 = .ok (.getfield 56, 3) := by decide +kernel
theorem dX3_tryHypothesis_51 : decode cX3_tryHypothesis 51 = .ok (.aload_n 0, 1) := by decide +kernel
theorem dX3_tryHypothesis_52 : decode cX3_tryHypothesis 52 = .ok (.getfield 31, 3) := by decide +kernel
theorem dX3_tryHypothesis_55 : decode cX3_tryHypothesis 55 = .ok (.aload_n 0, 1) := by decide +kernel
theorem dX3_tryHypothesis_56 : decode cX3_tryHypothesis 56 = .ok (.getfield 56, 3) := by decide +kernel
theorem dX3_tryHypothesis_59 : decode cX3_tryHypothesis 59 = .ok (.getfield 128, 3) := by decide +kernel
theorem dX3_tryHypothesis_62 : decode cX3_tryHypothesis 62 = .ok (.aload_n 0, 1) := by decide +kernel
theorem dX3_tryHypothesis_63 : decode cX3_tryHypothesis 63 = .ok (.getfield 36, 3) := by decide +kernel
theorem dX3_tryHypothesis_66 : decode cX3_tryHypothesis 66 = .ok (.invokevirtual 233, 3) := by decide +kernel
theorem dX3_tryHypothesis_69 : decode cX3_tryHypothesis 69 = .ok (.ifCond .eq 113, 3) := by decide +kernel
theorem dX3_tryHypothesis_72 : decode cX3_tryHypothesis 72 = .ok (.aload_n 0, 1) := by decide +kernel
theorem dX3_tryHypothesis_73 : decode cX3_tryHypothesis 73 = .ok (.iconst 3, 1) := by decide +kernel
theorem dX3_tryHypothesis_74 : decode cX3_tryHypothesis 74 = .ok (.putfield 90, 3) := by decide +kernel
theorem dX3_tryHypothesis_77 : decode cX3_tryHypothesis 77 = .ok (.aload_n 0, 1) := by decide +kernel
theorem dX3_tryHypothesis_78 : decode cX3_tryHypothesis 78 = .ok (.iconst 0, 1) := by decide +kernel
theorem dX3_tryHypothesis_79 : decode cX3_tryHypothesis 79 = .ok (.invokevirtual 239, 3) := by decide +kernel
theorem dX3_tryHypothesis_82 : decode cX3_tryHypothesis 82 = .ok (.istore_n 1, 1) := by decide +kernel
theorem dX3_tryHypothesis_83 : decode cX3_tryHypothesis 83 = .ok (.iconst 0, 1) := by decide +kernel
theorem dX3_tryHypothesis_84 : decode cX3_tryHypothesis 84 = .ok (.istore_n 2, 1) := by decide +kernel
theorem dX3_tryHypothesis_85 : decode cX3_tryHypothesis 85 = .ok (.iload_n 2, 1) := by decide +kernel
theorem dX3_tryHypothesis_86 : decode cX3_tryHypothesis 86 = .ok (.aload_n 0, 1) := by decide +kernel
theorem dX3_tryHypothesis_87 : decode cX3_tryHypothesis 87 = .ok (.getfield 36, 3) := by decide +kernel
theorem dX3_tryHypothesis_90 : decode cX3_tryHypothesis 90 = .ok (.getfield 162, 3) := by decide +kernel
theorem dX3_tryHypothesis_93 : decode cX3_tryHypothesis 93 = .ok (.if_icmp .ge 33, 3) := by decide +kernel
theorem dX3_tryHypothesis_96 : decode cX3_tryHypothesis 96 = .ok (.aload_n 0, 1) := by decide +kernel
theorem dX3_tryHypothesis_97 : decode cX3_tryHypothesis 97 = .ok (.getfield 146, 3) := by decide +kernel
theorem dX3_tryHypothesis_100 : decode cX3_tryHypothesis 100 = .ok (.iconst (-1), 1) := by decide +kernel
theorem dX3_tryHypothesis_101 : decode cX3_tryHypothesis 101 = .ok (.if_icmp .ne 25, 3) := by decide +kernel
theorem dX3_tryHypothesis_104 : decode cX3_tryHypothesis 104 = .ok (.aload_n 0, 1) := by decide +kernel
theorem dX3_tryHypothesis_105 : decode cX3_tryHypothesis 105 = .ok (.iload_n 2, 1) := by decide +kernel
theorem dX3_tryHypothesis_106 : decode cX3_tryHypothesis 106 = .ok (.iconst 1, 1) := by decide +kernel
theorem dX3_tryHypothesis_107 : decode cX3_tryHypothesis 107 = .ok (.iadd, 1) := by decide +kernel
theorem dX3_tryHypothesis_108 : decode cX3_tryHypothesis 108 = .ok (.invokevirtual 239, 3) := by decide +kernel
theorem dX3_tryHypothesis_111 : decode cX3_tryHypothesis 111 = .ok (.iload_n 1, 1) := by decide +kernel
theorem dX3_tryHypothesis_112 : decode cX3_tryHypothesis 112 = .ok (.if_icmp .eq 8, 3) := by decide +kernel
theorem dX3_tryHypothesis_115 : decode cX3_tryHypothesis 115 = .ok (.aload_n 0, 1) := by decide +kernel
theorem dX3_tryHypothesis_116 : decode cX3_tryHypothesis 116 = .ok (.iload_n 2, 1) := by decide +kernel
theorem dX3_tryHypothesis_117 : decode cX3_tryHypothesis 117 = .ok (.putfield 146, 3) := by decide +kernel
theorem dX3_tryHypothesis_120 : decode cX3_tryHypothesis 120 = .ok (.iinc 2 1, 3) := by decide +kernel
theorem dX3_tryHypothesis_123 : decode cX3_tryHypothesis 123 = .ok (.goto (-38), 3) := by decide +kernel
theorem dX3_tryHypothesis_126 : decode cX3_tryHypothesis 126 = .ok (.aload_n 0, 1) := by decide +kernel
theorem dX3_tryHypothesis_127 : decode cX3_tryHypothesis 127 = .ok (.getfield 43, 3) := by decide +kernel
theorem dX3_tryHypothesis_130 : decode cX3_tryHypothesis 130 = .ok (.invokevirtual 213, 3) := by decide +kernel
theorem dX3_tryHypothesis_133 : decode cX3_tryHypothesis 133 = .ok (.aload_n 0, 1) := by decide +kernel
theorem dX3_tryHypothesis_134 : decode cX3_tryHypothesis 134 = .ok (.getfield 146, 3) := by decide +kernel
theorem dX3_tryHypothesis_137 : decode cX3_tryHypothesis 137 = .ok (.iconst 1, 1) := by decide +kernel
theorem dX3_tryHypothesis_138 : decode cX3_tryHypothesis 138 = .ok (.iadd, 1) := by decide +kernel
theorem dX3_tryHypothesis_139 : decode cX3_tryHypothesis 139 = .ok (.istore_n 2, 1) := by decide +kernel
theorem dX3_tryHypothesis_140 : decode cX3_tryHypothesis 140 = .ok (.iload_n 2, 1) := by decide +kernel
theorem dX3_tryHypothesis_141 : decode cX3_tryHypothesis 141 = .ok (.aload_n 0, 1) := by decide +kernel
theorem dX3_tryHypothesis_142 : decode cX3_tryHypothesis 142 = .ok (.getfield 36, 3) := by decide +kernel
theorem dX3_tryHypothesis_145 : decode cX3_tryHypothesis 145 = .ok (.getfield 162, 3) := by decide +kernel
theorem dX3_tryHypothesis_148 : decode cX3_tryHypothesis 148 = .ok (.if_icmp .ge 34, 3) := by decide +kernel
theorem dX3_tryHypothesis_151 : decode cX3_tryHypothesis 151 = .ok (.aload_n 0, 1) := by decide +kernel
theorem dX3_tryHypothesis_152 : decode cX3_tryHypothesis 152 = .ok (.getfield 43, 3) := by decide +kernel
theorem dX3_tryHypothesis_155 : decode cX3_tryHypothesis 155 = .ok (.aload_n 0, 1) := by decide +kernel
theorem dX3_tryHypothesis_156 : decode cX3_tryHypothesis 156 = .ok (.getfield 36, 3) := by decide +kernel
theorem dX3_tryHypothesis_159 : decode cX3_tryHypothesis 159 = .ok (.getfield 214, 3) := by decide +kernel
theorem dX3_tryHypothesis_162 : decode cX3_tryHypothesis 162 = .ok (.iload_n 2, 1) := by decide +kernel
theorem dX3_tryHypothesis_163 : decode cX3_tryHypothesis 163 = .ok (.iaload, 1) := by decide +kernel
theorem dX3_tryHypothesis_164 : decode cX3_tryHypothesis 164 = .ok (.aload_n 0, 1) := by decide +kernel
theorem dX3_tryHypothesis_165 : decode cX3_tryHypothesis 165 = .ok (.getfield 36, 3) := by decide +kernel
theorem dX3_tryHypothesis_168 : decode cX3_tryHypothesis 168 = .ok (.getfield 219, 3) := by decide +kernel
theorem dX3_tryHypothesis_171 : decode cX3_tryHypothesis 171 = .ok (.iload_n 2, 1) := by decide +kernel
theorem dX3_tryHypothesis_172 : decode cX3_tryHypothesis 172 = .ok (.iaload, 1) := by decide +kernel
theorem dX3_tryHypothesis_173 : decode cX3_tryHypothesis 173 = .ok (.invokevirtual 104, 3) := by decide +kernel
theorem dX3_tryHypothesis_176 : decode cX3_tryHypothesis 176 = .ok (.iinc 2 1, 3) := by decide +kernel
theorem dX3_tryHypothesis_179 : decode cX3_tryHypothesis 179 = .ok (.goto (-39), 3) := by decide +kernel
theorem dX3_tryHypothesis_182 : decode cX3_tryHypothesis 182 = .ok (.return_, 1) := by decide +kernel
theorem dX3_fits_0 : decode cX3_fits 0 = .ok (.aload_n 0, 1) := by decide +kernel
theorem dX3_fits_1 : decode cX3_fits 1 = .ok (.getfield 43, 3) := by decide +kernel
theorem dX3_fits_4 : decode cX3_fits 4 = .ok (.getfield 162, 3) := by decide +kernel
theorem dX3_fits_7 : decode cX3_fits 7 = .ok (.bipush 6, 2) := by decide +kernel
theorem dX3_fits_9 : decode cX3_fits 9 = .ok (.if_icmp .gt 14, 3) := by decide +kernel
theorem dX3_fits_12 : decode cX3_fits 12 = .ok (.aload_n 0, 1) := by decide +kernel
theorem dX3_fits_13 : decode cX3_fits 13 = .ok (.getfield 43, 3) := by decide +kernel
theorem dX3_fits_16 : decode cX3_fits 16 = .ok (.getfield 165, 3) := by decide +kernel
theorem dX3_fits_19 : decode cX3_fits 19 = .ok (.iconst 3, 1) := by decide +kernel
theorem dX3_fits_20 : decode cX3_fits 20 = .ok (.if_icmp .le 5, 3) := by decide +kernel
theorem dX3_fits_23 : decode cX3_fits 23 = .ok (.iconst 0, 1) := by decide +kernel
theorem dX3_fits_24 : decode cX3_fits 24 = .ok (.ireturn, 1) := by decide +kernel
theorem dX3_fits_25 : decode cX3_fits 25 = .ok (.aload_n 0, 1) := by decide +kernel
theorem dX3_fits_26 : decode cX3_fits 26 = .ok (.getfield 90, 3) := by decide +kernel
theorem dX3_fits_29 : decode cX3_fits 29 = .ok (.iconst 2, 1) := by decide +kernel
theorem dX3_fits_30 : decode cX3_fits 30 = .ok (.if_icmp .ne 18, 3) := by decide +kernel
theorem dX3_fits_33 : decode cX3_fits 33 = .ok (.aload_n 0, 1) := by decide +kernel
theorem dX3_fits_34 : decode cX3_fits 34 = .ok (.getfield 76, 3) := by decide +kernel
theorem dX3_fits_37 : decode cX3_fits 37 = .ok (.bipush 10, 2) := by decide +kernel
theorem dX3_fits_39 : decode cX3_fits 39 = .ok (.if_icmp .ge 7, 3) := by decide +kernel
theorem dX3_fits_42 : decode cX3_fits 42 = .ok (.iconst 1, 1) := by decide +kernel
theorem dX3_fits_43 : decode cX3_fits 43 = .ok (.goto 4, 3) := by decide +kernel
theorem dX3_fits_46 : decode cX3_fits 46 = .ok (.iconst 0, 1) := by decide +kernel
theorem dX3_fits_47 : decode cX3_fits 47 = .ok (.ireturn, 1) := by decide +kernel
theorem dX3_fits_48 : decode cX3_fits 48 = .ok (.iconst 0, 1) := by decide +kernel
theorem dX3_fits_49 : decode cX3_fits 49 = .ok (.istore_n 1, 1) := by decide +kernel
theorem dX3_fits_50 : decode cX3_fits 50 = .ok (.iload_n 1, 1) := by decide +kernel
theorem dX3_fits_51 : decode cX3_fits 51 = .ok (.aload_n 0, 1) := by decide +kernel
theorem dX3_fits_52 : decode cX3_fits 52 = .ok (.getfield 69, 3) := by decide +kernel
theorem dX3_fits_55 : decode cX3_fits 55 = .ok (.getfield 80, 3) := by decide +kernel
theorem dX3_fits_58 : decode cX3_fits 58 = .ok (.if_icmp .ge 30, 3) := by decide +kernel
theorem dX3_fits_61 : decode cX3_fits 61 = .ok (.aload_n 0, 1) := by decide +kernel
theorem dX3_fits_62 : decode cX3_fits 62 = .ok (.getfield 43, 3) := by decide +kernel
theorem dX3_fits_65 : decode cX3_fits 65 = .ok (.aload_n 0, 1) := by decide +kernel
theorem dX3_fits_66 : decode cX3_fits 66 = .ok (.getfield 69, 3) := by decide +kernel
theorem dX3_fits_69 : decode cX3_fits 69 = .ok (.getfield 143, 3) := by decide +kernel
theorem dX3_fits_72 : decode cX3_fits 72 = .ok (.iload_n 1, 1) := by decide +kernel
theorem dX3_fits_73 : decode cX3_fits 73 = .ok (.aaload, 1) := by decide +kernel
theorem dX3_fits_74 : decode cX3_fits 74 = .ok (.invokevirtual 168, 3) := by decide +kernel
theorem dX3_fits_77 : decode cX3_fits 77 = .ok (.ifCond .eq 5, 3) := by decide +kernel
theorem dX3_fits_80 : decode cX3_fits 80 = .ok (.iconst 0, 1) := by decide +kernel
theorem dX3_fits_81 : decode cX3_fits 81 = .ok (.ireturn, 1) := by decide +kernel
theorem dX3_fits_82 : decode cX3_fits 82 = .ok (.iinc 1 1, 3) := by decide +kernel
theorem dX3_fits_85 : decode cX3_fits 85 = .ok (.goto (-35), 3) := by decide +kernel
theorem dX3_fits_88 : decode cX3_fits 88 = .ok (.aload_n 0, 1) := by decide +kernel
theorem dX3_fits_89 : decode cX3_fits 89 = .ok (.getfield 69, 3) := by decide +kernel
theorem dX3_fits_92 : decode cX3_fits 92 = .ok (.getfield 80, 3) := by decide +kernel
theorem dX3_fits_95 : decode cX3_fits 95 = .ok (.bipush 10, 2) := by decide +kernel
theorem dX3_fits_97 : decode cX3_fits 97 = .ok (.if_icmp .ge 7, 3) := by decide +kernel
theorem dX3_fits_100 : decode cX3_fits 100 = .ok (.iconst 1, 1) := by decide +kernel
theorem dX3_fits_101 : decode cX3_fits 101 = .ok (.goto 4, 3) := by decide +kernel
theorem dX3_fits_104 : decode cX3_fits 104 = .ok (.iconst 0, 1) := by decide +kernel
theorem dX3_fits_105 : decode cX3_fits 105 = .ok (.ireturn, 1) := by decide +kernel
theorem dX3_decide_0 : decode cX3_decide 0 = .ok (.aload_n 0, 1) := by decide +kernel
theorem dX3_decide_1 : decode cX3_decide 1 = .ok (.getfield 87, 3) := by decide +kernel
theorem dX3_decide_4 : decode cX3_decide 4 = .ok (.ifCond .eq 4, 3) := by decide +kernel
theorem dX3_decide_7 : decode cX3_decide 7 = .ok (.return_, 1) := by decide +kernel
theorem dX3_decide_8 : decode cX3_decide 8 = .ok (.aload_n 0, 1) := by decide +kernel
theorem dX3_decide_9 : decode cX3_decide 9 = .ok (.iconst 1, 1) := by decide +kernel
theorem dX3_decide_10 : decode cX3_decide 10 = .ok (.putfield 87, 3) := by decide +kernel
theorem dX3_decide_13 : decode cX3_decide 13 = .ok (.aload_n 0, 1) := by decide +kernel
theorem dX3_decide_14 : decode cX3_decide 14 = .ok (.iconst 0, 1) := by decide +kernel
theorem dX3_decide_15 : decode cX3_decide 15 = .ok (.putfield 90, 3) := by decide +kernel
theorem dX3_decide_18 : decode cX3_decide 18 = .ok (.aload_n 0, 1) := by decide +kernel
theorem dX3_decide_19 : decode cX3_decide 19 = .ok (.iconst (-1), 1) := by decide +kernel
theorem dX3_decide_20 : decode cX3_decide 20 = .ok (.putfield 146, 3) := by decide +kernel
theorem dX3_decide_23 : decode cX3_decide 23 = .ok (.aload_n 0, 1) := by decide +kernel
theorem dX3_decide_24 : decode cX3_decide 24 = .ok (.invokevirtual 125, 3) := by decide +kernel
theorem dX3_decide_27 : decode cX3_decide 27 = .ok (.aload_n 0, 1) := by decide +kernel
theorem dX3_decide_28 : decode cX3_decide 28 = .ok (.getfield 31, 3) := by decide +kernel
theorem dX3_decide_31 : decode cX3_decide 31 = .ok (.invokevirtual 149, 3) := by decide +kernel
theorem dX3_decide_34 : decode cX3_decide 34 = .ok (.iconst 0, 1) := by decide +kernel
theorem dX3_decide_35 : decode cX3_decide 35 = .ok (.istore_n 1, 1) := by decide +kernel
theorem dX3_decide_36 : decode cX3_decide 36 = .ok (.iload_n 1, 1) := by decide +kernel
theorem dX3_decide_37 : decode cX3_decide 37 = .ok (.aload_n 0, 1) := by decide +kernel
theorem dX3_decide_38 : decode cX3_decide 38 = .ok (.getfield 76, 3) := by decide +kernel
theorem dX3_decide_41 : decode cX3_decide 41 = .ok (.if_icmp .ge 80, 3) := by decide +kernel
theorem dX3_decide_44 : decode cX3_decide 44 = .ok (.aload_n 0, 1) := by decide +kernel
theorem dX3_decide_45 : decode cX3_decide 45 = .ok (.getfield 90, 3) := by decide +kernel
theorem dX3_decide_48 : decode cX3_decide 48 = .ok (.iconst 1, 1) := by decide +kernel
theorem dX3_decide_49 : decode cX3_decide 49 = .ok (.if_icmp .eq 72, 3) := by decide +kernel
theorem dX3_decide_52 : decode cX3_decide 52 = .ok (.iconst 0, 1) := by decide +kernel
theorem dX3_decide_53 : decode cX3_decide 53 = .ok (.istore_n 2, 1) := by decide +kernel
theorem dX3_decide_54 : decode cX3_decide 54 = .ok (.iload_n 2, 1) := by decide +kernel
theorem dX3_decide_55 : decode cX3_decide 55 = .ok (.aload_n 0, 1) := by decide +kernel
theorem dX3_decide_56 : decode cX3_decide 56 = .ok (.getfield 56, 3) := by decide +kernel
theorem dX3_decide_59 : decode cX3_decide 59 = .ok (.getfield 128, 3) := by decide +kernel
theorem dX3_decide_62 : decode cX3_decide 62 = .ok (.if_icmp .ge 53, 3) := by decide +kernel
theorem dX3_decide_65 : decode cX3_decide 65 = .ok (.aload_n 0, 1) := by decide +kernel
theorem dX3_decide_66 : decode cX3_decide 66 = .ok (.getfield 90, 3) := by decide +kernel
theorem dX3_decide_69 : decode cX3_decide 69 = .ok (.iconst 1, 1) := by decide +kernel
theorem dX3_decide_70 : decode cX3_decide 70 = .ok (.if_icmp .eq 45, 3) := by decide +kernel
theorem dX3_decide_73 : decode cX3_decide 73 = .ok (.iconst 0, 1) := by decide +kernel
theorem dX3_decide_74 : decode cX3_decide 74 = .ok (.istore_n 3, 1) := by decide +kernel
theorem dX3_decide_75 : decode cX3_decide 75 = .ok (.iload_n 3, 1) := by decide +kernel
theorem dX3_decide_76 : decode cX3_decide 76 = .ok (.aload_n 0, 1) := by decide +kernel
theorem dX3_decide_77 : decode cX3_decide 77 = .ok (.getfield 19, 3) := by decide +kernel
theorem dX3_decide_80 : decode cX3_decide 80 = .ok (.iload_n 1, 1) := by decide +kernel
theorem dX3_decide_81 : decode cX3_decide 81 = .ok (.aaload, 1) := by decide +kernel
theorem dX3_decide_82 : decode cX3_decide 82 = .ok (.getfield 116, 3) := by decide +kernel
theorem dX3_decide_85 : decode cX3_decide 85 = .ok (.if_icmp .gt 24, 3) := by decide +kernel
theorem dX3_decide_88 : decode cX3_decide 88 = .ok (.aload_n 0, 1) := by decide +kernel
theorem dX3_decide_89 : decode cX3_decide 89 = .ok (.getfield 90, 3) := by decide +kernel
theorem dX3_decide_92 : decode cX3_decide 92 = .ok (.iconst 1, 1) := by decide +kernel
theorem dX3_decide_93 : decode cX3_decide 93 = .ok (.if_icmp .eq 16, 3) := by decide +kernel
theorem dX3_decide_96 : decode cX3_decide 96 = .ok (.aload_n 0, 1) := by decide +kernel
theorem dX3_decide_97 : decode cX3_decide 97 = .ok (.iload_n 1, 1) := by decide +kernel
theorem dX3_decide_98 : decode cX3_decide 98 = .ok (.iload_n 2, 1) := by decide +kernel
theorem dX3_decide_99 : decode cX3_decide 99 = .ok (.iload_n 3, 1) := by decide +kernel
theorem dX3_decide_100 : decode cX3_decide 100 = .ok (.invokevirtual 152, 3) := by decide +kernel
theorem dX3_decide_103 : decode cX3_decide 103 = .ok (.iinc 3 1, 3) := by decide +kernel
theorem dX3_decide_106 : decode cX3_decide 106 = .ok (.goto (-31), 3) := by decide +kernel
theorem dX3_decide_109 : decode cX3_decide 109 = .ok (.iinc 2 1, 3) := by decide +kernel
theorem dX3_decide_112 : decode cX3_decide 112 = .ok (.goto (-58), 3) := by decide +kernel
theorem dX3_decide_115 : decode cX3_decide 115 = .ok (.iinc 1 1, 3) := by decide +kernel
theorem dX3_decide_118 : decode cX3_decide 118 = .ok (.goto (-82), 3) := by decide +kernel
theorem dX3_decide_121 : decode cX3_decide 121 = .ok (.aload_n 0, 1) := by decide +kernel
theorem dX3_decide_122 : decode cX3_decide 122 = .ok (.getfield 90, 3) := by decide +kernel
theorem dX3_decide_125 : decode cX3_decide 125 = .ok (.ifCond .ne 7, 3) := by decide +kernel
theorem dX3_decide_128 : decode cX3_decide 128 = .ok (.aload_n 0, 1) := by decide +kernel
theorem dX3_decide_129 : decode cX3_decide 129 = .ok (.invokevirtual 155, 3) := by decide +kernel
theorem dX3_decide_132 : decode cX3_decide 132 = .ok (.aload_n 0, 1) := by decide +kernel
theorem dX3_decide_133 : decode cX3_decide 133 = .ok (.aload_n 0, 1) := by decide +kernel
theorem dX3_decide_134 : decode cX3_decide 134 = .ok (.getfield 90, 3) := by decide +kernel
theorem dX3_decide_137 : decode cX3_decide 137 = .ok (.ifCond .eq 14, 3) := by decide +kernel
theorem dX3_decide_140 : decode cX3_decide 140 = .ok (.aload_n 0, 1) := by decide +kernel
theorem dX3_decide_141 : decode cX3_decide 141 = .ok (.invokevirtual 158, 3) := by decide +kernel
theorem dX3_decide_144 : decode cX3_decide 144 = .ok (.ifCond .ne 7, 3) := by decide +kernel
theorem dX3_decide_147 : decode cX3_decide 147 = .ok (.iconst 1, 1) := by decide +kernel
theorem dX3_decide_148 : decode cX3_decide 148 = .ok (.goto 4, 3) := by decide +kernel
theorem dX3_decide_151 : decode cX3_decide 151 = .ok (.iconst 0, 1) := by decide +kernel
theorem dX3_decide_152 : decode cX3_decide 152 = .ok (.putfield 140, 3) := by decide +kernel
theorem dX3_decide_155 : decode cX3_decide 155 = .ok (.return_, 1) := by decide +kernel
def f_X3_startAnew  (D : Dm) : Option Dm := lt (ud D 43 4 1) fun D1 => lt (ud D1 76 2 1) fun D3 => lt (ud D3 43 16 0) fun D5 => lt (ud D5 43 17 0) fun D7 => some D7
def f_X3_isShort (x1 : Int32) (D : Dm) : Option (Int32 × Dm) := if x1 < 0 then (some (0, D)) else (if (D 43 4) ≤ x1 then (some (0, D)) else (some (1, D)))
def f_X3_isStanding_15  (D : Dm) : Option (Int32 × Dm) := some (1, D)
def f_X3_isStanding  (D : Dm) : Option (Int32 × Dm) := if (D 43 13) = 0 then (f_X3_isStanding_15 D) else (if (D 43 13) = 3 then (f_X3_isStanding_15 D) else (some (0, D)))
def f_X3_lookAtShortWords_15_b (k15 : Int32 → Dm → Option Dm) (x1 : Int32) (D : Dm) : Option Dm := if (D 43 4) ≤ x1 then (some D) else (gd (inB x1 10) (gd (inB x1 10) (bV (f_X6_look (ar_45 (Int32.toNatClampNeg x1)) (ar_44 (Int32.toNatClampNeg x1)) D) fun D4 => lt (x1 + 1) fun y6 => k15 y6 D4)))
def f_X3_lookAtShortWords_15 : Nat → Int32 → Dm → Option Dm
  | 0, _, _ => none
  | n + 1, x1, D => f_X3_lookAtShortWords_15_b (f_X3_lookAtShortWords_15 n) x1 D
def f_X3_lookAtShortWords  (D : Dm) : Option Dm := if (D 43 16) = 0 then (lt (ud D 43 16 1) fun D2 => f_X3_lookAtShortWords_15 FU 0 D2) else (some D)
def f_X3_lookAt (r1 : Nat) (D : Dm) : Option Dm := bV (f_X10_copyLeast 64 r1 D) fun D1 => bV (f_X6_look 46 64 D1) fun D3 => some D3
def f_X3_makeLonger (x1 : Int32) (x2 : Int32) (x3 : Int32) (D : Dm) : Option Dm := gd (inB x1 10) (bV (f_X10_copy 64 (ar_44 (Int32.toNatClampNeg x1)) D) fun D2 => bV (f_X10_add 64 x2 x3 D2) fun D4 => some D4)
def f_X3_lookAtLonger (x1 : Int32) (x2 : Int32) (x3 : Int32) (D : Dm) : Option Dm := bV (f_X3_makeLonger x1 x2 x3 D) fun D1 => bV (f_X6_look 46 64 D1) fun D3 => some D3
def f_X3_firstAlike_2_b (k2 : Int32 → Dm → Option (Int32 × Dm)) (x1 : Int32) (D : Dm) : Option (Int32 × Dm) := if (D 43 4) ≤ x1 then (some ((-1), D)) else (gd (inB x1 10) (bI (f_X6_wayTo 46 (ar_45 (Int32.toNatClampNeg x1)) D) fun y5 D3 => if y5 = (-1) then (lt (x1 + 1) fun y7 => k2 y7 D3) else (some (x1, D3))))
def f_X3_firstAlike_2 : Nat → Int32 → Dm → Option (Int32 × Dm)
  | 0, _, _ => none
  | n + 1, x1, D => f_X3_firstAlike_2_b (f_X3_firstAlike_2 n) x1 D
def f_X3_firstAlike  (D : Dm) : Option (Int32 × Dm) := f_X3_firstAlike_2 FU 0 D
def f_X3_mostKept_4_b (k4 : Int32 → Int32 → Dm → Option (Int32 × Dm)) (x1 : Int32) (x2 : Int32) (D : Dm) : Option (Int32 × Dm) := if (D 43 4) ≤ x2 then (some (x1, D)) else (gd (inB x2 10) (lt (mxI x1 (D (ar_45 (Int32.toNatClampNeg x2)) 6)) fun y3 => lt (x2 + 1) fun y5 => k4 y3 y5 D))
def f_X3_mostKept_4 : Nat → Int32 → Int32 → Dm → Option (Int32 × Dm)
  | 0, _, _, _ => none
  | n + 1, x1, x2, D => f_X3_mostKept_4_b (f_X3_mostKept_4 n) x1 x2 D
def f_X3_mostKept  (D : Dm) : Option (Int32 × Dm) := f_X3_mostKept_4 FU 0 0 D
def f_X3_countLongWords_8_b (k8 : Int32 → Int32 → Dm → Option (Int32 × Dm)) (x1 : Int32) (x2 : Int32) (D : Dm) : Option (Int32 × Dm) := if (D 43 4) ≤ x2 then (some (x1, D)) else (gd (inB x2 10) (lt (x1 + ((D 9 2) * ((D (ar_45 (Int32.toNatClampNeg x2)) 6) + 1))) fun y3 => lt (x2 + 1) fun y5 => k8 y3 y5 D))
def f_X3_countLongWords_8 : Nat → Int32 → Int32 → Dm → Option (Int32 × Dm)
  | 0, _, _, _ => none
  | n + 1, x1, x2, D => f_X3_countLongWords_8_b (f_X3_countLongWords_8 n) x1 x2 D
def f_X3_countLongWords  (D : Dm) : Option (Int32 × Dm) := bV (f_X3_lookAtShortWords D) fun D1 => f_X3_countLongWords_8 FU 0 0 D1
def f_X3_countTakenShorts_38 (k8 : Int32 → Int32 → Dm → Option (Int32 × Dm)) (x1 : Int32) (x2 : Int32) (D : Dm) : Option (Int32 × Dm) := lt (x2 + 1) fun y1 => k8 x1 y1 D
def f_X3_countTakenShorts_8_b (k8 : Int32 → Int32 → Dm → Option (Int32 × Dm)) (x1 : Int32) (x2 : Int32) (D : Dm) : Option (Int32 × Dm) := if (D 43 4) ≤ x2 then (some (x1, D)) else (gd (inB x2 10) (bI (f_X4_takes 9 ((ar_45 (Int32.toNatClampNeg x2)) + 1) D) fun y5 D3 => if y5 = 0 then (f_X3_countTakenShorts_38 k8 x1 x2 D3) else (lt (x1 + 1) fun y7 => f_X3_countTakenShorts_38 k8 y7 x2 D3)))
def f_X3_countTakenShorts_8 : Nat → Int32 → Int32 → Dm → Option (Int32 × Dm)
  | 0, _, _, _ => none
  | n + 1, x1, x2, D => f_X3_countTakenShorts_8_b (f_X3_countTakenShorts_8 n) x1 x2 D
def f_X3_countTakenShorts  (D : Dm) : Option (Int32 × Dm) := bV (f_X3_lookAtShortWords D) fun D1 => f_X3_countTakenShorts_8 FU 0 0 D1
def f_X3_makeStep_91  (D : Dm) : Option (Int32 × Dm) := lt (ud D 43 16 0) fun D1 => lt (ud D1 43 17 0) fun D3 => some ((D3 43 13), D3)
def f_X3_makeStep  (D : Dm) : Option (Int32 × Dm) := if (D 43 13) = 0 then (some (0, D)) else (if (D 43 15) = 0 then (if (D 43 13) = 2 then (gd (inB (D 43 4) 10) (bV (f_X10_copyLeast (ar_44 (Int32.toNatClampNeg (D 43 4))) 68 D) fun D10 => lt (ud D10 43 4 ((D10 43 4) + 1)) fun D12 => f_X3_makeStep_91 D12)) else (gd (inB (D 76 2) 10) (bV (f_X10_copyLeast (ar_77 (Int32.toNatClampNeg (D 76 2))) 68 D) fun D5 => lt (ud D5 76 2 ((D5 76 2) + 1)) fun D7 => f_X3_makeStep_91 D7))) else (some ((-4), D)))
def f_X3_findMissed_65 (k2 : Int32 → Int32 → Dm → Option (Int32 × Dm)) (x1 : Int32) (x2 : Int32) (D : Dm) : Option (Int32 × Dm) := lt (x2 + 1) fun y1 => k2 x1 y1 D
def f_X3_findMissed_2_b (k2 : Int32 → Int32 → Dm → Option (Int32 × Dm)) (x1 : Int32) (x2 : Int32) (D : Dm) : Option (Int32 × Dm) := if (D 46 2) ≤ x2 then (some ((-1), D)) else (gd (inB x2 2) (lt (D 49 (Int32.toNatClampNeg x2)) fun y3 => gd (inB x2 2) (if (D 50 (Int32.toNatClampNeg x2)) = (-1) then (f_X3_findMissed_65 k2 x1 x2 D) else (gd (inB x1 10) (if (D (ar_44 (Int32.toNatClampNeg x1)) 4) ≤ y3 then (f_X3_findMissed_65 k2 x1 x2 D) else (gd (inB x1 10) (bI (f_X6_placeOf (ar_45 (Int32.toNatClampNeg x1)) y3 D) fun y12 D10 => if y12 = (-1) then (some (x2, D10)) else (f_X3_findMissed_65 k2 x1 x2 D10))))))))
def f_X3_findMissed_2 : Nat → Int32 → Int32 → Dm → Option (Int32 × Dm)
  | 0, _, _, _ => none
  | n + 1, x1, x2, D => f_X3_findMissed_2_b (f_X3_findMissed_2 n) x1 x2 D
def f_X3_findMissed (x1 : Int32) (D : Dm) : Option (Int32 × Dm) := f_X3_findMissed_2 FU x1 0 D
def f_X3_proposeShown_71_b (k71 : Nat → Int32 → Dm → Option Dm) (r4 : Nat) (x5 : Int32) (D : Dm) : Option Dm := if (D r4 3) ≤ x5 then (some D) else (gd (inB x5 20) (gd (inB x5 20) (gd (inB (D (r4 + 2) (Int32.toNatClampNeg x5)) 3) (bV (f_X10_add 68 (D (r4 + 1) (Int32.toNatClampNeg x5)) (D 78 (Int32.toNatClampNeg (D (r4 + 2) (Int32.toNatClampNeg x5)))) D) fun D5 => lt (x5 + 1) fun y7 => k71 r4 y7 D5))))
def f_X3_proposeShown_71 : Nat → Nat → Int32 → Dm → Option Dm
  | 0, _, _, _ => none
  | n + 1, r4, x5, D => f_X3_proposeShown_71_b (f_X3_proposeShown_71 n) r4 x5 D
def f_X3_proposeShown (x1 : Int32) (x2 : Int32) (x3 : Int32) (D : Dm) : Option Dm := gd (inB x3 2) (gd (inB (D 50 (Int32.toNatClampNeg x3)) 10) (gd (inB x3 2) (bI (f_X0_nameBy (D 51 (Int32.toNatClampNeg x3)) (ar_77 (Int32.toNatClampNeg (D 50 (Int32.toNatClampNeg x3)))) 49 2 (D 46 2) D) fun y6 D4 => bV (f_X10_clear 68 D4) fun D7 => bV (f_X10_add 68 x1 x2 D7) fun D9 => f_X3_proposeShown_71 FU (ar_77 (Int32.toNatClampNeg (D 50 (Int32.toNatClampNeg x3)))) 0 D9)))
def f_X3_fillOf_25 (x1 : Int32) (xs0 : Int32) (D : Dm) : Option (Int32 × Dm) := gd (inB x1 10) (gd (inB xs0 2) (bI (f_X6_placeOf (ar_45 (Int32.toNatClampNeg x1)) (D 52 (Int32.toNatClampNeg xs0)) D) fun y5 D3 => if y5 = (-1) then (some (2, D3)) else (some (y5, D3))))
def f_X3_fillOf (x1 : Int32) (x2 : Int32) (x3 : Int32) (D : Dm) : Option (Int32 × Dm) := if x2 < (D 46 6) then (if x3 = 1 then (f_X3_fillOf_25 x1 (1 - x2) D) else (f_X3_fillOf_25 x1 x2 D)) else (some ((-1), D))
def f_X3_connect (x1 : Int32) (x2 : Int32) (x3 : Int32) (D : Dm) : Option Dm := gd (inB x3 10) (bI (f_X6_wayTo 46 (ar_45 (Int32.toNatClampNeg x3)) D) fun y4 D2 => bI (f_X3_fillOf x2 0 y4 D2) fun y7 D5 => bI (f_X3_fillOf x2 1 y4 D5) fun y10 D8 => bV (f_X2_put x1 x3 y7 y10 D8) fun D11 => some D11)
def f_X3_lookAtLongWord_126 (x1 : Int32) (x7 : Int32) (xs0 : Int32) (xs1 : Int32) (xs2 : Int32) (D : Dm) : Option Dm := bI (f_X4_slot xs2 xs1 xs0 D) fun y3 D1 => bV (f_X3_connect y3 x1 x7 D1) fun D4 => some D4
def f_X3_lookAtLongWord_48 (x1 : Int32) (x2 : Int32) (x3 : Int32) (x4 : Int32) (xs0 : Int32) (D : Dm) : Option Dm := bV (f_X3_makeLonger x1 x2 xs0 D) fun D1 => bV (f_X6_look 46 64 D1) fun D3 => bI (f_X3_findMissed x1 D3) fun y7 D5 => if y7 = (-1) then (bI (f_X3_firstAlike D5) fun y11 D9 => if y11 = (-1) then (if (D9 43 13) = 0 then (lt (ud D9 43 13 2) fun D14 => bV (f_X10_copyLeast 68 64 D14) fun D16 => some D16) else (some D9)) else (if x4 = 0 then (f_X3_lookAtLongWord_126 x1 y11 x3 x2 x1 D9) else (f_X3_lookAtLongWord_126 x1 y11 2 x2 x1 D9))) else (lt (ud D5 43 13 1) fun D19 => bV (f_X3_proposeShown x2 xs0 y7 D19) fun D21 => some D21)
def f_X3_lookAtLongWord_18 (x1 : Int32) (x2 : Int32) (x3 : Int32) (xs0 : Int32) (D : Dm) : Option Dm := if xs0 = 0 then (gd (inB x1 10) (gd (inB x3 2) (f_X3_lookAtLongWord_48 x1 x2 x3 xs0 (D ((ar_45 (Int32.toNatClampNeg x1)) + 6) (Int32.toNatClampNeg x3)) D))) else (gd (inB x1 10) (f_X3_lookAtLongWord_48 x1 x2 x3 xs0 (D (ar_44 (Int32.toNatClampNeg x1)) 4) D))
def f_X3_lookAtLongWord (x1 : Int32) (x2 : Int32) (x3 : Int32) (D : Dm) : Option Dm := gd (inB x1 10) (if x3 < (D (ar_45 (Int32.toNatClampNeg x1)) 6) then (f_X3_lookAtLongWord_18 x1 x2 x3 0 D) else (f_X3_lookAtLongWord_18 x1 x2 x3 1 D))
def f_X3_takesMixed_131_b (k131 : Int32 → Dm → Option (Int32 × Dm)) (x3 : Int32) (D : Dm) : Option (Int32 × Dm) := if (D 60 3) ≤ x3 then (bI (f_X4_takes 9 74 D) fun y4 D2 => gd (zbB y4) (some (y4, D2))) else (gd (inB x3 20) (gd (inB x3 20) (bV (f_X4_advance 9 74 (D 61 (Int32.toNatClampNeg x3)) (D 62 (Int32.toNatClampNeg x3)) D) fun D8 => lt (x3 + 1) fun y10 => k131 y10 D8)))
def f_X3_takesMixed_131 : Nat → Int32 → Dm → Option (Int32 × Dm)
  | 0, _, _ => none
  | n + 1, x3, D => f_X3_takesMixed_131_b (f_X3_takesMixed_131 n) x3 D
def f_X3_takesMixed_120 (k37 : Int32 → Int32 → Int32 → Dm → Option (Int32 × Dm)) (x1 : Int32) (x2 : Int32) (x3 : Int32) (xs0 : Int32) (xs1 : Int32) (D : Dm) : Option (Int32 × Dm) := bV (f_X4_advance 9 74 xs1 xs0 D) fun D1 => lt (x3 + 1) fun y3 => k37 x1 x2 y3 D1
def f_X3_takesMixed_37_b (k37 : Int32 → Int32 → Int32 → Dm → Option (Int32 × Dm)) (x1 : Int32) (x2 : Int32) (x3 : Int32) (D : Dm) : Option (Int32 × Dm) := gd (inB x2 10) (if (D (ar_44 (Int32.toNatClampNeg x2)) 3) ≤ x3 then (f_X3_takesMixed_131 FU x1 D) else (gd (inB x2 10) (gd (inB x3 20) (lt (D ((ar_44 (Int32.toNatClampNeg x2)) + 2) (Int32.toNatClampNeg x3)) fun y5 => gd (inB x2 10) (bI (f_X6_placeOf (ar_45 (Int32.toNatClampNeg x2)) y5 D) fun y10 D8 => gd (inB x2 10) (gd (inB x3 20) (if y10 = (-1) then (f_X3_takesMixed_120 k37 x1 x2 x3 (1000 + y5) (D8 ((ar_44 (Int32.toNatClampNeg x2)) + 1) (Int32.toNatClampNeg x3)) D8) else (gd (inB y10 2) (f_X3_takesMixed_120 k37 x1 x2 x3 (D8 73 (Int32.toNatClampNeg y10)) (D8 ((ar_44 (Int32.toNatClampNeg x2)) + 1) (Int32.toNatClampNeg x3)) D8)))))))))
def f_X3_takesMixed_37 : Nat → Int32 → Int32 → Int32 → Dm → Option (Int32 × Dm)
  | 0, _, _, _, _ => none
  | n + 1, x1, x2, x3, D => f_X3_takesMixed_37_b (f_X3_takesMixed_37 n) x1 x2 x3 D
def f_X3_takesMixed (x1 : Int32) (D : Dm) : Option (Int32 × Dm) := bV (f_X9_walk_h 72 60 x1 D) fun D1 => lt (mxI (D1 72 0) 0) fun y3 => bV (f_X1_start 74 D1) fun D5 => f_X3_takesMixed_37 FU x1 y3 0 D5
def f_X3_tryHypothesis_140_b (k140 : Int32 → Dm → Option Dm) (x2 : Int32) (D : Dm) : Option Dm := if (D 60 3) ≤ x2 then (some D) else (gd (inB x2 20) (gd (inB x2 20) (bV (f_X10_add 68 (D 61 (Int32.toNatClampNeg x2)) (D 62 (Int32.toNatClampNeg x2)) D) fun D4 => lt (x2 + 1) fun y6 => k140 y6 D4)))
def f_X3_tryHypothesis_140 : Nat → Int32 → Dm → Option Dm
  | 0, _, _ => none
  | n + 1, x2, D => f_X3_tryHypothesis_140_b (f_X3_tryHypothesis_140 n) x2 D
def f_X3_tryHypothesis_126  (D : Dm) : Option Dm := bV (f_X10_clear 68 D) fun D1 => lt ((D1 43 14) + 1) fun y3 => f_X3_tryHypothesis_140 FU y3 D1
def f_X3_tryHypothesis_120 (k85 : Int32 → Int32 → Dm → Option Dm) (x1 : Int32) (x2 : Int32) (D : Dm) : Option Dm := lt (x2 + 1) fun y1 => k85 x1 y1 D
def f_X3_tryHypothesis_85_b (k85 : Int32 → Int32 → Dm → Option Dm) (x1 : Int32) (x2 : Int32) (D : Dm) : Option Dm := if (D 60 3) ≤ x2 then (f_X3_tryHypothesis_126 D) else (if (D 43 14) = (-1) then (bI (f_X3_takesMixed (x2 + 1) D) fun y5 D3 => if y5 = x1 then (f_X3_tryHypothesis_120 k85 x1 x2 D3) else (lt (ud D3 43 14 x2) fun D7 => f_X3_tryHypothesis_120 k85 x1 x2 D7)) else (f_X3_tryHypothesis_126 D))
def f_X3_tryHypothesis_85 : Nat → Int32 → Int32 → Dm → Option Dm
  | 0, _, _, _ => none
  | n + 1, x1, x2, D => f_X3_tryHypothesis_85_b (f_X3_tryHypothesis_85 n) x1 x2 D
def f_X3_tryHypothesis_37 (k2 : Int32 → Dm → Option Dm) (x1 : Int32) (D : Dm) : Option Dm := lt (x1 + 1) fun y1 => k2 y1 D
def f_X3_tryHypothesis_2_b (k2 : Int32 → Dm → Option Dm) (x1 : Int32) (D : Dm) : Option Dm := if (D 43 4) ≤ x1 then (bI (f_X8_find_h (D 9 2) 60 D) fun y4 D2 => if y4 = 0 then (some D2) else (lt (ud D2 43 13 3) fun D6 => bI (f_X3_takesMixed 0 D6) fun y10 D8 => f_X3_tryHypothesis_85 FU y10 0 D8)) else (gd (inB x1 10) (bI (f_X4_takes 9 ((ar_45 (Int32.toNatClampNeg x1)) + 1) D) fun y14 D12 => if y14 = 0 then (f_X3_tryHypothesis_37 k2 x1 D12) else (bV (f_X2_takeAt x1 D12) fun D16 => f_X3_tryHypothesis_37 k2 x1 D16)))
def f_X3_tryHypothesis_2 : Nat → Int32 → Dm → Option Dm
  | 0, _, _ => none
  | n + 1, x1, D => f_X3_tryHypothesis_2_b (f_X3_tryHypothesis_2 n) x1 D
def f_X3_tryHypothesis  (D : Dm) : Option Dm := f_X3_tryHypothesis_2 FU 0 D
def f_X3_fits_50_b (k50 : Int32 → Dm → Option (Int32 × Dm)) (x1 : Int32) (D : Dm) : Option (Int32 × Dm) := if (D 76 2) ≤ x1 then (if 10 ≤ (D 76 2) then (some (0, D)) else (some (1, D))) else (gd (inB x1 10) (bI (f_X10_isLeastAs 68 (ar_77 (Int32.toNatClampNeg x1)) D) fun y6 D4 => if y6 = 0 then (lt (x1 + 1) fun y8 => k50 y8 D4) else (some (0, D4))))
def f_X3_fits_50 : Nat → Int32 → Dm → Option (Int32 × Dm)
  | 0, _, _ => none
  | n + 1, x1, D => f_X3_fits_50_b (f_X3_fits_50 n) x1 D
def f_X3_fits  (D : Dm) : Option (Int32 × Dm) := if 6 < (D 68 3) then (some (0, D)) else (if (D 68 4) ≤ 3 then (if (D 43 13) = 2 then (if 10 ≤ (D 43 4) then (some (0, D)) else (some (1, D))) else (f_X3_fits_50 FU 0 D)) else (some (0, D)))
def f_X3_decide_152 (xs0 : Int32) (D : Dm) : Option Dm := gd (zbB xs0) (lt (ud D 43 15 xs0) fun D2 => some D2)
def f_X3_decide_151  (D : Dm) : Option Dm := f_X3_decide_152 0 D
def f_X3_decide_132  (D : Dm) : Option Dm := if (D 43 13) = 0 then (f_X3_decide_151 D) else (bI (f_X3_fits D) fun y4 D2 => if y4 = 0 then (f_X3_decide_152 1 D2) else (f_X3_decide_151 D2))
def f_X3_decide_121  (D : Dm) : Option Dm := if (D 43 13) = 0 then (bV (f_X3_tryHypothesis D) fun D2 => f_X3_decide_132 D2) else (f_X3_decide_132 D)
def f_X3_decide_115 (k36 : Int32 → Dm → Option Dm) (x1 : Int32) (D : Dm) : Option Dm := lt (x1 + 1) fun y1 => k36 y1 D
def f_X3_decide_109 (k36 : Int32 → Dm → Option Dm) (k54 : Int32 → Int32 → Dm → Option Dm) (x1 : Int32) (x2 : Int32) (D : Dm) : Option Dm := lt (x2 + 1) fun y1 => k54 x1 y1 D
def f_X3_decide_75_b (k36 : Int32 → Dm → Option Dm) (k54 : Int32 → Int32 → Dm → Option Dm) (k75 : Int32 → Int32 → Int32 → Dm → Option Dm) (x1 : Int32) (x2 : Int32) (x3 : Int32) (D : Dm) : Option Dm := gd (inB x1 10) (if (D (ar_45 (Int32.toNatClampNeg x1)) 6) < x3 then (f_X3_decide_109 k36 k54 x1 x2 D) else (if (D 43 13) = 1 then (f_X3_decide_109 k36 k54 x1 x2 D) else (bV (f_X3_lookAtLongWord x1 x2 x3 D) fun D4 => lt (x3 + 1) fun y6 => k75 x1 x2 y6 D4)))
def f_X3_decide_75 (k36 : Int32 → Dm → Option Dm) (k54 : Int32 → Int32 → Dm → Option Dm) : Nat → Int32 → Int32 → Int32 → Dm → Option Dm
  | 0, _, _, _, _ => none
  | n + 1, x1, x2, x3, D => f_X3_decide_75_b k36 k54 (f_X3_decide_75 k36 k54 n) x1 x2 x3 D
def f_X3_decide_54_b (k36 : Int32 → Dm → Option Dm) (k54 : Int32 → Int32 → Dm → Option Dm) (x1 : Int32) (x2 : Int32) (D : Dm) : Option Dm := if (D 9 2) ≤ x2 then (f_X3_decide_115 k36 x1 D) else (if (D 43 13) = 1 then (f_X3_decide_115 k36 x1 D) else (f_X3_decide_75 k36 k54 FU x1 x2 0 D))
def f_X3_decide_54 (k36 : Int32 → Dm → Option Dm) : Nat → Int32 → Int32 → Dm → Option Dm
  | 0, _, _, _ => none
  | n + 1, x1, x2, D => f_X3_decide_54_b k36 (f_X3_decide_54 k36 n) x1 x2 D
def f_X3_decide_36_b (k36 : Int32 → Dm → Option Dm) (x1 : Int32) (D : Dm) : Option Dm := if (D 43 4) ≤ x1 then (f_X3_decide_121 D) else (if (D 43 13) = 1 then (f_X3_decide_121 D) else (f_X3_decide_54 k36 FU x1 0 D))
def f_X3_decide_36 : Nat → Int32 → Dm → Option Dm
  | 0, _, _ => none
  | n + 1, x1, D => f_X3_decide_36_b (f_X3_decide_36 n) x1 D
def f_X3_decide  (D : Dm) : Option Dm := if (D 43 17) = 0 then (lt (ud D 43 17 1) fun D2 => lt (ud D2 43 13 0) fun D4 => lt (ud D4 43 14 (-1)) fun D6 => bV (f_X3_lookAtShortWords D6) fun D8 => bV (f_X2_clear D8) fun D10 => f_X3_decide_36 FU 0 D10) else (some D)
set_option maxHeartbeats 4000000 in
theorem w_X3_startAnew {G : va_G} {tA : Nat → ClassId} {z : Nat} {E : Ex} {p : Program} {l : Launch} {e : Env} {s : State} {m : MethodId} {args : Array Value} {below : List Frame} {meth : Method} {c : Code} {D' : Dm} (O : Ok G tA z E cX3_startAnew RX3 1 p s m args c) (hr : meth.sig.returnType = none) (hlk : meth.locks = false)  (D : Dm) (h : f_X3_startAnew  D = some D') : BV G tA z E p l e (rmC 1 0 0) s m args below meth c LAY D D' 1 0 [(0, .ref (z + 43))] [] := by
  obtain ⟨hx, hb, -, hown, hts, -⟩ := id O
  unfold f_X3_startAnew at h
  intro H locs ls hH hl
  refine lv_aload_n hx hb dX3_startAnew_0 rfl (lv_at hl 0 rfl) ?_
  refine lv_iconst (v := 1) hx hb dX3_startAnew_1 (by decide) ?_
  obtain ⟨D1, e2, h⟩ := lt_some h
  refine h_puti O hH ly_43 rfl fl_X3_76 e2 dX3_startAnew_2 (fun H locs hH => ?_)
  refine lv_aload_n hx hb dX3_startAnew_5 rfl (lv_at hl 0 rfl) ?_
  refine h_getr O hH ly_43 rfl fl_X3_69 dX3_startAnew_6 ?_
  refine lv_iconst (v := 1) hx hb dX3_startAnew_9 (by decide) ?_
  obtain ⟨D3, e4, h⟩ := lt_some h
  refine h_puti O hH ly_76 rfl fl_X3_80 e4 dX3_startAnew_10 (fun H locs hH => ?_)
  refine lv_aload_n hx hb dX3_startAnew_13 rfl (lv_at hl 0 rfl) ?_
  refine lv_iconst (v := 0) hx hb dX3_startAnew_14 (by decide) ?_
  obtain ⟨D5, e6, h⟩ := lt_some h
  refine h_putz O hH ly_43 rfl fl_X3_83 zb_0 e6 dX3_startAnew_15 (fun H locs hH => ?_)
  refine lv_aload_n hx hb dX3_startAnew_18 rfl (lv_at hl 0 rfl) ?_
  refine lv_iconst (v := 0) hx hb dX3_startAnew_19 (by decide) ?_
  obtain ⟨D7, e8, h⟩ := lt_some h
  refine h_putz O hH ly_43 rfl fl_X3_87 zb_0 e8 dX3_startAnew_20 (fun H locs hH => ?_)
  obtain rfl := ret_v h
  exact h_vret O hr hlk hH dX3_startAnew_23
set_option maxHeartbeats 4000000 in
theorem c_X3_startAnew {l : Launch} {G : va_G} {tA : Nat → ClassId} {z : Nat} {E : Ex}  {D D' : Dm} (h : f_X3_startAnew  D = some D') : CtV l yX3_startAnew cX3_startAnew 1 G tA z E 1 0 0 [.ref (z + 43)] LAY D LAY D' :=
  ct_BV (by decide +kernel) (Nat.le_of_ble_eq_true rfl) (fun _ _ _ _ _ _ _ _ O hr hlk => w_X3_startAnew O hr hlk  _ h)
set_option maxHeartbeats 4000000 in
theorem w_X3_isShort {G : va_G} {tA : Nat → ClassId} {z : Nat} {E : Ex} {p : Program} {l : Launch} {e : Env} {s : State} {m : MethodId} {args : Array Value} {below : List Frame} {meth : Method} {c : Code} {r : Int32} {D' : Dm} (O : Ok G tA z E cX3_isShort RX3 2 p s m args c) (hr : meth.sig.returnType = some .boolean) (hlk : meth.locks = false) (x1 : Int32) (D : Dm) (h : f_X3_isShort x1 D = some (r, D')) : BI G tA z E p l e (rmC 1 0 0) s m args below meth c LAY D r D' 2 0 [(0, .ref (z + 43)), (1, .int x1)] [] := by
  obtain ⟨hx, hb, -, hown, hts, -⟩ := id O
  unfold f_X3_isShort at h
  intro H locs ls hH hl
  refine lv_iload_n hx hb dX3_isShort_0 rfl (lv_at hl 1 rfl) ?_
  refine lv_if_lt (tgt := 16) hx hb dX3_isShort_1 (by decide) (fun c1 => ?_) (fun c1 => ?_)
  · have h := it_pos h c1
    refine lv_iconst (v := 0) hx hb dX3_isShort_16 (by decide) ?_
    obtain ⟨rfl, rfl⟩ := ret_i h
    exact h_zret O hr hlk zb_0 hH dX3_isShort_17
  · have h := it_neg h c1
    refine lv_iload_n hx hb dX3_isShort_4 rfl (lv_at hl 1 rfl) ?_
    refine lv_aload_n hx hb dX3_isShort_5 rfl (lv_at hl 0 rfl) ?_
    refine h_geti O hH ly_43 rfl fl_X3_76 dX3_isShort_6 ?_
    refine lv_icmp_ge (tgt := 16) hx hb dX3_isShort_9 (by decide) (fun c2 => ?_) (fun c2 => ?_)
    · have h := it_pos h c2
      refine lv_iconst (v := 0) hx hb dX3_isShort_16 (by decide) ?_
      obtain ⟨rfl, rfl⟩ := ret_i h
      exact h_zret O hr hlk zb_0 hH dX3_isShort_17
    · have h := it_neg h c2
      refine lv_iconst (v := 1) hx hb dX3_isShort_12 (by decide) ?_
      refine lv_goto (tgt := 17) hx hb dX3_isShort_13 (by decide) ?_
      obtain ⟨rfl, rfl⟩ := ret_i h
      exact h_zret O hr hlk zb_1 hH dX3_isShort_17
set_option maxHeartbeats 4000000 in
theorem c_X3_isShort {l : Launch} {G : va_G} {tA : Nat → ClassId} {z : Nat} {E : Ex} {x1 : Int32} {D D' : Dm} {r : Int32} (h : f_X3_isShort x1 D = some (r, D')) : CtI l yX3_isShort cX3_isShort 2 (some .boolean) G tA z E 1 0 0 [.ref (z + 43), .int x1] LAY D r LAY D' :=
  ct_BI (by decide +kernel) (Nat.le_of_ble_eq_true rfl) (fun _ _ _ _ _ _ _ _ O hr hlk => w_X3_isShort O hr hlk _ _ h)
set_option maxHeartbeats 4000000 in
theorem w_X3_isStanding_15 {G : va_G} {tA : Nat → ClassId} {z : Nat} {E : Ex} {p : Program} {l : Launch} {e : Env} {s : State} {m : MethodId} {args : Array Value} {below : List Frame} {meth : Method} {c : Code} {r : Int32} {D' : Dm} (O : Ok G tA z E cX3_isStanding RX3 1 p s m args c) (hr : meth.sig.returnType = some .boolean) (hlk : meth.locks = false)  (D : Dm) (h : f_X3_isStanding_15  D = some (r, D')) : BI G tA z E p l e (rmC 1 0 0) s m args below meth c LAY D r D' 1 15 [] [] := by
  obtain ⟨hx, hb, -, hown, hts, -⟩ := id O
  unfold f_X3_isStanding_15 at h
  intro H locs ls hH hl
  refine lv_iconst (v := 1) hx hb dX3_isStanding_15 (by decide) ?_
  refine lv_goto (tgt := 20) hx hb dX3_isStanding_16 (by decide) ?_
  obtain ⟨rfl, rfl⟩ := ret_i h
  exact h_zret O hr hlk zb_1 hH dX3_isStanding_20
set_option maxHeartbeats 4000000 in
theorem w_X3_isStanding {G : va_G} {tA : Nat → ClassId} {z : Nat} {E : Ex} {p : Program} {l : Launch} {e : Env} {s : State} {m : MethodId} {args : Array Value} {below : List Frame} {meth : Method} {c : Code} {r : Int32} {D' : Dm} (O : Ok G tA z E cX3_isStanding RX3 1 p s m args c) (hr : meth.sig.returnType = some .boolean) (hlk : meth.locks = false)  (D : Dm) (h : f_X3_isStanding  D = some (r, D')) : BI G tA z E p l e (rmC 1 0 0) s m args below meth c LAY D r D' 1 0 [(0, .ref (z + 43))] [] := by
  obtain ⟨hx, hb, -, hown, hts, -⟩ := id O
  unfold f_X3_isStanding at h
  intro H locs ls hH hl
  refine lv_aload_n hx hb dX3_isStanding_0 rfl (lv_at hl 0 rfl) ?_
  refine h_geti O hH ly_43 rfl fl_X3_90 dX3_isStanding_1 ?_
  refine lv_if_eq (tgt := 15) hx hb dX3_isStanding_4 (by decide) (fun c1 => ?_) (fun c1 => ?_)
  · have h := it_pos h c1
    exact w_X3_isStanding_15 O hr hlk _ h _ _ _ hH (lv_sub hl [] rfl)
  · have h := it_neg h c1
    refine lv_aload_n hx hb dX3_isStanding_7 rfl (lv_at hl 0 rfl) ?_
    refine h_geti O hH ly_43 rfl fl_X3_90 dX3_isStanding_8 ?_
    refine lv_iconst (v := 3) hx hb dX3_isStanding_11 (by decide) ?_
    refine lv_icmp_ne (tgt := 19) hx hb dX3_isStanding_12 (by decide) (fun c2 => ?_) (fun c2 => ?_)
    · have h := it_neg h c2
      refine lv_iconst (v := 0) hx hb dX3_isStanding_19 (by decide) ?_
      obtain ⟨rfl, rfl⟩ := ret_i h
      exact h_zret O hr hlk zb_0 hH dX3_isStanding_20
    · have h := it_pos h c2
      exact w_X3_isStanding_15 O hr hlk _ h _ _ _ hH (lv_sub hl [] rfl)
set_option maxHeartbeats 4000000 in
theorem c_X3_isStanding {l : Launch} {G : va_G} {tA : Nat → ClassId} {z : Nat} {E : Ex}  {D D' : Dm} {r : Int32} (h : f_X3_isStanding  D = some (r, D')) : CtI l yX3_isStanding cX3_isStanding 1 (some .boolean) G tA z E 1 0 0 [.ref (z + 43)] LAY D r LAY D' :=
  ct_BI (by decide +kernel) (Nat.le_of_ble_eq_true rfl) (fun _ _ _ _ _ _ _ _ O hr hlk => w_X3_isStanding O hr hlk  _ h)
set_option maxHeartbeats 4000000 in
theorem w_X3_lookAtShortWords_15_b {G : va_G} {tA : Nat → ClassId} {z : Nat} {E : Ex} {p : Program} {l : Launch} {e : Env} {s : State} {m : MethodId} {args : Array Value} {below : List Frame} {meth : Method} {c : Code} {D' : Dm} (O : Ok G tA z E cX3_lookAtShortWords RX3 2 p s m args c) (hr : meth.sig.returnType = none) (hlk : meth.locks = false) {k15 : Int32 → Dm → Option Dm} (hk15 : ∀ (x1 : Int32) (D : Dm), k15 x1 D = some D' → BV G tA z E p l e (rmC 5 0 0) s m args below meth c LAY D D' 2 15 [(0, .ref (z + 43)), (1, .int x1)] []) (x1 : Int32) (D : Dm) (h : f_X3_lookAtShortWords_15_b k15 x1 D = some D') : BV G tA z E p l e (rmC 5 0 0) s m args below meth c LAY D D' 2 15 [(0, .ref (z + 43)), (1, .int x1)] [] := by
  obtain ⟨hx, hb, -, hown, hts, -⟩ := id O
  unfold f_X3_lookAtShortWords_15_b at h
  intro H locs ls hH hl
  refine lv_iload_n hx hb dX3_lookAtShortWords_15 rfl (lv_at hl 1 rfl) ?_
  refine lv_aload_n hx hb dX3_lookAtShortWords_16 rfl (lv_at hl 0 rfl) ?_
  refine h_geti O hH ly_43 rfl fl_X3_76 dX3_lookAtShortWords_17 ?_
  refine lv_icmp_ge (tgt := 48) hx hb dX3_lookAtShortWords_20 (by decide) (fun c1 => ?_) (fun c1 => ?_)
  · have h := it_pos h c1
    obtain rfl := ret_v h
    exact h_vret O hr hlk hH dX3_lookAtShortWords_48
  · have h := it_neg h c1
    refine lv_aload_n hx hb dX3_lookAtShortWords_23 rfl (lv_at hl 0 rfl) ?_
    refine h_getr O hH ly_43 rfl fl_X3_19 dX3_lookAtShortWords_24 ?_
    refine lv_iload_n hx hb dX3_lookAtShortWords_27 rfl (lv_at hl 1 rfl) ?_
    obtain ⟨g2, h⟩ := gd_some h
    refine h_aald O hH ly_45 rfl g2 (ar_45_r g2) dX3_lookAtShortWords_28 ?_
    refine lv_aload_n hx hb dX3_lookAtShortWords_29 rfl (lv_at hl 0 rfl) ?_
    refine h_getr O hH ly_43 rfl fl_X3_69 dX3_lookAtShortWords_30 ?_
    refine lv_aload_n hx hb dX3_lookAtShortWords_33 rfl (lv_at hl 0 rfl) ?_
    refine h_getr O hH ly_43 rfl fl_X3_11 dX3_lookAtShortWords_34 ?_
    refine lv_iload_n hx hb dX3_lookAtShortWords_37 rfl (lv_at hl 1 rfl) ?_
    obtain ⟨g3, h⟩ := gd_some h
    refine h_aald O hH ly_44 rfl g3 (ar_44_r g3) dX3_lookAtShortWords_38 ?_
    obtain ⟨D4, hc5, h⟩ := bV_some h
    refine h_callVv (As := [.ref (z + 76), .ref (z + (ar_44 (Int32.toNatClampNeg x1)))]) (rest := []) O hH (c_X6_look (ar_45_c g2) (ar_44_c g3) hc5) ml_X3_93 (ar_45_c g2).1 rfl rfl hl.1 rfl ⟨Nat.le_of_ble_eq_true rfl, Nat.le_of_ble_eq_true rfl⟩ (Nat.le_of_ble_eq_true rfl) dX3_lookAtShortWords_39 (fun H locs hH => ?_)
    obtain ⟨y6, e7, h⟩ := lt_some h
    refine lv_iinc (v := y6) (lv' := [(1, .int y6), (0, .ref (z + 43))]) hx hb dX3_lookAtShortWords_42 hl (k := 1) rfl (by rw [e7]; rfl) (by decide) rfl (fun ls hl => ?_)
    refine lv_goto (tgt := 15) hx hb dX3_lookAtShortWords_45 (by decide) ?_
    exact hk15 _ _ h _ _ _ hH (lv_sub hl [1, 0] rfl)
set_option maxHeartbeats 4000000 in
theorem w_X3_lookAtShortWords_15 {G : va_G} {tA : Nat → ClassId} {z : Nat} {E : Ex} {p : Program} {l : Launch} {e : Env} {s : State} {m : MethodId} {args : Array Value} {below : List Frame} {meth : Method} {c : Code} {D' : Dm} (O : Ok G tA z E cX3_lookAtShortWords RX3 2 p s m args c) (hr : meth.sig.returnType = none) (hlk : meth.locks = false) : ∀ (n : Nat) (x1 : Int32) (D : Dm) (h : f_X3_lookAtShortWords_15 n x1 D = some D'), BV G tA z E p l e (rmC 5 0 0) s m args below meth c LAY D D' 2 15 [(0, .ref (z + 43)), (1, .int x1)] [] := by
  intro n
  induction n with
  | zero => intro x1 D h; exact no_some h
  | succ n ih => intro x1 D h; exact w_X3_lookAtShortWords_15_b O hr hlk (fun x1 D h => ih x1 D h) x1 D h
set_option maxHeartbeats 4000000 in
theorem w_X3_lookAtShortWords {G : va_G} {tA : Nat → ClassId} {z : Nat} {E : Ex} {p : Program} {l : Launch} {e : Env} {s : State} {m : MethodId} {args : Array Value} {below : List Frame} {meth : Method} {c : Code} {D' : Dm} (O : Ok G tA z E cX3_lookAtShortWords RX3 2 p s m args c) (hr : meth.sig.returnType = none) (hlk : meth.locks = false)  (D : Dm) (h : f_X3_lookAtShortWords  D = some D') : BV G tA z E p l e (rmC 5 0 0) s m args below meth c LAY D D' 2 0 [(0, .ref (z + 43))] [] := by
  obtain ⟨hx, hb, -, hown, hts, -⟩ := id O
  unfold f_X3_lookAtShortWords at h
  intro H locs ls hH hl
  refine lv_aload_n hx hb dX3_lookAtShortWords_0 rfl (lv_at hl 0 rfl) ?_
  refine h_geti O hH ly_43 rfl fl_X3_83 dX3_lookAtShortWords_1 ?_
  refine lv_if_eq (tgt := 8) hx hb dX3_lookAtShortWords_4 (by decide) (fun c1 => ?_) (fun c1 => ?_)
  · have h := it_pos h c1
    refine lv_aload_n hx hb dX3_lookAtShortWords_8 rfl (lv_at hl 0 rfl) ?_
    refine lv_iconst (v := 1) hx hb dX3_lookAtShortWords_9 (by decide) ?_
    obtain ⟨D2, e3, h⟩ := lt_some h
    refine h_putz O hH ly_43 rfl fl_X3_83 zb_1 e3 dX3_lookAtShortWords_10 (fun H locs hH => ?_)
    refine lv_iconst (v := 0) hx hb dX3_lookAtShortWords_13 (by decide) ?_
    refine lv_istore_n (lv' := [(1, .int 0), (0, .ref (z + 43))]) hx hb dX3_lookAtShortWords_14 rfl hl (by decide) rfl (fun ls hl => ?_)
    exact w_X3_lookAtShortWords_15 O hr hlk FU _ _ h _ _ _ hH (lv_sub hl [1, 0] rfl)
  · have h := it_neg h c1
    obtain rfl := ret_v h
    exact h_vret O hr hlk hH dX3_lookAtShortWords_7
set_option maxHeartbeats 4000000 in
theorem c_X3_lookAtShortWords {l : Launch} {G : va_G} {tA : Nat → ClassId} {z : Nat} {E : Ex}  {D D' : Dm} (h : f_X3_lookAtShortWords  D = some D') : CtV l yX3_lookAtShortWords cX3_lookAtShortWords 2 G tA z E 5 0 0 [.ref (z + 43)] LAY D LAY D' :=
  ct_BV (by decide +kernel) (Nat.le_of_ble_eq_true rfl) (fun _ _ _ _ _ _ _ _ O hr hlk => w_X3_lookAtShortWords O hr hlk  _ h)
set_option maxHeartbeats 4000000 in
theorem w_X3_lookAt {G : va_G} {tA : Nat → ClassId} {z : Nat} {E : Ex} {p : Program} {l : Launch} {e : Env} {s : State} {m : MethodId} {args : Array Value} {below : List Frame} {meth : Method} {c : Code} {D' : Dm} (O : Ok G tA z E cX3_lookAt RX3 2 p s m args c) (hr : meth.sig.returnType = none) (hlk : meth.locks = false) (r1 : Nat) (h1 : isC10 r1) (D : Dm) (h : f_X3_lookAt r1 D = some D') : BV G tA z E p l e (rmC 5 0 0) s m args below meth c LAY D D' 2 0 [(0, .ref (z + 43)), (1, .ref (z + r1))] [] := by
  obtain ⟨hx, hb, -, hown, hts, -⟩ := id O
  unfold f_X3_lookAt at h
  intro H locs ls hH hl
  refine lv_aload_n hx hb dX3_lookAt_0 rfl (lv_at hl 0 rfl) ?_
  refine h_getr O hH ly_43 rfl fl_X3_40 dX3_lookAt_1 ?_
  refine lv_aload_n hx hb dX3_lookAt_4 rfl (lv_at hl 1 rfl) ?_
  obtain ⟨D1, hc2, h⟩ := bV_some h
  refine h_callVv (As := [.ref (z + r1)]) (rest := []) O hH (c_X10_copyLeast ic_64 h1 hc2) ml_X3_97 ly_64 rfl rfl hl.1 rfl ⟨Nat.le_of_ble_eq_true rfl, Nat.le_of_ble_eq_true rfl⟩ (Nat.le_of_ble_eq_true rfl) dX3_lookAt_5 (fun H locs hH => ?_)
  refine lv_aload_n hx hb dX3_lookAt_8 rfl (lv_at hl 0 rfl) ?_
  refine h_getr O hH ly_43 rfl fl_X3_24 dX3_lookAt_9 ?_
  refine lv_aload_n hx hb dX3_lookAt_12 rfl (lv_at hl 0 rfl) ?_
  refine h_getr O hH ly_43 rfl fl_X3_69 dX3_lookAt_13 ?_
  refine lv_aload_n hx hb dX3_lookAt_16 rfl (lv_at hl 0 rfl) ?_
  refine h_getr O hH ly_43 rfl fl_X3_40 dX3_lookAt_17 ?_
  obtain ⟨D3, hc4, h⟩ := bV_some h
  refine h_callVv (As := [.ref (z + 76), .ref (z + 64)]) (rest := []) O hH (c_X6_look ic_46 ic_64 hc4) ml_X3_93 ly_46 rfl rfl hl.1 rfl ⟨Nat.le_of_ble_eq_true rfl, Nat.le_of_ble_eq_true rfl⟩ (Nat.le_of_ble_eq_true rfl) dX3_lookAt_20 (fun H locs hH => ?_)
  obtain rfl := ret_v h
  exact h_vret O hr hlk hH dX3_lookAt_23
set_option maxHeartbeats 4000000 in
theorem c_X3_lookAt {l : Launch} {G : va_G} {tA : Nat → ClassId} {z : Nat} {E : Ex} {r1 : Nat} (h1 : isC10 r1) {D D' : Dm} (h : f_X3_lookAt r1 D = some D') : CtV l yX3_lookAt cX3_lookAt 2 G tA z E 5 0 0 [.ref (z + 43), .ref (z + r1)] LAY D LAY D' :=
  ct_BV (by decide +kernel) (Nat.le_of_ble_eq_true rfl) (fun _ _ _ _ _ _ _ _ O hr hlk => w_X3_lookAt O hr hlk _ h1 _ h)
set_option maxHeartbeats 4000000 in
theorem w_X3_makeLonger {G : va_G} {tA : Nat → ClassId} {z : Nat} {E : Ex} {p : Program} {l : Launch} {e : Env} {s : State} {m : MethodId} {args : Array Value} {below : List Frame} {meth : Method} {c : Code} {D' : Dm} (O : Ok G tA z E cX3_makeLonger RX3 4 p s m args c) (hr : meth.sig.returnType = none) (hlk : meth.locks = false) (x1 : Int32) (x2 : Int32) (x3 : Int32) (D : Dm) (h : f_X3_makeLonger x1 x2 x3 D = some D') : BV G tA z E p l e (rmC 4 0 0) s m args below meth c LAY D D' 4 0 [(0, .ref (z + 43)), (1, .int x1), (2, .int x2), (3, .int x3)] [] := by
  obtain ⟨hx, hb, -, hown, hts, -⟩ := id O
  unfold f_X3_makeLonger at h
  intro H locs ls hH hl
  refine lv_aload_n hx hb dX3_makeLonger_0 rfl (lv_at hl 0 rfl) ?_
  refine h_getr O hH ly_43 rfl fl_X3_40 dX3_makeLonger_1 ?_
  refine lv_aload_n hx hb dX3_makeLonger_4 rfl (lv_at hl 0 rfl) ?_
  refine h_getr O hH ly_43 rfl fl_X3_11 dX3_makeLonger_5 ?_
  refine lv_iload_n hx hb dX3_makeLonger_8 rfl (lv_at hl 1 rfl) ?_
  obtain ⟨g1, h⟩ := gd_some h
  refine h_aald O hH ly_44 rfl g1 (ar_44_r g1) dX3_makeLonger_9 ?_
  obtain ⟨D2, hc3, h⟩ := bV_some h
  refine h_callVv (As := [.ref (z + (ar_44 (Int32.toNatClampNeg x1)))]) (rest := []) O hH (c_X10_copy ic_64 (ar_44_c g1) hc3) ml_X3_101 ly_64 rfl rfl hl.1 rfl ⟨Nat.le_of_ble_eq_true rfl, Nat.le_of_ble_eq_true rfl⟩ (Nat.le_of_ble_eq_true rfl) dX3_makeLonger_10 (fun H locs hH => ?_)
  refine lv_aload_n hx hb dX3_makeLonger_13 rfl (lv_at hl 0 rfl) ?_
  refine h_getr O hH ly_43 rfl fl_X3_40 dX3_makeLonger_14 ?_
  refine lv_iload_n hx hb dX3_makeLonger_17 rfl (lv_at hl 2 rfl) ?_
  refine lv_iload_n hx hb dX3_makeLonger_18 rfl (lv_at hl 3 rfl) ?_
  obtain ⟨D4, hc5, h⟩ := bV_some h
  refine h_callVv (As := [.int x2, .int x3]) (rest := []) O hH (c_X10_add ic_64 hc5) ml_X3_104 ly_64 rfl rfl hl.1 rfl ⟨Nat.le_of_ble_eq_true rfl, Nat.le_of_ble_eq_true rfl⟩ (Nat.le_of_ble_eq_true rfl) dX3_makeLonger_19 (fun H locs hH => ?_)
  obtain rfl := ret_v h
  exact h_vret O hr hlk hH dX3_makeLonger_22
set_option maxHeartbeats 4000000 in
theorem c_X3_makeLonger {l : Launch} {G : va_G} {tA : Nat → ClassId} {z : Nat} {E : Ex} {x1 : Int32} {x2 : Int32} {x3 : Int32} {D D' : Dm} (h : f_X3_makeLonger x1 x2 x3 D = some D') : CtV l yX3_makeLonger cX3_makeLonger 4 G tA z E 4 0 0 [.ref (z + 43), .int x1, .int x2, .int x3] LAY D LAY D' :=
  ct_BV (by decide +kernel) (Nat.le_of_ble_eq_true rfl) (fun _ _ _ _ _ _ _ _ O hr hlk => w_X3_makeLonger O hr hlk _ _ _ _ h)
set_option maxHeartbeats 4000000 in
theorem w_X3_lookAtLonger {G : va_G} {tA : Nat → ClassId} {z : Nat} {E : Ex} {p : Program} {l : Launch} {e : Env} {s : State} {m : MethodId} {args : Array Value} {below : List Frame} {meth : Method} {c : Code} {D' : Dm} (O : Ok G tA z E cX3_lookAtLonger RX3 4 p s m args c) (hr : meth.sig.returnType = none) (hlk : meth.locks = false) (x1 : Int32) (x2 : Int32) (x3 : Int32) (D : Dm) (h : f_X3_lookAtLonger x1 x2 x3 D = some D') : BV G tA z E p l e (rmC 5 0 0) s m args below meth c LAY D D' 4 0 [(0, .ref (z + 43)), (1, .int x1), (2, .int x2), (3, .int x3)] [] := by
  obtain ⟨hx, hb, -, hown, hts, -⟩ := id O
  unfold f_X3_lookAtLonger at h
  intro H locs ls hH hl
  refine lv_aload_n hx hb dX3_lookAtLonger_0 rfl (lv_at hl 0 rfl) ?_
  refine lv_iload_n hx hb dX3_lookAtLonger_1 rfl (lv_at hl 1 rfl) ?_
  refine lv_iload_n hx hb dX3_lookAtLonger_2 rfl (lv_at hl 2 rfl) ?_
  refine lv_iload_n hx hb dX3_lookAtLonger_3 rfl (lv_at hl 3 rfl) ?_
  obtain ⟨D1, hc2, h⟩ := bV_some h
  refine h_callVv (As := [.int x1, .int x2, .int x3]) (rest := []) O hH (c_X3_makeLonger hc2) ml_X3_108 ly_43 rfl rfl hl.1 rfl ⟨Nat.le_of_ble_eq_true rfl, Nat.le_of_ble_eq_true rfl⟩ (Nat.le_of_ble_eq_true rfl) dX3_lookAtLonger_4 (fun H locs hH => ?_)
  refine lv_aload_n hx hb dX3_lookAtLonger_7 rfl (lv_at hl 0 rfl) ?_
  refine h_getr O hH ly_43 rfl fl_X3_24 dX3_lookAtLonger_8 ?_
  refine lv_aload_n hx hb dX3_lookAtLonger_11 rfl (lv_at hl 0 rfl) ?_
  refine h_getr O hH ly_43 rfl fl_X3_69 dX3_lookAtLonger_12 ?_
  refine lv_aload_n hx hb dX3_lookAtLonger_15 rfl (lv_at hl 0 rfl) ?_
  refine h_getr O hH ly_43 rfl fl_X3_40 dX3_lookAtLonger_16 ?_
  obtain ⟨D3, hc4, h⟩ := bV_some h
  refine h_callVv (As := [.ref (z + 76), .ref (z + 64)]) (rest := []) O hH (c_X6_look ic_46 ic_64 hc4) ml_X3_93 ly_46 rfl rfl hl.1 rfl ⟨Nat.le_of_ble_eq_true rfl, Nat.le_of_ble_eq_true rfl⟩ (Nat.le_of_ble_eq_true rfl) dX3_lookAtLonger_19 (fun H locs hH => ?_)
  obtain rfl := ret_v h
  exact h_vret O hr hlk hH dX3_lookAtLonger_22
set_option maxHeartbeats 4000000 in
theorem c_X3_lookAtLonger {l : Launch} {G : va_G} {tA : Nat → ClassId} {z : Nat} {E : Ex} {x1 : Int32} {x2 : Int32} {x3 : Int32} {D D' : Dm} (h : f_X3_lookAtLonger x1 x2 x3 D = some D') : CtV l yX3_lookAtLonger cX3_lookAtLonger 4 G tA z E 5 0 0 [.ref (z + 43), .int x1, .int x2, .int x3] LAY D LAY D' :=
  ct_BV (by decide +kernel) (Nat.le_of_ble_eq_true rfl) (fun _ _ _ _ _ _ _ _ O hr hlk => w_X3_lookAtLonger O hr hlk _ _ _ _ h)
set_option maxHeartbeats 4000000 in
theorem w_X3_firstAlike_2_b {G : va_G} {tA : Nat → ClassId} {z : Nat} {E : Ex} {p : Program} {l : Launch} {e : Env} {s : State} {m : MethodId} {args : Array Value} {below : List Frame} {meth : Method} {c : Code} {r : Int32} {D' : Dm} (O : Ok G tA z E cX3_firstAlike RX3 2 p s m args c) (hr : meth.sig.returnType = some .int) (hlk : meth.locks = false) {k2 : Int32 → Dm → Option (Int32 × Dm)} (hk2 : ∀ (x1 : Int32) (D : Dm), k2 x1 D = some (r, D') → BI G tA z E p l e (rmC 2 0 0) s m args below meth c LAY D r D' 2 2 [(0, .ref (z + 43)), (1, .int x1)] []) (x1 : Int32) (D : Dm) (h : f_X3_firstAlike_2_b k2 x1 D = some (r, D')) : BI G tA z E p l e (rmC 2 0 0) s m args below meth c LAY D r D' 2 2 [(0, .ref (z + 43)), (1, .int x1)] [] := by
  obtain ⟨hx, hb, -, hown, hts, -⟩ := id O
  unfold f_X3_firstAlike_2_b at h
  intro H locs ls hH hl
  refine lv_iload_n hx hb dX3_firstAlike_2 rfl (lv_at hl 1 rfl) ?_
  refine lv_aload_n hx hb dX3_firstAlike_3 rfl (lv_at hl 0 rfl) ?_
  refine h_geti O hH ly_43 rfl fl_X3_76 dX3_firstAlike_4 ?_
  refine lv_icmp_ge (tgt := 35) hx hb dX3_firstAlike_7 (by decide) (fun c1 => ?_) (fun c1 => ?_)
  · have h := it_pos h c1
    refine lv_iconst (v := (-1)) hx hb dX3_firstAlike_35 (by decide) ?_
    obtain ⟨rfl, rfl⟩ := ret_i h
    exact h_iret O hr hlk hH dX3_firstAlike_36
  · have h := it_neg h c1
    refine lv_aload_n hx hb dX3_firstAlike_10 rfl (lv_at hl 0 rfl) ?_
    refine h_getr O hH ly_43 rfl fl_X3_24 dX3_firstAlike_11 ?_
    refine lv_aload_n hx hb dX3_firstAlike_14 rfl (lv_at hl 0 rfl) ?_
    refine h_getr O hH ly_43 rfl fl_X3_19 dX3_firstAlike_15 ?_
    refine lv_iload_n hx hb dX3_firstAlike_18 rfl (lv_at hl 1 rfl) ?_
    obtain ⟨g2, h⟩ := gd_some h
    refine h_aald O hH ly_45 rfl g2 (ar_45_r g2) dX3_firstAlike_19 ?_
    obtain ⟨y5, D3, hc4, h⟩ := bI_some h
    refine h_callVi (As := [.ref (z + (ar_45 (Int32.toNatClampNeg x1)))]) (rest := []) O hH (c_X6_wayTo ic_46 (ar_45_c g2) hc4) ml_X3_112 ly_46 rfl rfl hl.1 rfl ⟨Nat.le_of_ble_eq_true rfl, Nat.le_of_ble_eq_true rfl⟩ (Nat.le_of_ble_eq_true rfl) dX3_firstAlike_20 (fun H locs hH => ?_)
    refine lv_iconst (v := (-1)) hx hb dX3_firstAlike_23 (by decide) ?_
    refine lv_icmp_eq (tgt := 29) hx hb dX3_firstAlike_24 (by decide) (fun c6 => ?_) (fun c6 => ?_)
    · have h := it_pos h c6
      obtain ⟨y7, e8, h⟩ := lt_some h
      refine lv_iinc (v := y7) (lv' := [(1, .int y7), (0, .ref (z + 43))]) hx hb dX3_firstAlike_29 hl (k := 1) rfl (by rw [e8]; rfl) (by decide) rfl (fun ls hl => ?_)
      refine lv_goto (tgt := 2) hx hb dX3_firstAlike_32 (by decide) ?_
      exact hk2 _ _ h _ _ _ hH (lv_sub hl [1, 0] rfl)
    · have h := it_neg h c6
      refine lv_iload_n hx hb dX3_firstAlike_27 rfl (lv_at hl 1 rfl) ?_
      obtain ⟨rfl, rfl⟩ := ret_i h
      exact h_iret O hr hlk hH dX3_firstAlike_28
set_option maxHeartbeats 4000000 in
theorem w_X3_firstAlike_2 {G : va_G} {tA : Nat → ClassId} {z : Nat} {E : Ex} {p : Program} {l : Launch} {e : Env} {s : State} {m : MethodId} {args : Array Value} {below : List Frame} {meth : Method} {c : Code} {r : Int32} {D' : Dm} (O : Ok G tA z E cX3_firstAlike RX3 2 p s m args c) (hr : meth.sig.returnType = some .int) (hlk : meth.locks = false) : ∀ (n : Nat) (x1 : Int32) (D : Dm) (h : f_X3_firstAlike_2 n x1 D = some (r, D')), BI G tA z E p l e (rmC 2 0 0) s m args below meth c LAY D r D' 2 2 [(0, .ref (z + 43)), (1, .int x1)] [] := by
  intro n
  induction n with
  | zero => intro x1 D h; exact no_some h
  | succ n ih => intro x1 D h; exact w_X3_firstAlike_2_b O hr hlk (fun x1 D h => ih x1 D h) x1 D h
set_option maxHeartbeats 4000000 in
theorem w_X3_firstAlike {G : va_G} {tA : Nat → ClassId} {z : Nat} {E : Ex} {p : Program} {l : Launch} {e : Env} {s : State} {m : MethodId} {args : Array Value} {below : List Frame} {meth : Method} {c : Code} {r : Int32} {D' : Dm} (O : Ok G tA z E cX3_firstAlike RX3 2 p s m args c) (hr : meth.sig.returnType = some .int) (hlk : meth.locks = false)  (D : Dm) (h : f_X3_firstAlike  D = some (r, D')) : BI G tA z E p l e (rmC 2 0 0) s m args below meth c LAY D r D' 2 0 [(0, .ref (z + 43))] [] := by
  obtain ⟨hx, hb, -, hown, hts, -⟩ := id O
  unfold f_X3_firstAlike at h
  intro H locs ls hH hl
  refine lv_iconst (v := 0) hx hb dX3_firstAlike_0 (by decide) ?_
  refine lv_istore_n (lv' := [(1, .int 0), (0, .ref (z + 43))]) hx hb dX3_firstAlike_1 rfl hl (by decide) rfl (fun ls hl => ?_)
  exact w_X3_firstAlike_2 O hr hlk FU _ _ h _ _ _ hH (lv_sub hl [1, 0] rfl)
set_option maxHeartbeats 4000000 in
theorem c_X3_firstAlike {l : Launch} {G : va_G} {tA : Nat → ClassId} {z : Nat} {E : Ex}  {D D' : Dm} {r : Int32} (h : f_X3_firstAlike  D = some (r, D')) : CtI l yX3_firstAlike cX3_firstAlike 2 (some .int) G tA z E 2 0 0 [.ref (z + 43)] LAY D r LAY D' :=
  ct_BI (by decide +kernel) (Nat.le_of_ble_eq_true rfl) (fun _ _ _ _ _ _ _ _ O hr hlk => w_X3_firstAlike O hr hlk  _ h)
set_option maxHeartbeats 4000000 in
theorem w_X3_mostKept_4_b {G : va_G} {tA : Nat → ClassId} {z : Nat} {E : Ex} {p : Program} {l : Launch} {e : Env} {s : State} {m : MethodId} {args : Array Value} {below : List Frame} {meth : Method} {c : Code} {r : Int32} {D' : Dm} (O : Ok G tA z E cX3_mostKept RX3 3 p s m args c) (hr : meth.sig.returnType = some .int) (hlk : meth.locks = false) {k4 : Int32 → Int32 → Dm → Option (Int32 × Dm)} (hk4 : ∀ (x1 : Int32) (x2 : Int32) (D : Dm), k4 x1 x2 D = some (r, D') → BI G tA z E p l e (rmC 1 0 0) s m args below meth c LAY D r D' 3 4 [(0, .ref (z + 43)), (1, .int x1), (2, .int x2)] []) (x1 : Int32) (x2 : Int32) (D : Dm) (h : f_X3_mostKept_4_b k4 x1 x2 D = some (r, D')) : BI G tA z E p l e (rmC 1 0 0) s m args below meth c LAY D r D' 3 4 [(0, .ref (z + 43)), (1, .int x1), (2, .int x2)] [] := by
  obtain ⟨hx, hb, -, hown, hts, -⟩ := id O
  unfold f_X3_mostKept_4_b at h
  intro H locs ls hH hl
  refine lv_iload_n hx hb dX3_mostKept_4 rfl (lv_at hl 2 rfl) ?_
  refine lv_aload_n hx hb dX3_mostKept_5 rfl (lv_at hl 0 rfl) ?_
  refine h_geti O hH ly_43 rfl fl_X3_76 dX3_mostKept_6 ?_
  refine lv_icmp_ge (tgt := 32) hx hb dX3_mostKept_9 (by decide) (fun c1 => ?_) (fun c1 => ?_)
  · have h := it_pos h c1
    refine lv_iload_n hx hb dX3_mostKept_32 rfl (lv_at hl 1 rfl) ?_
    obtain ⟨rfl, rfl⟩ := ret_i h
    exact h_iret O hr hlk hH dX3_mostKept_33
  · have h := it_neg h c1
    refine lv_iload_n hx hb dX3_mostKept_12 rfl (lv_at hl 1 rfl) ?_
    refine lv_aload_n hx hb dX3_mostKept_13 rfl (lv_at hl 0 rfl) ?_
    refine h_getr O hH ly_43 rfl fl_X3_19 dX3_mostKept_14 ?_
    refine lv_iload_n hx hb dX3_mostKept_17 rfl (lv_at hl 2 rfl) ?_
    obtain ⟨g2, h⟩ := gd_some h
    refine h_aald O hH ly_45 rfl g2 (ar_45_r g2) dX3_mostKept_18 ?_
    refine h_geti O hH (ar_45_c g2).1 rfl fl_X3_116 dX3_mostKept_19 ?_
    refine h_max O hl.1 ww_1021 (Nat.le_of_ble_eq_true rfl) (Nat.le_of_ble_eq_true rfl) dX3_mostKept_22 ?_
    refine lv_topi (fun y3 e4 => ?_)
    have h := lt_at e4 h
    refine lv_istore_n (lv' := [(1, .int y3), (0, .ref (z + 43)), (2, .int x2)]) hx hb dX3_mostKept_25 rfl hl (by decide) rfl (fun ls hl => ?_)
    obtain ⟨y5, e6, h⟩ := lt_some h
    refine lv_iinc (v := y5) (lv' := [(2, .int y5), (1, .int y3), (0, .ref (z + 43))]) hx hb dX3_mostKept_26 hl (k := 2) rfl (by rw [e6]; rfl) (by decide) rfl (fun ls hl => ?_)
    refine lv_goto (tgt := 4) hx hb dX3_mostKept_29 (by decide) ?_
    exact hk4 _ _ _ h _ _ _ hH (lv_sub hl [2, 1, 0] rfl)
set_option maxHeartbeats 4000000 in
theorem w_X3_mostKept_4 {G : va_G} {tA : Nat → ClassId} {z : Nat} {E : Ex} {p : Program} {l : Launch} {e : Env} {s : State} {m : MethodId} {args : Array Value} {below : List Frame} {meth : Method} {c : Code} {r : Int32} {D' : Dm} (O : Ok G tA z E cX3_mostKept RX3 3 p s m args c) (hr : meth.sig.returnType = some .int) (hlk : meth.locks = false) : ∀ (n : Nat) (x1 : Int32) (x2 : Int32) (D : Dm) (h : f_X3_mostKept_4 n x1 x2 D = some (r, D')), BI G tA z E p l e (rmC 1 0 0) s m args below meth c LAY D r D' 3 4 [(0, .ref (z + 43)), (1, .int x1), (2, .int x2)] [] := by
  intro n
  induction n with
  | zero => intro x1 x2 D h; exact no_some h
  | succ n ih => intro x1 x2 D h; exact w_X3_mostKept_4_b O hr hlk (fun x1 x2 D h => ih x1 x2 D h) x1 x2 D h
set_option maxHeartbeats 4000000 in
theorem w_X3_mostKept {G : va_G} {tA : Nat → ClassId} {z : Nat} {E : Ex} {p : Program} {l : Launch} {e : Env} {s : State} {m : MethodId} {args : Array Value} {below : List Frame} {meth : Method} {c : Code} {r : Int32} {D' : Dm} (O : Ok G tA z E cX3_mostKept RX3 3 p s m args c) (hr : meth.sig.returnType = some .int) (hlk : meth.locks = false)  (D : Dm) (h : f_X3_mostKept  D = some (r, D')) : BI G tA z E p l e (rmC 1 0 0) s m args below meth c LAY D r D' 3 0 [(0, .ref (z + 43))] [] := by
  obtain ⟨hx, hb, -, hown, hts, -⟩ := id O
  unfold f_X3_mostKept at h
  intro H locs ls hH hl
  refine lv_iconst (v := 0) hx hb dX3_mostKept_0 (by decide) ?_
  refine lv_istore_n (lv' := [(1, .int 0), (0, .ref (z + 43))]) hx hb dX3_mostKept_1 rfl hl (by decide) rfl (fun ls hl => ?_)
  refine lv_iconst (v := 0) hx hb dX3_mostKept_2 (by decide) ?_
  refine lv_istore_n (lv' := [(2, .int 0), (1, .int 0), (0, .ref (z + 43))]) hx hb dX3_mostKept_3 rfl hl (by decide) rfl (fun ls hl => ?_)
  exact w_X3_mostKept_4 O hr hlk FU _ _ _ h _ _ _ hH (lv_sub hl [2, 1, 0] rfl)
set_option maxHeartbeats 4000000 in
theorem c_X3_mostKept {l : Launch} {G : va_G} {tA : Nat → ClassId} {z : Nat} {E : Ex}  {D D' : Dm} {r : Int32} (h : f_X3_mostKept  D = some (r, D')) : CtI l yX3_mostKept cX3_mostKept 3 (some .int) G tA z E 1 0 0 [.ref (z + 43)] LAY D r LAY D' :=
  ct_BI (by decide +kernel) (Nat.le_of_ble_eq_true rfl) (fun _ _ _ _ _ _ _ _ O hr hlk => w_X3_mostKept O hr hlk  _ h)
set_option maxHeartbeats 4000000 in
theorem w_X3_countLongWords_8_b {G : va_G} {tA : Nat → ClassId} {z : Nat} {E : Ex} {p : Program} {l : Launch} {e : Env} {s : State} {m : MethodId} {args : Array Value} {below : List Frame} {meth : Method} {c : Code} {r : Int32} {D' : Dm} (O : Ok G tA z E cX3_countLongWords RX3 3 p s m args c) (hr : meth.sig.returnType = some .int) (hlk : meth.locks = false) {k8 : Int32 → Int32 → Dm → Option (Int32 × Dm)} (hk8 : ∀ (x1 : Int32) (x2 : Int32) (D : Dm), k8 x1 x2 D = some (r, D') → BI G tA z E p l e (rmC 6 0 0) s m args below meth c LAY D r D' 3 8 [(0, .ref (z + 43)), (1, .int x1), (2, .int x2)] []) (x1 : Int32) (x2 : Int32) (D : Dm) (h : f_X3_countLongWords_8_b k8 x1 x2 D = some (r, D')) : BI G tA z E p l e (rmC 6 0 0) s m args below meth c LAY D r D' 3 8 [(0, .ref (z + 43)), (1, .int x1), (2, .int x2)] [] := by
  obtain ⟨hx, hb, -, hown, hts, -⟩ := id O
  unfold f_X3_countLongWords_8_b at h
  intro H locs ls hH hl
  refine lv_iload_n hx hb dX3_countLongWords_8 rfl (lv_at hl 2 rfl) ?_
  refine lv_aload_n hx hb dX3_countLongWords_9 rfl (lv_at hl 0 rfl) ?_
  refine h_geti O hH ly_43 rfl fl_X3_76 dX3_countLongWords_10 ?_
  refine lv_icmp_ge (tgt := 44) hx hb dX3_countLongWords_13 (by decide) (fun c1 => ?_) (fun c1 => ?_)
  · have h := it_pos h c1
    refine lv_iload_n hx hb dX3_countLongWords_44 rfl (lv_at hl 1 rfl) ?_
    obtain ⟨rfl, rfl⟩ := ret_i h
    exact h_iret O hr hlk hH dX3_countLongWords_45
  · have h := it_neg h c1
    refine lv_iload_n hx hb dX3_countLongWords_16 rfl (lv_at hl 1 rfl) ?_
    refine lv_aload_n hx hb dX3_countLongWords_17 rfl (lv_at hl 0 rfl) ?_
    refine h_getr O hH ly_43 rfl fl_X3_56 dX3_countLongWords_18 ?_
    refine h_geti O hH ly_9 rfl fl_X3_128 dX3_countLongWords_21 ?_
    refine lv_aload_n hx hb dX3_countLongWords_24 rfl (lv_at hl 0 rfl) ?_
    refine h_getr O hH ly_43 rfl fl_X3_19 dX3_countLongWords_25 ?_
    refine lv_iload_n hx hb dX3_countLongWords_28 rfl (lv_at hl 2 rfl) ?_
    obtain ⟨g2, h⟩ := gd_some h
    refine h_aald O hH ly_45 rfl g2 (ar_45_r g2) dX3_countLongWords_29 ?_
    refine h_geti O hH (ar_45_c g2).1 rfl fl_X3_116 dX3_countLongWords_30 ?_
    refine lv_iconst (v := 1) hx hb dX3_countLongWords_33 (by decide) ?_
    refine lv_iadd hx hb dX3_countLongWords_34 ?_
    refine lv_imul hx hb dX3_countLongWords_35 ?_
    refine lv_iadd hx hb dX3_countLongWords_36 ?_
    refine lv_topi (fun y3 e4 => ?_)
    have h := lt_at e4 h
    refine lv_istore_n (lv' := [(1, .int y3), (0, .ref (z + 43)), (2, .int x2)]) hx hb dX3_countLongWords_37 rfl hl (by decide) rfl (fun ls hl => ?_)
    obtain ⟨y5, e6, h⟩ := lt_some h
    refine lv_iinc (v := y5) (lv' := [(2, .int y5), (1, .int y3), (0, .ref (z + 43))]) hx hb dX3_countLongWords_38 hl (k := 2) rfl (by rw [e6]; rfl) (by decide) rfl (fun ls hl => ?_)
    refine lv_goto (tgt := 8) hx hb dX3_countLongWords_41 (by decide) ?_
    exact hk8 _ _ _ h _ _ _ hH (lv_sub hl [2, 1, 0] rfl)
set_option maxHeartbeats 4000000 in
theorem w_X3_countLongWords_8 {G : va_G} {tA : Nat → ClassId} {z : Nat} {E : Ex} {p : Program} {l : Launch} {e : Env} {s : State} {m : MethodId} {args : Array Value} {below : List Frame} {meth : Method} {c : Code} {r : Int32} {D' : Dm} (O : Ok G tA z E cX3_countLongWords RX3 3 p s m args c) (hr : meth.sig.returnType = some .int) (hlk : meth.locks = false) : ∀ (n : Nat) (x1 : Int32) (x2 : Int32) (D : Dm) (h : f_X3_countLongWords_8 n x1 x2 D = some (r, D')), BI G tA z E p l e (rmC 6 0 0) s m args below meth c LAY D r D' 3 8 [(0, .ref (z + 43)), (1, .int x1), (2, .int x2)] [] := by
  intro n
  induction n with
  | zero => intro x1 x2 D h; exact no_some h
  | succ n ih => intro x1 x2 D h; exact w_X3_countLongWords_8_b O hr hlk (fun x1 x2 D h => ih x1 x2 D h) x1 x2 D h
set_option maxHeartbeats 4000000 in
theorem w_X3_countLongWords {G : va_G} {tA : Nat → ClassId} {z : Nat} {E : Ex} {p : Program} {l : Launch} {e : Env} {s : State} {m : MethodId} {args : Array Value} {below : List Frame} {meth : Method} {c : Code} {r : Int32} {D' : Dm} (O : Ok G tA z E cX3_countLongWords RX3 3 p s m args c) (hr : meth.sig.returnType = some .int) (hlk : meth.locks = false)  (D : Dm) (h : f_X3_countLongWords  D = some (r, D')) : BI G tA z E p l e (rmC 6 0 0) s m args below meth c LAY D r D' 3 0 [(0, .ref (z + 43))] [] := by
  obtain ⟨hx, hb, -, hown, hts, -⟩ := id O
  unfold f_X3_countLongWords at h
  intro H locs ls hH hl
  refine lv_aload_n hx hb dX3_countLongWords_0 rfl (lv_at hl 0 rfl) ?_
  obtain ⟨D1, hc2, h⟩ := bV_some h
  refine h_callVv (As := []) (rest := []) O hH (c_X3_lookAtShortWords hc2) ml_X3_125 ly_43 rfl rfl hl.1 rfl ⟨Nat.le_of_ble_eq_true rfl, Nat.le_of_ble_eq_true rfl⟩ (Nat.le_of_ble_eq_true rfl) dX3_countLongWords_1 (fun H locs hH => ?_)
  refine lv_iconst (v := 0) hx hb dX3_countLongWords_4 (by decide) ?_
  refine lv_istore_n (lv' := [(1, .int 0), (0, .ref (z + 43))]) hx hb dX3_countLongWords_5 rfl hl (by decide) rfl (fun ls hl => ?_)
  refine lv_iconst (v := 0) hx hb dX3_countLongWords_6 (by decide) ?_
  refine lv_istore_n (lv' := [(2, .int 0), (1, .int 0), (0, .ref (z + 43))]) hx hb dX3_countLongWords_7 rfl hl (by decide) rfl (fun ls hl => ?_)
  exact w_X3_countLongWords_8 O hr hlk FU _ _ _ h _ _ _ hH (lv_sub hl [2, 1, 0] rfl)
set_option maxHeartbeats 4000000 in
theorem c_X3_countLongWords {l : Launch} {G : va_G} {tA : Nat → ClassId} {z : Nat} {E : Ex}  {D D' : Dm} {r : Int32} (h : f_X3_countLongWords  D = some (r, D')) : CtI l yX3_countLongWords cX3_countLongWords 3 (some .int) G tA z E 6 0 0 [.ref (z + 43)] LAY D r LAY D' :=
  ct_BI (by decide +kernel) (Nat.le_of_ble_eq_true rfl) (fun _ _ _ _ _ _ _ _ O hr hlk => w_X3_countLongWords O hr hlk  _ h)
set_option maxHeartbeats 4000000 in
theorem w_X3_countTakenShorts_38 {G : va_G} {tA : Nat → ClassId} {z : Nat} {E : Ex} {p : Program} {l : Launch} {e : Env} {s : State} {m : MethodId} {args : Array Value} {below : List Frame} {meth : Method} {c : Code} {r : Int32} {D' : Dm} (O : Ok G tA z E cX3_countTakenShorts RX3 3 p s m args c) (hr : meth.sig.returnType = some .int) (hlk : meth.locks = false) {k8 : Int32 → Int32 → Dm → Option (Int32 × Dm)} (hk8 : ∀ (x1 : Int32) (x2 : Int32) (D : Dm), k8 x1 x2 D = some (r, D') → BI G tA z E p l e (rmC 6 0 0) s m args below meth c LAY D r D' 3 8 [(0, .ref (z + 43)), (1, .int x1), (2, .int x2)] []) (x1 : Int32) (x2 : Int32) (D : Dm) (h : f_X3_countTakenShorts_38 k8 x1 x2 D = some (r, D')) : BI G tA z E p l e (rmC 6 0 0) s m args below meth c LAY D r D' 3 38 [(0, .ref (z + 43)), (1, .int x1), (2, .int x2)] [] := by
  obtain ⟨hx, hb, -, hown, hts, -⟩ := id O
  unfold f_X3_countTakenShorts_38 at h
  intro H locs ls hH hl
  obtain ⟨y1, e2, h⟩ := lt_some h
  refine lv_iinc (v := y1) (lv' := [(2, .int y1), (0, .ref (z + 43)), (1, .int x1)]) hx hb dX3_countTakenShorts_38 hl (k := 2) rfl (by rw [e2]; rfl) (by decide) rfl (fun ls hl => ?_)
  refine lv_goto (tgt := 8) hx hb dX3_countTakenShorts_41 (by decide) ?_
  exact hk8 _ _ _ h _ _ _ hH (lv_sub hl [1, 2, 0] rfl)
set_option maxHeartbeats 4000000 in
theorem w_X3_countTakenShorts_8_b {G : va_G} {tA : Nat → ClassId} {z : Nat} {E : Ex} {p : Program} {l : Launch} {e : Env} {s : State} {m : MethodId} {args : Array Value} {below : List Frame} {meth : Method} {c : Code} {r : Int32} {D' : Dm} (O : Ok G tA z E cX3_countTakenShorts RX3 3 p s m args c) (hr : meth.sig.returnType = some .int) (hlk : meth.locks = false) {k8 : Int32 → Int32 → Dm → Option (Int32 × Dm)} (hk8 : ∀ (x1 : Int32) (x2 : Int32) (D : Dm), k8 x1 x2 D = some (r, D') → BI G tA z E p l e (rmC 6 0 0) s m args below meth c LAY D r D' 3 8 [(0, .ref (z + 43)), (1, .int x1), (2, .int x2)] []) (x1 : Int32) (x2 : Int32) (D : Dm) (h : f_X3_countTakenShorts_8_b k8 x1 x2 D = some (r, D')) : BI G tA z E p l e (rmC 6 0 0) s m args below meth c LAY D r D' 3 8 [(0, .ref (z + 43)), (1, .int x1), (2, .int x2)] [] := by
  obtain ⟨hx, hb, -, hown, hts, -⟩ := id O
  unfold f_X3_countTakenShorts_8_b at h
  intro H locs ls hH hl
  refine lv_iload_n hx hb dX3_countTakenShorts_8 rfl (lv_at hl 2 rfl) ?_
  refine lv_aload_n hx hb dX3_countTakenShorts_9 rfl (lv_at hl 0 rfl) ?_
  refine h_geti O hH ly_43 rfl fl_X3_76 dX3_countTakenShorts_10 ?_
  refine lv_icmp_ge (tgt := 44) hx hb dX3_countTakenShorts_13 (by decide) (fun c1 => ?_) (fun c1 => ?_)
  · have h := it_pos h c1
    refine lv_iload_n hx hb dX3_countTakenShorts_44 rfl (lv_at hl 1 rfl) ?_
    obtain ⟨rfl, rfl⟩ := ret_i h
    exact h_iret O hr hlk hH dX3_countTakenShorts_45
  · have h := it_neg h c1
    refine lv_aload_n hx hb dX3_countTakenShorts_16 rfl (lv_at hl 0 rfl) ?_
    refine h_getr O hH ly_43 rfl fl_X3_56 dX3_countTakenShorts_17 ?_
    refine lv_aload_n hx hb dX3_countTakenShorts_20 rfl (lv_at hl 0 rfl) ?_
    refine h_getr O hH ly_43 rfl fl_X3_19 dX3_countTakenShorts_21 ?_
    refine lv_iload_n hx hb dX3_countTakenShorts_24 rfl (lv_at hl 2 rfl) ?_
    obtain ⟨g2, h⟩ := gd_some h
    refine h_aald O hH ly_45 rfl g2 (ar_45_r g2) dX3_countTakenShorts_25 ?_
    refine h_getr O hH (ar_45_c g2).1 rfl fl_X3_133 dX3_countTakenShorts_26 ?_
    obtain ⟨y5, D3, hc4, h⟩ := bI_some h
    refine h_callVi (As := [.ref (z + ((ar_45 (Int32.toNatClampNeg x2)) + 1))]) (rest := []) O hH (c_X4_takes ic_9 ⟨(ar_45_c g2).2.1, (ar_45_c g2).2.2.1⟩ hc4) ml_X3_136 ly_9 rfl rfl hl.1 rfl ⟨Nat.le_of_ble_eq_true rfl, Nat.le_of_ble_eq_true rfl⟩ (Nat.le_of_ble_eq_true rfl) dX3_countTakenShorts_29 (fun H locs hH => ?_)
    refine lv_if_eq (tgt := 38) hx hb dX3_countTakenShorts_32 (by decide) (fun c6 => ?_) (fun c6 => ?_)
    · have h := it_pos h c6
      exact w_X3_countTakenShorts_38 O hr hlk hk8 _ _ _ h _ _ _ hH (lv_sub hl [0, 1, 2] rfl)
    · have h := it_neg h c6
      obtain ⟨y7, e8, h⟩ := lt_some h
      refine lv_iinc (v := y7) (lv' := [(1, .int y7), (0, .ref (z + 43)), (2, .int x2)]) hx hb dX3_countTakenShorts_35 hl (k := 1) rfl (by rw [e8]; rfl) (by decide) rfl (fun ls hl => ?_)
      exact w_X3_countTakenShorts_38 O hr hlk hk8 _ _ _ h _ _ _ hH (lv_sub hl [1, 0, 2] rfl)
set_option maxHeartbeats 4000000 in
theorem w_X3_countTakenShorts_8 {G : va_G} {tA : Nat → ClassId} {z : Nat} {E : Ex} {p : Program} {l : Launch} {e : Env} {s : State} {m : MethodId} {args : Array Value} {below : List Frame} {meth : Method} {c : Code} {r : Int32} {D' : Dm} (O : Ok G tA z E cX3_countTakenShorts RX3 3 p s m args c) (hr : meth.sig.returnType = some .int) (hlk : meth.locks = false) : ∀ (n : Nat) (x1 : Int32) (x2 : Int32) (D : Dm) (h : f_X3_countTakenShorts_8 n x1 x2 D = some (r, D')), BI G tA z E p l e (rmC 6 0 0) s m args below meth c LAY D r D' 3 8 [(0, .ref (z + 43)), (1, .int x1), (2, .int x2)] [] := by
  intro n
  induction n with
  | zero => intro x1 x2 D h; exact no_some h
  | succ n ih => intro x1 x2 D h; exact w_X3_countTakenShorts_8_b O hr hlk (fun x1 x2 D h => ih x1 x2 D h) x1 x2 D h
set_option maxHeartbeats 4000000 in
theorem w_X3_countTakenShorts {G : va_G} {tA : Nat → ClassId} {z : Nat} {E : Ex} {p : Program} {l : Launch} {e : Env} {s : State} {m : MethodId} {args : Array Value} {below : List Frame} {meth : Method} {c : Code} {r : Int32} {D' : Dm} (O : Ok G tA z E cX3_countTakenShorts RX3 3 p s m args c) (hr : meth.sig.returnType = some .int) (hlk : meth.locks = false)  (D : Dm) (h : f_X3_countTakenShorts  D = some (r, D')) : BI G tA z E p l e (rmC 6 0 0) s m args below meth c LAY D r D' 3 0 [(0, .ref (z + 43))] [] := by
  obtain ⟨hx, hb, -, hown, hts, -⟩ := id O
  unfold f_X3_countTakenShorts at h
  intro H locs ls hH hl
  refine lv_aload_n hx hb dX3_countTakenShorts_0 rfl (lv_at hl 0 rfl) ?_
  obtain ⟨D1, hc2, h⟩ := bV_some h
  refine h_callVv (As := []) (rest := []) O hH (c_X3_lookAtShortWords hc2) ml_X3_125 ly_43 rfl rfl hl.1 rfl ⟨Nat.le_of_ble_eq_true rfl, Nat.le_of_ble_eq_true rfl⟩ (Nat.le_of_ble_eq_true rfl) dX3_countTakenShorts_1 (fun H locs hH => ?_)
  refine lv_iconst (v := 0) hx hb dX3_countTakenShorts_4 (by decide) ?_
  refine lv_istore_n (lv' := [(1, .int 0), (0, .ref (z + 43))]) hx hb dX3_countTakenShorts_5 rfl hl (by decide) rfl (fun ls hl => ?_)
  refine lv_iconst (v := 0) hx hb dX3_countTakenShorts_6 (by decide) ?_
  refine lv_istore_n (lv' := [(2, .int 0), (1, .int 0), (0, .ref (z + 43))]) hx hb dX3_countTakenShorts_7 rfl hl (by decide) rfl (fun ls hl => ?_)
  exact w_X3_countTakenShorts_8 O hr hlk FU _ _ _ h _ _ _ hH (lv_sub hl [2, 1, 0] rfl)
set_option maxHeartbeats 4000000 in
theorem c_X3_countTakenShorts {l : Launch} {G : va_G} {tA : Nat → ClassId} {z : Nat} {E : Ex}  {D D' : Dm} {r : Int32} (h : f_X3_countTakenShorts  D = some (r, D')) : CtI l yX3_countTakenShorts cX3_countTakenShorts 3 (some .int) G tA z E 6 0 0 [.ref (z + 43)] LAY D r LAY D' :=
  ct_BI (by decide +kernel) (Nat.le_of_ble_eq_true rfl) (fun _ _ _ _ _ _ _ _ O hr hlk => w_X3_countTakenShorts O hr hlk  _ h)
set_option maxHeartbeats 4000000 in
theorem w_X3_makeStep_91 {G : va_G} {tA : Nat → ClassId} {z : Nat} {E : Ex} {p : Program} {l : Launch} {e : Env} {s : State} {m : MethodId} {args : Array Value} {below : List Frame} {meth : Method} {c : Code} {r : Int32} {D' : Dm} (O : Ok G tA z E cX3_makeStep RX3 1 p s m args c) (hr : meth.sig.returnType = some .int) (hlk : meth.locks = false)  (D : Dm) (h : f_X3_makeStep_91  D = some (r, D')) : BI G tA z E p l e (rmC 4 0 0) s m args below meth c LAY D r D' 1 91 [(0, .ref (z + 43))] [] := by
  obtain ⟨hx, hb, -, hown, hts, -⟩ := id O
  unfold f_X3_makeStep_91 at h
  intro H locs ls hH hl
  refine lv_aload_n hx hb dX3_makeStep_91 rfl (lv_at hl 0 rfl) ?_
  refine lv_iconst (v := 0) hx hb dX3_makeStep_92 (by decide) ?_
  obtain ⟨D1, e2, h⟩ := lt_some h
  refine h_putz O hH ly_43 rfl fl_X3_83 zb_0 e2 dX3_makeStep_93 (fun H locs hH => ?_)
  refine lv_aload_n hx hb dX3_makeStep_96 rfl (lv_at hl 0 rfl) ?_
  refine lv_iconst (v := 0) hx hb dX3_makeStep_97 (by decide) ?_
  obtain ⟨D3, e4, h⟩ := lt_some h
  refine h_putz O hH ly_43 rfl fl_X3_87 zb_0 e4 dX3_makeStep_98 (fun H locs hH => ?_)
  refine lv_aload_n hx hb dX3_makeStep_101 rfl (lv_at hl 0 rfl) ?_
  refine h_geti O hH ly_43 rfl fl_X3_90 dX3_makeStep_102 ?_
  obtain ⟨rfl, rfl⟩ := ret_i h
  exact h_iret O hr hlk hH dX3_makeStep_105
set_option maxHeartbeats 4000000 in
theorem w_X3_makeStep {G : va_G} {tA : Nat → ClassId} {z : Nat} {E : Ex} {p : Program} {l : Launch} {e : Env} {s : State} {m : MethodId} {args : Array Value} {below : List Frame} {meth : Method} {c : Code} {r : Int32} {D' : Dm} (O : Ok G tA z E cX3_makeStep RX3 1 p s m args c) (hr : meth.sig.returnType = some .int) (hlk : meth.locks = false)  (D : Dm) (h : f_X3_makeStep  D = some (r, D')) : BI G tA z E p l e (rmC 4 0 0) s m args below meth c LAY D r D' 1 0 [(0, .ref (z + 43))] [] := by
  obtain ⟨hx, hb, -, hown, hts, -⟩ := id O
  unfold f_X3_makeStep at h
  intro H locs ls hH hl
  refine lv_aload_n hx hb dX3_makeStep_0 rfl (lv_at hl 0 rfl) ?_
  refine h_geti O hH ly_43 rfl fl_X3_90 dX3_makeStep_1 ?_
  refine lv_if_ne (tgt := 9) hx hb dX3_makeStep_4 (by decide) (fun c1 => ?_) (fun c1 => ?_)
  · have h := it_neg h c1
    refine lv_aload_n hx hb dX3_makeStep_9 rfl (lv_at hl 0 rfl) ?_
    refine h_geti O hH ly_43 rfl fl_X3_140 dX3_makeStep_10 ?_
    refine lv_if_eq (tgt := 19) hx hb dX3_makeStep_13 (by decide) (fun c2 => ?_) (fun c2 => ?_)
    · have h := it_pos h c2
      refine lv_aload_n hx hb dX3_makeStep_19 rfl (lv_at hl 0 rfl) ?_
      refine h_geti O hH ly_43 rfl fl_X3_90 dX3_makeStep_20 ?_
      refine lv_iconst (v := 2) hx hb dX3_makeStep_23 (by decide) ?_
      refine lv_icmp_ne (tgt := 56) hx hb dX3_makeStep_24 (by decide) (fun c3 => ?_) (fun c3 => ?_)
      · have h := it_neg h c3
        refine lv_aload_n hx hb dX3_makeStep_56 rfl (lv_at hl 0 rfl) ?_
        refine h_getr O hH ly_43 rfl fl_X3_69 dX3_makeStep_57 ?_
        refine h_getr O hH ly_76 rfl fl_X3_143 dX3_makeStep_60 ?_
        refine lv_aload_n hx hb dX3_makeStep_63 rfl (lv_at hl 0 rfl) ?_
        refine h_getr O hH ly_43 rfl fl_X3_69 dX3_makeStep_64 ?_
        refine h_geti O hH ly_76 rfl fl_X3_80 dX3_makeStep_67 ?_
        obtain ⟨g4, h⟩ := gd_some h
        refine h_aald O hH ly_77 rfl g4 (ar_77_r g4) dX3_makeStep_70 ?_
        refine lv_aload_n hx hb dX3_makeStep_71 rfl (lv_at hl 0 rfl) ?_
        refine h_getr O hH ly_43 rfl fl_X3_43 dX3_makeStep_72 ?_
        obtain ⟨D5, hc6, h⟩ := bV_some h
        refine h_callVv (As := [.ref (z + 68)]) (rest := []) O hH (c_X10_copyLeast (ar_77_c g4) ic_68 hc6) ml_X3_97 (ar_77_c g4).1 rfl rfl hl.1 rfl ⟨Nat.le_of_ble_eq_true rfl, Nat.le_of_ble_eq_true rfl⟩ (Nat.le_of_ble_eq_true rfl) dX3_makeStep_75 (fun H locs hH => ?_)
        refine lv_aload_n hx hb dX3_makeStep_78 rfl (lv_at hl 0 rfl) ?_
        refine h_getr O hH ly_43 rfl fl_X3_69 dX3_makeStep_79 ?_
        refine lv_dup hx hb dX3_makeStep_82 rfl ?_
        refine h_geti O hH ly_76 rfl fl_X3_80 dX3_makeStep_83 ?_
        refine lv_iconst (v := 1) hx hb dX3_makeStep_86 (by decide) ?_
        refine lv_iadd hx hb dX3_makeStep_87 ?_
        obtain ⟨D7, e8, h⟩ := lt_some h
        refine h_puti O hH ly_76 rfl fl_X3_80 e8 dX3_makeStep_88 (fun H locs hH => ?_)
        exact w_X3_makeStep_91 O hr hlk _ h _ _ _ hH (lv_sub hl [0] rfl)
      · have h := it_pos h c3
        refine lv_aload_n hx hb dX3_makeStep_27 rfl (lv_at hl 0 rfl) ?_
        refine h_getr O hH ly_43 rfl fl_X3_11 dX3_makeStep_28 ?_
        refine lv_aload_n hx hb dX3_makeStep_31 rfl (lv_at hl 0 rfl) ?_
        refine h_geti O hH ly_43 rfl fl_X3_76 dX3_makeStep_32 ?_
        obtain ⟨g9, h⟩ := gd_some h
        refine h_aald O hH ly_44 rfl g9 (ar_44_r g9) dX3_makeStep_35 ?_
        refine lv_aload_n hx hb dX3_makeStep_36 rfl (lv_at hl 0 rfl) ?_
        refine h_getr O hH ly_43 rfl fl_X3_43 dX3_makeStep_37 ?_
        obtain ⟨D10, hc11, h⟩ := bV_some h
        refine h_callVv (As := [.ref (z + 68)]) (rest := []) O hH (c_X10_copyLeast (ar_44_c g9) ic_68 hc11) ml_X3_97 (ar_44_c g9).1 rfl rfl hl.1 rfl ⟨Nat.le_of_ble_eq_true rfl, Nat.le_of_ble_eq_true rfl⟩ (Nat.le_of_ble_eq_true rfl) dX3_makeStep_40 (fun H locs hH => ?_)
        refine lv_aload_n hx hb dX3_makeStep_43 rfl (lv_at hl 0 rfl) ?_
        refine lv_dup hx hb dX3_makeStep_44 rfl ?_
        refine h_geti O hH ly_43 rfl fl_X3_76 dX3_makeStep_45 ?_
        refine lv_iconst (v := 1) hx hb dX3_makeStep_48 (by decide) ?_
        refine lv_iadd hx hb dX3_makeStep_49 ?_
        obtain ⟨D12, e13, h⟩ := lt_some h
        refine h_puti O hH ly_43 rfl fl_X3_76 e13 dX3_makeStep_50 (fun H locs hH => ?_)
        refine lv_goto (tgt := 91) hx hb dX3_makeStep_53 (by decide) ?_
        exact w_X3_makeStep_91 O hr hlk _ h _ _ _ hH (lv_sub hl [0] rfl)
    · have h := it_neg h c2
      refine lv_bipush (v := (-4)) hx hb dX3_makeStep_16 (by decide) ?_
      obtain ⟨rfl, rfl⟩ := ret_i h
      exact h_iret O hr hlk hH dX3_makeStep_18
  · have h := it_pos h c1
    refine lv_iconst (v := 0) hx hb dX3_makeStep_7 (by decide) ?_
    obtain ⟨rfl, rfl⟩ := ret_i h
    exact h_iret O hr hlk hH dX3_makeStep_8
set_option maxHeartbeats 4000000 in
theorem c_X3_makeStep {l : Launch} {G : va_G} {tA : Nat → ClassId} {z : Nat} {E : Ex}  {D D' : Dm} {r : Int32} (h : f_X3_makeStep  D = some (r, D')) : CtI l yX3_makeStep cX3_makeStep 1 (some .int) G tA z E 4 0 0 [.ref (z + 43)] LAY D r LAY D' :=
  ct_BI (by decide +kernel) (Nat.le_of_ble_eq_true rfl) (fun _ _ _ _ _ _ _ _ O hr hlk => w_X3_makeStep O hr hlk  _ h)
set_option maxHeartbeats 4000000 in
theorem w_X3_findMissed_65 {G : va_G} {tA : Nat → ClassId} {z : Nat} {E : Ex} {p : Program} {l : Launch} {e : Env} {s : State} {m : MethodId} {args : Array Value} {below : List Frame} {meth : Method} {c : Code} {r : Int32} {D' : Dm} (O : Ok G tA z E cX3_findMissed RX3 4 p s m args c) (hr : meth.sig.returnType = some .int) (hlk : meth.locks = false) {k2 : Int32 → Int32 → Dm → Option (Int32 × Dm)} (hk2 : ∀ (x1 : Int32) (x2 : Int32) (D : Dm), k2 x1 x2 D = some (r, D') → BI G tA z E p l e (rmC 2 0 0) s m args below meth c LAY D r D' 4 2 [(0, .ref (z + 43)), (1, .int x1), (2, .int x2)] []) (x1 : Int32) (x2 : Int32) (D : Dm) (h : f_X3_findMissed_65 k2 x1 x2 D = some (r, D')) : BI G tA z E p l e (rmC 2 0 0) s m args below meth c LAY D r D' 4 65 [(0, .ref (z + 43)), (1, .int x1), (2, .int x2)] [] := by
  obtain ⟨hx, hb, -, hown, hts, -⟩ := id O
  unfold f_X3_findMissed_65 at h
  intro H locs ls hH hl
  obtain ⟨y1, e2, h⟩ := lt_some h
  refine lv_iinc (v := y1) (lv' := [(2, .int y1), (0, .ref (z + 43)), (1, .int x1)]) hx hb dX3_findMissed_65 hl (k := 2) rfl (by rw [e2]; rfl) (by decide) rfl (fun ls hl => ?_)
  refine lv_goto (tgt := 2) hx hb dX3_findMissed_68 (by decide) ?_
  exact hk2 _ _ _ h _ _ _ hH (lv_sub hl [1, 2, 0] rfl)
set_option maxHeartbeats 4000000 in
theorem w_X3_findMissed_2_b {G : va_G} {tA : Nat → ClassId} {z : Nat} {E : Ex} {p : Program} {l : Launch} {e : Env} {s : State} {m : MethodId} {args : Array Value} {below : List Frame} {meth : Method} {c : Code} {r : Int32} {D' : Dm} (O : Ok G tA z E cX3_findMissed RX3 4 p s m args c) (hr : meth.sig.returnType = some .int) (hlk : meth.locks = false) {k2 : Int32 → Int32 → Dm → Option (Int32 × Dm)} (hk2 : ∀ (x1 : Int32) (x2 : Int32) (D : Dm), k2 x1 x2 D = some (r, D') → BI G tA z E p l e (rmC 2 0 0) s m args below meth c LAY D r D' 4 2 [(0, .ref (z + 43)), (1, .int x1), (2, .int x2)] []) (x1 : Int32) (x2 : Int32) (D : Dm) (h : f_X3_findMissed_2_b k2 x1 x2 D = some (r, D')) : BI G tA z E p l e (rmC 2 0 0) s m args below meth c LAY D r D' 4 2 [(0, .ref (z + 43)), (1, .int x1), (2, .int x2)] [] := by
  obtain ⟨hx, hb, -, hown, hts, -⟩ := id O
  unfold f_X3_findMissed_2_b at h
  intro H locs ls hH hl
  refine lv_iload_n hx hb dX3_findMissed_2 rfl (lv_at hl 2 rfl) ?_
  refine lv_aload_n hx hb dX3_findMissed_3 rfl (lv_at hl 0 rfl) ?_
  refine h_getr O hH ly_43 rfl fl_X3_24 dX3_findMissed_4 ?_
  refine h_geti O hH ly_46 rfl fl_X3_194 dX3_findMissed_7 ?_
  refine lv_icmp_ge (tgt := 71) hx hb dX3_findMissed_10 (by decide) (fun c1 => ?_) (fun c1 => ?_)
  · have h := it_pos h c1
    refine lv_iconst (v := (-1)) hx hb dX3_findMissed_71 (by decide) ?_
    obtain ⟨rfl, rfl⟩ := ret_i h
    exact h_iret O hr hlk hH dX3_findMissed_72
  · have h := it_neg h c1
    refine lv_aload_n hx hb dX3_findMissed_13 rfl (lv_at hl 0 rfl) ?_
    refine h_getr O hH ly_43 rfl fl_X3_24 dX3_findMissed_14 ?_
    refine h_getr O hH ly_46 rfl fl_X3_197 dX3_findMissed_17 ?_
    refine lv_iload_n hx hb dX3_findMissed_20 rfl (lv_at hl 2 rfl) ?_
    obtain ⟨g2, h⟩ := gd_some h
    refine h_iald O hH ly_49 g2 dX3_findMissed_21 ?_
    refine lv_topi (fun y3 e4 => ?_)
    have h := lt_at e4 h
    refine lv_istore_n (lv' := [(3, .int y3), (0, .ref (z + 43)), (1, .int x1), (2, .int x2)]) hx hb dX3_findMissed_22 rfl hl (by decide) rfl (fun ls hl => ?_)
    refine lv_aload_n hx hb dX3_findMissed_23 rfl (lv_at hl 1 rfl) ?_
    refine h_getr O hH ly_43 rfl fl_X3_24 dX3_findMissed_24 ?_
    refine h_getr O hH ly_46 rfl fl_X3_200 dX3_findMissed_27 ?_
    refine lv_iload_n hx hb dX3_findMissed_30 rfl (lv_at hl 3 rfl) ?_
    obtain ⟨g5, h⟩ := gd_some h
    refine h_iald O hH ly_50 g5 dX3_findMissed_31 ?_
    refine lv_iconst (v := (-1)) hx hb dX3_findMissed_32 (by decide) ?_
    refine lv_icmp_eq (tgt := 65) hx hb dX3_findMissed_33 (by decide) (fun c6 => ?_) (fun c6 => ?_)
    · have h := it_pos h c6
      exact w_X3_findMissed_65 O hr hlk hk2 _ _ _ h _ _ _ hH (lv_sub hl [1, 2, 3] rfl)
    · have h := it_neg h c6
      refine lv_iload_n hx hb dX3_findMissed_36 rfl (lv_at hl 0 rfl) ?_
      refine lv_aload_n hx hb dX3_findMissed_37 rfl (lv_at hl 1 rfl) ?_
      refine h_getr O hH ly_43 rfl fl_X3_11 dX3_findMissed_38 ?_
      refine lv_iload_n hx hb dX3_findMissed_41 rfl (lv_at hl 2 rfl) ?_
      obtain ⟨g7, h⟩ := gd_some h
      refine h_aald O hH ly_44 rfl g7 (ar_44_r g7) dX3_findMissed_42 ?_
      refine h_geti O hH (ar_44_c g7).1 rfl fl_X3_165 dX3_findMissed_43 ?_
      refine lv_icmp_ge (tgt := 65) hx hb dX3_findMissed_46 (by decide) (fun c8 => ?_) (fun c8 => ?_)
      · have h := it_pos h c8
        exact w_X3_findMissed_65 O hr hlk hk2 _ _ _ h _ _ _ hH (lv_sub hl [1, 2, 3] rfl)
      · have h := it_neg h c8
        refine lv_aload_n hx hb dX3_findMissed_49 rfl (lv_at hl 1 rfl) ?_
        refine h_getr O hH ly_43 rfl fl_X3_19 dX3_findMissed_50 ?_
        refine lv_iload_n hx hb dX3_findMissed_53 rfl (lv_at hl 2 rfl) ?_
        obtain ⟨g9, h⟩ := gd_some h
        refine h_aald O hH ly_45 rfl g9 (ar_45_r g9) dX3_findMissed_54 ?_
        refine lv_iload_n hx hb dX3_findMissed_55 rfl (lv_at hl 0 rfl) ?_
        obtain ⟨y12, D10, hc11, h⟩ := bI_some h
        refine h_callVi (As := [.int y3]) (rest := []) O hH (c_X6_placeOf (ar_45_c g9) hc11) ml_X3_203 (ar_45_c g9).1 rfl rfl hl.1 rfl ⟨Nat.le_of_ble_eq_true rfl, Nat.le_of_ble_eq_true rfl⟩ (Nat.le_of_ble_eq_true rfl) dX3_findMissed_56 (fun H locs hH => ?_)
        refine lv_iconst (v := (-1)) hx hb dX3_findMissed_59 (by decide) ?_
        refine lv_icmp_ne (tgt := 65) hx hb dX3_findMissed_60 (by decide) (fun c13 => ?_) (fun c13 => ?_)
        · have h := it_neg h c13
          exact w_X3_findMissed_65 O hr hlk hk2 _ _ _ h _ _ _ hH (lv_sub hl [1, 2, 3] rfl)
        · have h := it_pos h c13
          refine lv_iload_n hx hb dX3_findMissed_63 rfl (lv_at hl 3 rfl) ?_
          obtain ⟨rfl, rfl⟩ := ret_i h
          exact h_iret O hr hlk hH dX3_findMissed_64
set_option maxHeartbeats 4000000 in
theorem w_X3_findMissed_2 {G : va_G} {tA : Nat → ClassId} {z : Nat} {E : Ex} {p : Program} {l : Launch} {e : Env} {s : State} {m : MethodId} {args : Array Value} {below : List Frame} {meth : Method} {c : Code} {r : Int32} {D' : Dm} (O : Ok G tA z E cX3_findMissed RX3 4 p s m args c) (hr : meth.sig.returnType = some .int) (hlk : meth.locks = false) : ∀ (n : Nat) (x1 : Int32) (x2 : Int32) (D : Dm) (h : f_X3_findMissed_2 n x1 x2 D = some (r, D')), BI G tA z E p l e (rmC 2 0 0) s m args below meth c LAY D r D' 4 2 [(0, .ref (z + 43)), (1, .int x1), (2, .int x2)] [] := by
  intro n
  induction n with
  | zero => intro x1 x2 D h; exact no_some h
  | succ n ih => intro x1 x2 D h; exact w_X3_findMissed_2_b O hr hlk (fun x1 x2 D h => ih x1 x2 D h) x1 x2 D h
set_option maxHeartbeats 4000000 in
theorem w_X3_findMissed {G : va_G} {tA : Nat → ClassId} {z : Nat} {E : Ex} {p : Program} {l : Launch} {e : Env} {s : State} {m : MethodId} {args : Array Value} {below : List Frame} {meth : Method} {c : Code} {r : Int32} {D' : Dm} (O : Ok G tA z E cX3_findMissed RX3 4 p s m args c) (hr : meth.sig.returnType = some .int) (hlk : meth.locks = false) (x1 : Int32) (D : Dm) (h : f_X3_findMissed x1 D = some (r, D')) : BI G tA z E p l e (rmC 2 0 0) s m args below meth c LAY D r D' 4 0 [(0, .ref (z + 43)), (1, .int x1)] [] := by
  obtain ⟨hx, hb, -, hown, hts, -⟩ := id O
  unfold f_X3_findMissed at h
  intro H locs ls hH hl
  refine lv_iconst (v := 0) hx hb dX3_findMissed_0 (by decide) ?_
  refine lv_istore_n (lv' := [(2, .int 0), (0, .ref (z + 43)), (1, .int x1)]) hx hb dX3_findMissed_1 rfl hl (by decide) rfl (fun ls hl => ?_)
  exact w_X3_findMissed_2 O hr hlk FU _ _ _ h _ _ _ hH (lv_sub hl [1, 2, 0] rfl)
set_option maxHeartbeats 4000000 in
theorem c_X3_findMissed {l : Launch} {G : va_G} {tA : Nat → ClassId} {z : Nat} {E : Ex} {x1 : Int32} {D D' : Dm} {r : Int32} (h : f_X3_findMissed x1 D = some (r, D')) : CtI l yX3_findMissed cX3_findMissed 4 (some .int) G tA z E 2 0 0 [.ref (z + 43), .int x1] LAY D r LAY D' :=
  ct_BI (by decide +kernel) (Nat.le_of_ble_eq_true rfl) (fun _ _ _ _ _ _ _ _ O hr hlk => w_X3_findMissed O hr hlk _ _ h)
set_option maxHeartbeats 4000000 in
theorem w_X3_proposeShown_71_b {G : va_G} {tA : Nat → ClassId} {z : Nat} {E : Ex} {p : Program} {l : Launch} {e : Env} {s : State} {m : MethodId} {args : Array Value} {below : List Frame} {meth : Method} {c : Code} {D' : Dm} (O : Ok G tA z E cX3_proposeShown RX3 6 p s m args c) (hr : meth.sig.returnType = none) (hlk : meth.locks = false) {k71 : Nat → Int32 → Dm → Option Dm} (hk71 : ∀ (r4 : Nat) (x5 : Int32) (h4 : isC10 r4) (D : Dm), k71 r4 x5 D = some D' → BV G tA z E p l e (rmC 3 0 0) s m args below meth c LAY D D' 6 71 [(0, .ref (z + 43)), (4, .ref (z + r4)), (5, .int x5)] []) (r4 : Nat) (x5 : Int32) (h4 : isC10 r4) (D : Dm) (h : f_X3_proposeShown_71_b k71 r4 x5 D = some D') : BV G tA z E p l e (rmC 3 0 0) s m args below meth c LAY D D' 6 71 [(0, .ref (z + 43)), (4, .ref (z + r4)), (5, .int x5)] [] := by
  obtain ⟨hx, hb, -, hown, hts, -⟩ := id O
  unfold f_X3_proposeShown_71_b at h
  intro H locs ls hH hl
  refine lv_iload hx hb dX3_proposeShown_71 (lv_at hl 2 rfl) ?_
  refine lv_aload hx hb dX3_proposeShown_73 (lv_at hl 1 rfl) ?_
  refine h_geti O hH h4.1 rfl fl_X3_162 dX3_proposeShown_75 ?_
  refine lv_icmp_ge (tgt := 118) hx hb dX3_proposeShown_78 (by decide) (fun c1 => ?_) (fun c1 => ?_)
  · have h := it_pos h c1
    obtain rfl := ret_v h
    exact h_vret O hr hlk hH dX3_proposeShown_118
  · have h := it_neg h c1
    refine lv_aload_n hx hb dX3_proposeShown_81 rfl (lv_at hl 0 rfl) ?_
    refine h_getr O hH ly_43 rfl fl_X3_43 dX3_proposeShown_82 ?_
    refine lv_aload hx hb dX3_proposeShown_85 (lv_at hl 1 rfl) ?_
    refine h_getr O hH h4.1 rfl fl_X3_214 dX3_proposeShown_87 ?_
    refine lv_iload hx hb dX3_proposeShown_90 (lv_at hl 2 rfl) ?_
    obtain ⟨g2, h⟩ := gd_some h
    refine h_iald O hH h4.2.1 g2 dX3_proposeShown_92 ?_
    refine lv_aload_n hx hb dX3_proposeShown_93 rfl (lv_at hl 0 rfl) ?_
    refine h_getr O hH ly_43 rfl fl_X3_69 dX3_proposeShown_94 ?_
    refine h_getr O hH ly_76 rfl fl_X3_216 dX3_proposeShown_97 ?_
    refine lv_aload hx hb dX3_proposeShown_100 (lv_at hl 1 rfl) ?_
    refine h_getr O hH h4.1 rfl fl_X3_219 dX3_proposeShown_102 ?_
    refine lv_iload hx hb dX3_proposeShown_105 (lv_at hl 2 rfl) ?_
    obtain ⟨g3, h⟩ := gd_some h
    refine h_iald O hH h4.2.2.1 g3 dX3_proposeShown_107 ?_
    obtain ⟨g4, h⟩ := gd_some h
    refine h_iald O hH ly_78 g4 dX3_proposeShown_108 ?_
    obtain ⟨D5, hc6, h⟩ := bV_some h
    refine h_callVv (As := [.int (D (r4 + 1) (Int32.toNatClampNeg x5)), .int (D 78 (Int32.toNatClampNeg (D (r4 + 2) (Int32.toNatClampNeg x5))))]) (rest := []) O hH (c_X10_add ic_68 hc6) ml_X3_104 ly_68 rfl rfl hl.1 rfl ⟨Nat.le_of_ble_eq_true rfl, Nat.le_of_ble_eq_true rfl⟩ (Nat.le_of_ble_eq_true rfl) dX3_proposeShown_109 (fun H locs hH => ?_)
    obtain ⟨y7, e8, h⟩ := lt_some h
    refine lv_iinc (v := y7) (lv' := [(5, .int y7), (0, .ref (z + 43)), (4, .ref (z + r4))]) hx hb dX3_proposeShown_112 hl (k := 2) rfl (by rw [e8]; rfl) (by decide) rfl (fun ls hl => ?_)
    refine lv_goto (tgt := 71) hx hb dX3_proposeShown_115 (by decide) ?_
    exact hk71 _ _ h4 _ h _ _ _ hH (lv_sub hl [1, 2, 0] rfl)
set_option maxHeartbeats 4000000 in
theorem w_X3_proposeShown_71 {G : va_G} {tA : Nat → ClassId} {z : Nat} {E : Ex} {p : Program} {l : Launch} {e : Env} {s : State} {m : MethodId} {args : Array Value} {below : List Frame} {meth : Method} {c : Code} {D' : Dm} (O : Ok G tA z E cX3_proposeShown RX3 6 p s m args c) (hr : meth.sig.returnType = none) (hlk : meth.locks = false) : ∀ (n : Nat) (r4 : Nat) (x5 : Int32) (h4 : isC10 r4) (D : Dm) (h : f_X3_proposeShown_71 n r4 x5 D = some D'), BV G tA z E p l e (rmC 3 0 0) s m args below meth c LAY D D' 6 71 [(0, .ref (z + 43)), (4, .ref (z + r4)), (5, .int x5)] [] := by
  intro n
  induction n with
  | zero => intro r4 x5 h4 D h; exact no_some h
  | succ n ih => intro r4 x5 h4 D h; exact w_X3_proposeShown_71_b O hr hlk (fun r4 x5 h4 D h => ih r4 x5 h4 D h) r4 x5 h4 D h
set_option maxHeartbeats 4000000 in
theorem w_X3_proposeShown {G : va_G} {tA : Nat → ClassId} {z : Nat} {E : Ex} {p : Program} {l : Launch} {e : Env} {s : State} {m : MethodId} {args : Array Value} {below : List Frame} {meth : Method} {c : Code} {D' : Dm} (O : Ok G tA z E cX3_proposeShown RX3 6 p s m args c) (hr : meth.sig.returnType = none) (hlk : meth.locks = false) (x1 : Int32) (x2 : Int32) (x3 : Int32) (D : Dm) (h : f_X3_proposeShown x1 x2 x3 D = some D') : BV G tA z E p l e (rmC 3 0 0) s m args below meth c LAY D D' 6 0 [(0, .ref (z + 43)), (1, .int x1), (2, .int x2), (3, .int x3)] [] := by
  obtain ⟨hx, hb, -, hown, hts, -⟩ := id O
  unfold f_X3_proposeShown at h
  intro H locs ls hH hl
  refine lv_aload_n hx hb dX3_proposeShown_0 rfl (lv_at hl 0 rfl) ?_
  refine h_getr O hH ly_43 rfl fl_X3_69 dX3_proposeShown_1 ?_
  refine h_getr O hH ly_76 rfl fl_X3_143 dX3_proposeShown_4 ?_
  refine lv_aload_n hx hb dX3_proposeShown_7 rfl (lv_at hl 0 rfl) ?_
  refine h_getr O hH ly_43 rfl fl_X3_24 dX3_proposeShown_8 ?_
  refine h_getr O hH ly_46 rfl fl_X3_200 dX3_proposeShown_11 ?_
  refine lv_iload_n hx hb dX3_proposeShown_14 rfl (lv_at hl 3 rfl) ?_
  obtain ⟨g1, h⟩ := gd_some h
  refine h_iald O hH ly_50 g1 dX3_proposeShown_15 ?_
  obtain ⟨g2, h⟩ := gd_some h
  refine h_aald O hH ly_77 rfl g2 (ar_77_r g2) dX3_proposeShown_16 ?_
  refine lv_astore (lv' := [(4, .ref (z + (ar_77 (Int32.toNatClampNeg (D 50 (Int32.toNatClampNeg x3)))))), (0, .ref (z + 43)), (1, .int x1), (2, .int x2), (3, .int x3)]) hx hb dX3_proposeShown_17 hl (by decide) rfl (fun ls hl => ?_)
  refine lv_aload_n hx hb dX3_proposeShown_19 rfl (lv_at hl 1 rfl) ?_
  refine h_getr O hH ly_43 rfl fl_X3_69 dX3_proposeShown_20 ?_
  refine lv_aload_n hx hb dX3_proposeShown_23 rfl (lv_at hl 1 rfl) ?_
  refine h_getr O hH ly_43 rfl fl_X3_24 dX3_proposeShown_24 ?_
  refine h_getr O hH ly_46 rfl fl_X3_206 dX3_proposeShown_27 ?_
  refine lv_iload_n hx hb dX3_proposeShown_30 rfl (lv_at hl 4 rfl) ?_
  obtain ⟨g3, h⟩ := gd_some h
  refine h_iald O hH ly_51 g3 dX3_proposeShown_31 ?_
  refine lv_aload hx hb dX3_proposeShown_32 (lv_at hl 0 rfl) ?_
  refine lv_aload_n hx hb dX3_proposeShown_34 rfl (lv_at hl 1 rfl) ?_
  refine h_getr O hH ly_43 rfl fl_X3_24 dX3_proposeShown_35 ?_
  refine h_getr O hH ly_46 rfl fl_X3_197 dX3_proposeShown_38 ?_
  refine lv_aload_n hx hb dX3_proposeShown_41 rfl (lv_at hl 1 rfl) ?_
  refine h_getr O hH ly_43 rfl fl_X3_24 dX3_proposeShown_42 ?_
  refine h_geti O hH ly_46 rfl fl_X3_194 dX3_proposeShown_45 ?_
  obtain ⟨y6, D4, hc5, h⟩ := bI_some h
  refine h_callVi (As := [.int (D 51 (Int32.toNatClampNeg x3)), .ref (z + (ar_77 (Int32.toNatClampNeg (D 50 (Int32.toNatClampNeg x3))))), .ref (z + 49), .int (D 46 2)]) (rest := []) O hH (c_X0_nameBy (ar_77_c g2) ly_49 hc5) ml_X3_209 ly_76 rfl rfl hl.1 rfl ⟨Nat.le_of_ble_eq_true rfl, Nat.le_of_ble_eq_true rfl⟩ (Nat.le_of_ble_eq_true rfl) dX3_proposeShown_48 (fun H locs hH => ?_)
  refine lv_pop hx hb dX3_proposeShown_51 rfl ?_
  refine lv_aload_n hx hb dX3_proposeShown_52 rfl (lv_at hl 1 rfl) ?_
  refine h_getr O hH ly_43 rfl fl_X3_43 dX3_proposeShown_53 ?_
  obtain ⟨D7, hc8, h⟩ := bV_some h
  refine h_callVv (As := []) (rest := []) O hH (c_X10_clear ic_68 hc8) ml_X3_213 ly_68 rfl rfl hl.1 rfl ⟨Nat.le_of_ble_eq_true rfl, Nat.le_of_ble_eq_true rfl⟩ (Nat.le_of_ble_eq_true rfl) dX3_proposeShown_56 (fun H locs hH => ?_)
  refine lv_aload_n hx hb dX3_proposeShown_59 rfl (lv_at hl 1 rfl) ?_
  refine h_getr O hH ly_43 rfl fl_X3_43 dX3_proposeShown_60 ?_
  refine lv_iload_n hx hb dX3_proposeShown_63 rfl (lv_at hl 2 rfl) ?_
  refine lv_iload_n hx hb dX3_proposeShown_64 rfl (lv_at hl 3 rfl) ?_
  obtain ⟨D9, hc10, h⟩ := bV_some h
  refine h_callVv (As := [.int x1, .int x2]) (rest := []) O hH (c_X10_add ic_68 hc10) ml_X3_104 ly_68 rfl rfl hl.1 rfl ⟨Nat.le_of_ble_eq_true rfl, Nat.le_of_ble_eq_true rfl⟩ (Nat.le_of_ble_eq_true rfl) dX3_proposeShown_65 (fun H locs hH => ?_)
  refine lv_iconst (v := 0) hx hb dX3_proposeShown_68 (by decide) ?_
  refine lv_istore (lv' := [(5, .int 0), (4, .ref (z + (ar_77 (Int32.toNatClampNeg (D 50 (Int32.toNatClampNeg x3)))))), (0, .ref (z + 43)), (1, .int x1), (2, .int x2), (3, .int x3)]) hx hb dX3_proposeShown_69 hl (by decide) rfl (fun ls hl => ?_)
  exact w_X3_proposeShown_71 O hr hlk FU _ _ (ar_77_c g2) _ h _ _ _ hH (lv_sub hl [2, 1, 0] rfl)
set_option maxHeartbeats 4000000 in
theorem c_X3_proposeShown {l : Launch} {G : va_G} {tA : Nat → ClassId} {z : Nat} {E : Ex} {x1 : Int32} {x2 : Int32} {x3 : Int32} {D D' : Dm} (h : f_X3_proposeShown x1 x2 x3 D = some D') : CtV l yX3_proposeShown cX3_proposeShown 6 G tA z E 3 0 0 [.ref (z + 43), .int x1, .int x2, .int x3] LAY D LAY D' :=
  ct_BV (by decide +kernel) (Nat.le_of_ble_eq_true rfl) (fun _ _ _ _ _ _ _ _ O hr hlk => w_X3_proposeShown O hr hlk _ _ _ _ h)
set_option maxHeartbeats 4000000 in
theorem w_X3_fillOf_25 {G : va_G} {tA : Nat → ClassId} {z : Nat} {E : Ex} {p : Program} {l : Launch} {e : Env} {s : State} {m : MethodId} {args : Array Value} {below : List Frame} {meth : Method} {c : Code} {r : Int32} {D' : Dm} (O : Ok G tA z E cX3_fillOf RX3 6 p s m args c) (hr : meth.sig.returnType = some .int) (hlk : meth.locks = false) (x1 : Int32) (xs0 : Int32) (D : Dm) (h : f_X3_fillOf_25 x1 xs0 D = some (r, D')) : BI G tA z E p l e (rmC 2 0 0) s m args below meth c LAY D r D' 6 25 [(0, .ref (z + 43)), (1, .int x1)] [.int xs0] := by
  obtain ⟨hx, hb, -, hown, hts, -⟩ := id O
  unfold f_X3_fillOf_25 at h
  intro H locs ls hH hl
  refine lv_istore (lv' := [(4, .int xs0), (0, .ref (z + 43)), (1, .int x1)]) hx hb dX3_fillOf_25 hl (by decide) rfl (fun ls hl => ?_)
  refine lv_aload_n hx hb dX3_fillOf_27 rfl (lv_at hl 1 rfl) ?_
  refine h_getr O hH ly_43 rfl fl_X3_19 dX3_fillOf_28 ?_
  refine lv_iload_n hx hb dX3_fillOf_31 rfl (lv_at hl 2 rfl) ?_
  obtain ⟨g1, h⟩ := gd_some h
  refine h_aald O hH ly_45 rfl g1 (ar_45_r g1) dX3_fillOf_32 ?_
  refine lv_aload_n hx hb dX3_fillOf_33 rfl (lv_at hl 1 rfl) ?_
  refine h_getr O hH ly_43 rfl fl_X3_24 dX3_fillOf_34 ?_
  refine h_getr O hH ly_46 rfl fl_X3_172 dX3_fillOf_37 ?_
  refine lv_iload hx hb dX3_fillOf_40 (lv_at hl 0 rfl) ?_
  obtain ⟨g2, h⟩ := gd_some h
  refine h_iald O hH ly_52 g2 dX3_fillOf_42 ?_
  obtain ⟨y5, D3, hc4, h⟩ := bI_some h
  refine h_callVi (As := [.int (D 52 (Int32.toNatClampNeg xs0))]) (rest := []) O hH (c_X6_placeOf (ar_45_c g1) hc4) ml_X3_203 (ar_45_c g1).1 rfl rfl hl.1 rfl ⟨Nat.le_of_ble_eq_true rfl, Nat.le_of_ble_eq_true rfl⟩ (Nat.le_of_ble_eq_true rfl) dX3_fillOf_43 (fun H locs hH => ?_)
  refine lv_istore (lv' := [(5, .int y5), (4, .int xs0), (0, .ref (z + 43)), (1, .int x1)]) hx hb dX3_fillOf_46 hl (by decide) rfl (fun ls hl => ?_)
  refine lv_iload hx hb dX3_fillOf_48 (lv_at hl 0 rfl) ?_
  refine lv_iconst (v := (-1)) hx hb dX3_fillOf_50 (by decide) ?_
  refine lv_icmp_ne (tgt := 58) hx hb dX3_fillOf_51 (by decide) (fun c6 => ?_) (fun c6 => ?_)
  · have h := it_neg h c6
    refine lv_iload hx hb dX3_fillOf_58 (lv_at hl 0 rfl) ?_
    obtain ⟨rfl, rfl⟩ := ret_i h
    exact h_iret O hr hlk hH dX3_fillOf_60
  · have h := it_pos h c6
    refine lv_iconst (v := 2) hx hb dX3_fillOf_54 (by decide) ?_
    refine lv_goto (tgt := 60) hx hb dX3_fillOf_55 (by decide) ?_
    obtain ⟨rfl, rfl⟩ := ret_i h
    exact h_iret O hr hlk hH dX3_fillOf_60
set_option maxHeartbeats 4000000 in
theorem w_X3_fillOf {G : va_G} {tA : Nat → ClassId} {z : Nat} {E : Ex} {p : Program} {l : Launch} {e : Env} {s : State} {m : MethodId} {args : Array Value} {below : List Frame} {meth : Method} {c : Code} {r : Int32} {D' : Dm} (O : Ok G tA z E cX3_fillOf RX3 6 p s m args c) (hr : meth.sig.returnType = some .int) (hlk : meth.locks = false) (x1 : Int32) (x2 : Int32) (x3 : Int32) (D : Dm) (h : f_X3_fillOf x1 x2 x3 D = some (r, D')) : BI G tA z E p l e (rmC 2 0 0) s m args below meth c LAY D r D' 6 0 [(0, .ref (z + 43)), (1, .int x1), (2, .int x2), (3, .int x3)] [] := by
  obtain ⟨hx, hb, -, hown, hts, -⟩ := id O
  unfold f_X3_fillOf at h
  intro H locs ls hH hl
  refine lv_iload_n hx hb dX3_fillOf_0 rfl (lv_at hl 2 rfl) ?_
  refine lv_aload_n hx hb dX3_fillOf_1 rfl (lv_at hl 0 rfl) ?_
  refine h_getr O hH ly_43 rfl fl_X3_24 dX3_fillOf_2 ?_
  refine h_geti O hH ly_46 rfl fl_X3_116 dX3_fillOf_5 ?_
  refine lv_icmp_lt (tgt := 13) hx hb dX3_fillOf_8 (by decide) (fun c1 => ?_) (fun c1 => ?_)
  · have h := it_pos h c1
    refine lv_iload_n hx hb dX3_fillOf_13 rfl (lv_at hl 3 rfl) ?_
    refine lv_iconst (v := 1) hx hb dX3_fillOf_14 (by decide) ?_
    refine lv_icmp_ne (tgt := 24) hx hb dX3_fillOf_15 (by decide) (fun c2 => ?_) (fun c2 => ?_)
    · have h := it_neg h c2
      refine lv_iload_n hx hb dX3_fillOf_24 rfl (lv_at hl 2 rfl) ?_
      exact w_X3_fillOf_25 O hr hlk _ _ _ h _ _ _ hH (lv_sub hl [0, 1] rfl)
    · have h := it_pos h c2
      refine lv_iconst (v := 1) hx hb dX3_fillOf_18 (by decide) ?_
      refine lv_iload_n hx hb dX3_fillOf_19 rfl (lv_at hl 2 rfl) ?_
      refine lv_isub hx hb dX3_fillOf_20 ?_
      refine lv_goto (tgt := 25) hx hb dX3_fillOf_21 (by decide) ?_
      exact w_X3_fillOf_25 O hr hlk _ _ _ h _ _ _ hH (lv_sub hl [0, 1] rfl)
  · have h := it_neg h c1
    refine lv_iconst (v := (-1)) hx hb dX3_fillOf_11 (by decide) ?_
    obtain ⟨rfl, rfl⟩ := ret_i h
    exact h_iret O hr hlk hH dX3_fillOf_12
set_option maxHeartbeats 4000000 in
theorem c_X3_fillOf {l : Launch} {G : va_G} {tA : Nat → ClassId} {z : Nat} {E : Ex} {x1 : Int32} {x2 : Int32} {x3 : Int32} {D D' : Dm} {r : Int32} (h : f_X3_fillOf x1 x2 x3 D = some (r, D')) : CtI l yX3_fillOf cX3_fillOf 6 (some .int) G tA z E 2 0 0 [.ref (z + 43), .int x1, .int x2, .int x3] LAY D r LAY D' :=
  ct_BI (by decide +kernel) (Nat.le_of_ble_eq_true rfl) (fun _ _ _ _ _ _ _ _ O hr hlk => w_X3_fillOf O hr hlk _ _ _ _ h)
set_option maxHeartbeats 4000000 in
theorem w_X3_connect {G : va_G} {tA : Nat → ClassId} {z : Nat} {E : Ex} {p : Program} {l : Launch} {e : Env} {s : State} {m : MethodId} {args : Array Value} {below : List Frame} {meth : Method} {c : Code} {D' : Dm} (O : Ok G tA z E cX3_connect RX3 5 p s m args c) (hr : meth.sig.returnType = none) (hlk : meth.locks = false) (x1 : Int32) (x2 : Int32) (x3 : Int32) (D : Dm) (h : f_X3_connect x1 x2 x3 D = some D') : BV G tA z E p l e (rmC 3 0 0) s m args below meth c LAY D D' 5 0 [(0, .ref (z + 43)), (1, .int x1), (2, .int x2), (3, .int x3)] [] := by
  obtain ⟨hx, hb, -, hown, hts, -⟩ := id O
  unfold f_X3_connect at h
  intro H locs ls hH hl
  refine lv_aload_n hx hb dX3_connect_0 rfl (lv_at hl 0 rfl) ?_
  refine h_getr O hH ly_43 rfl fl_X3_24 dX3_connect_1 ?_
  refine lv_aload_n hx hb dX3_connect_4 rfl (lv_at hl 0 rfl) ?_
  refine h_getr O hH ly_43 rfl fl_X3_19 dX3_connect_5 ?_
  refine lv_iload_n hx hb dX3_connect_8 rfl (lv_at hl 3 rfl) ?_
  obtain ⟨g1, h⟩ := gd_some h
  refine h_aald O hH ly_45 rfl g1 (ar_45_r g1) dX3_connect_9 ?_
  obtain ⟨y4, D2, hc3, h⟩ := bI_some h
  refine h_callVi (As := [.ref (z + (ar_45 (Int32.toNatClampNeg x3)))]) (rest := []) O hH (c_X6_wayTo ic_46 (ar_45_c g1) hc3) ml_X3_112 ly_46 rfl rfl hl.1 rfl ⟨Nat.le_of_ble_eq_true rfl, Nat.le_of_ble_eq_true rfl⟩ (Nat.le_of_ble_eq_true rfl) dX3_connect_10 (fun H locs hH => ?_)
  refine lv_istore (lv' := [(4, .int y4), (0, .ref (z + 43)), (1, .int x1), (2, .int x2), (3, .int x3)]) hx hb dX3_connect_13 hl (by decide) rfl (fun ls hl => ?_)
  refine lv_aload_n hx hb dX3_connect_15 rfl (lv_at hl 1 rfl) ?_
  refine h_getr O hH ly_43 rfl fl_X3_31 dX3_connect_16 ?_
  refine lv_iload_n hx hb dX3_connect_19 rfl (lv_at hl 2 rfl) ?_
  refine lv_iload_n hx hb dX3_connect_20 rfl (lv_at hl 4 rfl) ?_
  refine lv_aload_n hx hb dX3_connect_21 rfl (lv_at hl 1 rfl) ?_
  refine lv_iload_n hx hb dX3_connect_22 rfl (lv_at hl 3 rfl) ?_
  refine lv_iconst (v := 0) hx hb dX3_connect_23 (by decide) ?_
  refine lv_iload hx hb dX3_connect_24 (lv_at hl 0 rfl) ?_
  obtain ⟨y7, D5, hc6, h⟩ := bI_some h
  refine h_callVi (As := [.int x2, .int 0, .int y4]) (rest := [.int x3, .int x1, .ref (z + 56)]) O hH (c_X3_fillOf hc6) ml_X3_222 ly_43 rfl rfl hl.1 rfl ⟨Nat.le_of_ble_eq_true rfl, Nat.le_of_ble_eq_true rfl⟩ (Nat.le_of_ble_eq_true rfl) dX3_connect_26 (fun H locs hH => ?_)
  refine lv_aload_n hx hb dX3_connect_29 rfl (lv_at hl 1 rfl) ?_
  refine lv_iload_n hx hb dX3_connect_30 rfl (lv_at hl 3 rfl) ?_
  refine lv_iconst (v := 1) hx hb dX3_connect_31 (by decide) ?_
  refine lv_iload hx hb dX3_connect_32 (lv_at hl 0 rfl) ?_
  obtain ⟨y10, D8, hc9, h⟩ := bI_some h
  refine h_callVi (As := [.int x2, .int 1, .int y4]) (rest := [.int y7, .int x3, .int x1, .ref (z + 56)]) O hH (c_X3_fillOf hc9) ml_X3_222 ly_43 rfl rfl hl.1 rfl ⟨Nat.le_of_ble_eq_true rfl, Nat.le_of_ble_eq_true rfl⟩ (Nat.le_of_ble_eq_true rfl) dX3_connect_34 (fun H locs hH => ?_)
  obtain ⟨D11, hc12, h⟩ := bV_some h
  refine h_callVv (As := [.int x1, .int x3, .int y7, .int y10]) (rest := []) O hH (c_X2_put hc12) ml_X3_225 ly_56 rfl rfl hl.1 rfl ⟨Nat.le_of_ble_eq_true rfl, Nat.le_of_ble_eq_true rfl⟩ (Nat.le_of_ble_eq_true rfl) dX3_connect_37 (fun H locs hH => ?_)
  obtain rfl := ret_v h
  exact h_vret O hr hlk hH dX3_connect_40
set_option maxHeartbeats 4000000 in
theorem c_X3_connect {l : Launch} {G : va_G} {tA : Nat → ClassId} {z : Nat} {E : Ex} {x1 : Int32} {x2 : Int32} {x3 : Int32} {D D' : Dm} (h : f_X3_connect x1 x2 x3 D = some D') : CtV l yX3_connect cX3_connect 5 G tA z E 3 0 0 [.ref (z + 43), .int x1, .int x2, .int x3] LAY D LAY D' :=
  ct_BV (by decide +kernel) (Nat.le_of_ble_eq_true rfl) (fun _ _ _ _ _ _ _ _ O hr hlk => w_X3_connect O hr hlk _ _ _ _ h)
set_option maxHeartbeats 4000000 in
theorem w_X3_lookAtLongWord_126 {G : va_G} {tA : Nat → ClassId} {z : Nat} {E : Ex} {p : Program} {l : Launch} {e : Env} {s : State} {m : MethodId} {args : Array Value} {below : List Frame} {meth : Method} {c : Code} {D' : Dm} (O : Ok G tA z E cX3_lookAtLongWord RX3 8 p s m args c) (hr : meth.sig.returnType = none) (hlk : meth.locks = false) (x1 : Int32) (x7 : Int32) (xs0 : Int32) (xs1 : Int32) (xs2 : Int32) (D : Dm) (h : f_X3_lookAtLongWord_126 x1 x7 xs0 xs1 xs2 D = some D') : BV G tA z E p l e (rmC 5 0 0) s m args below meth c LAY D D' 8 126 [(1, .int x1), (7, .int x7)] [.int xs0, .int xs1, .int xs2, .ref (z + 43)] := by
  obtain ⟨hx, hb, -, hown, hts, -⟩ := id O
  unfold f_X3_lookAtLongWord_126 at h
  intro H locs ls hH hl
  obtain ⟨y3, D1, hc2, h⟩ := bI_some h
  refine h_callSi (As := [.int xs2, .int xs1, .int xs0]) (rest := [.ref (z + 43)]) O hH (c_X4_slot hc2) ml_X3_187 rfl hl.1 rfl ⟨Nat.le_of_ble_eq_true rfl, Nat.le_of_ble_eq_true rfl⟩ (Nat.le_of_ble_eq_true rfl) dX3_lookAtLongWord_126 (fun H locs hH => ?_)
  refine lv_iload_n hx hb dX3_lookAtLongWord_129 rfl (lv_at hl 0 rfl) ?_
  refine lv_iload hx hb dX3_lookAtLongWord_130 (lv_at hl 1 rfl) ?_
  obtain ⟨D4, hc5, h⟩ := bV_some h
  refine h_callVv (As := [.int y3, .int x1, .int x7]) (rest := []) O hH (c_X3_connect hc5) ml_X3_191 ly_43 rfl rfl hl.1 rfl ⟨Nat.le_of_ble_eq_true rfl, Nat.le_of_ble_eq_true rfl⟩ (Nat.le_of_ble_eq_true rfl) dX3_lookAtLongWord_132 (fun H locs hH => ?_)
  refine lv_goto (tgt := 161) hx hb dX3_lookAtLongWord_135 (by decide) ?_
  obtain rfl := ret_v h
  exact h_vret O hr hlk hH dX3_lookAtLongWord_161
set_option maxHeartbeats 4000000 in
theorem w_X3_lookAtLongWord_48 {G : va_G} {tA : Nat → ClassId} {z : Nat} {E : Ex} {p : Program} {l : Launch} {e : Env} {s : State} {m : MethodId} {args : Array Value} {below : List Frame} {meth : Method} {c : Code} {D' : Dm} (O : Ok G tA z E cX3_lookAtLongWord RX3 8 p s m args c) (hr : meth.sig.returnType = none) (hlk : meth.locks = false) (x1 : Int32) (x2 : Int32) (x3 : Int32) (x4 : Int32) (xs0 : Int32) (D : Dm) (h : f_X3_lookAtLongWord_48 x1 x2 x3 x4 xs0 D = some D') : BV G tA z E p l e (rmC 5 0 0) s m args below meth c LAY D D' 8 48 [(0, .ref (z + 43)), (1, .int x1), (2, .int x2), (3, .int x3), (4, .int x4)] [.int xs0] := by
  obtain ⟨hx, hb, -, hown, hts, -⟩ := id O
  unfold f_X3_lookAtLongWord_48 at h
  intro H locs ls hH hl
  refine lv_istore (lv' := [(5, .int xs0), (0, .ref (z + 43)), (1, .int x1), (2, .int x2), (3, .int x3), (4, .int x4)]) hx hb dX3_lookAtLongWord_48 hl (by decide) rfl (fun ls hl => ?_)
  refine lv_aload_n hx hb dX3_lookAtLongWord_50 rfl (lv_at hl 1 rfl) ?_
  refine lv_iload_n hx hb dX3_lookAtLongWord_51 rfl (lv_at hl 2 rfl) ?_
  refine lv_iload_n hx hb dX3_lookAtLongWord_52 rfl (lv_at hl 3 rfl) ?_
  refine lv_iload hx hb dX3_lookAtLongWord_53 (lv_at hl 0 rfl) ?_
  obtain ⟨D1, hc2, h⟩ := bV_some h
  refine h_callVv (As := [.int x1, .int x2, .int xs0]) (rest := []) O hH (c_X3_makeLonger hc2) ml_X3_108 ly_43 rfl rfl hl.1 rfl ⟨Nat.le_of_ble_eq_true rfl, Nat.le_of_ble_eq_true rfl⟩ (Nat.le_of_ble_eq_true rfl) dX3_lookAtLongWord_55 (fun H locs hH => ?_)
  refine lv_aload_n hx hb dX3_lookAtLongWord_58 rfl (lv_at hl 1 rfl) ?_
  refine h_getr O hH ly_43 rfl fl_X3_24 dX3_lookAtLongWord_59 ?_
  refine lv_aload_n hx hb dX3_lookAtLongWord_62 rfl (lv_at hl 1 rfl) ?_
  refine h_getr O hH ly_43 rfl fl_X3_69 dX3_lookAtLongWord_63 ?_
  refine lv_aload_n hx hb dX3_lookAtLongWord_66 rfl (lv_at hl 1 rfl) ?_
  refine h_getr O hH ly_43 rfl fl_X3_40 dX3_lookAtLongWord_67 ?_
  obtain ⟨D3, hc4, h⟩ := bV_some h
  refine h_callVv (As := [.ref (z + 76), .ref (z + 64)]) (rest := []) O hH (c_X6_look ic_46 ic_64 hc4) ml_X3_93 ly_46 rfl rfl hl.1 rfl ⟨Nat.le_of_ble_eq_true rfl, Nat.le_of_ble_eq_true rfl⟩ (Nat.le_of_ble_eq_true rfl) dX3_lookAtLongWord_70 (fun H locs hH => ?_)
  refine lv_aload_n hx hb dX3_lookAtLongWord_73 rfl (lv_at hl 1 rfl) ?_
  refine lv_iload_n hx hb dX3_lookAtLongWord_74 rfl (lv_at hl 2 rfl) ?_
  obtain ⟨y7, D5, hc6, h⟩ := bI_some h
  refine h_callVi (As := [.int x1]) (rest := []) O hH (c_X3_findMissed hc6) ml_X3_176 ly_43 rfl rfl hl.1 rfl ⟨Nat.le_of_ble_eq_true rfl, Nat.le_of_ble_eq_true rfl⟩ (Nat.le_of_ble_eq_true rfl) dX3_lookAtLongWord_75 (fun H locs hH => ?_)
  refine lv_istore (lv' := [(6, .int y7), (5, .int xs0), (0, .ref (z + 43)), (1, .int x1), (2, .int x2), (3, .int x3), (4, .int x4)]) hx hb dX3_lookAtLongWord_78 hl (by decide) rfl (fun ls hl => ?_)
  refine lv_iload hx hb dX3_lookAtLongWord_80 (lv_at hl 0 rfl) ?_
  refine lv_iconst (v := (-1)) hx hb dX3_lookAtLongWord_82 (by decide) ?_
  refine lv_icmp_eq (tgt := 101) hx hb dX3_lookAtLongWord_83 (by decide) (fun c8 => ?_) (fun c8 => ?_)
  · have h := it_pos h c8
    refine lv_aload_n hx hb dX3_lookAtLongWord_101 rfl (lv_at hl 2 rfl) ?_
    obtain ⟨y11, D9, hc10, h⟩ := bI_some h
    refine h_callVi (As := []) (rest := []) O hH (c_X3_firstAlike hc10) ml_X3_183 ly_43 rfl rfl hl.1 rfl ⟨Nat.le_of_ble_eq_true rfl, Nat.le_of_ble_eq_true rfl⟩ (Nat.le_of_ble_eq_true rfl) dX3_lookAtLongWord_102 (fun H locs hH => ?_)
    refine lv_istore (lv' := [(7, .int y11), (6, .int y7), (5, .int xs0), (0, .ref (z + 43)), (1, .int x1), (2, .int x2), (3, .int x3), (4, .int x4)]) hx hb dX3_lookAtLongWord_105 hl (by decide) rfl (fun ls hl => ?_)
    refine lv_iload hx hb dX3_lookAtLongWord_107 (lv_at hl 0 rfl) ?_
    refine lv_iconst (v := (-1)) hx hb dX3_lookAtLongWord_109 (by decide) ?_
    refine lv_icmp_eq (tgt := 138) hx hb dX3_lookAtLongWord_110 (by decide) (fun c12 => ?_) (fun c12 => ?_)
    · have h := it_pos h c12
      refine lv_aload_n hx hb dX3_lookAtLongWord_138 rfl (lv_at hl 3 rfl) ?_
      refine h_geti O hH ly_43 rfl fl_X3_90 dX3_lookAtLongWord_139 ?_
      refine lv_if_ne (tgt := 161) hx hb dX3_lookAtLongWord_142 (by decide) (fun c13 => ?_) (fun c13 => ?_)
      · have h := it_neg h c13
        obtain rfl := ret_v h
        exact h_vret O hr hlk hH dX3_lookAtLongWord_161
      · have h := it_pos h c13
        refine lv_aload_n hx hb dX3_lookAtLongWord_145 rfl (lv_at hl 3 rfl) ?_
        refine lv_iconst (v := 2) hx hb dX3_lookAtLongWord_146 (by decide) ?_
        obtain ⟨D14, e15, h⟩ := lt_some h
        refine h_puti O hH ly_43 rfl fl_X3_90 e15 dX3_lookAtLongWord_147 (fun H locs hH => ?_)
        refine lv_aload_n hx hb dX3_lookAtLongWord_150 rfl (lv_at hl 3 rfl) ?_
        refine h_getr O hH ly_43 rfl fl_X3_43 dX3_lookAtLongWord_151 ?_
        refine lv_aload_n hx hb dX3_lookAtLongWord_154 rfl (lv_at hl 3 rfl) ?_
        refine h_getr O hH ly_43 rfl fl_X3_40 dX3_lookAtLongWord_155 ?_
        obtain ⟨D16, hc17, h⟩ := bV_some h
        refine h_callVv (As := [.ref (z + 64)]) (rest := []) O hH (c_X10_copyLeast ic_68 ic_64 hc17) ml_X3_97 ly_68 rfl rfl hl.1 rfl ⟨Nat.le_of_ble_eq_true rfl, Nat.le_of_ble_eq_true rfl⟩ (Nat.le_of_ble_eq_true rfl) dX3_lookAtLongWord_158 (fun H locs hH => ?_)
        obtain rfl := ret_v h
        exact h_vret O hr hlk hH dX3_lookAtLongWord_161
    · have h := it_neg h c12
      refine lv_aload_n hx hb dX3_lookAtLongWord_113 rfl (lv_at hl 3 rfl) ?_
      refine lv_iload_n hx hb dX3_lookAtLongWord_114 rfl (lv_at hl 4 rfl) ?_
      refine lv_iload_n hx hb dX3_lookAtLongWord_115 rfl (lv_at hl 5 rfl) ?_
      refine lv_iload hx hb dX3_lookAtLongWord_116 (lv_at hl 7 rfl) ?_
      refine lv_if_eq (tgt := 125) hx hb dX3_lookAtLongWord_118 (by decide) (fun c18 => ?_) (fun c18 => ?_)
      · have h := it_pos h c18
        refine lv_iload_n hx hb dX3_lookAtLongWord_125 rfl (lv_at hl 6 rfl) ?_
        exact w_X3_lookAtLongWord_126 O hr hlk _ _ _ _ _ _ h _ _ _ hH (lv_sub hl [4, 0] rfl)
      · have h := it_neg h c18
        refine lv_iconst (v := 2) hx hb dX3_lookAtLongWord_121 (by decide) ?_
        refine lv_goto (tgt := 126) hx hb dX3_lookAtLongWord_122 (by decide) ?_
        exact w_X3_lookAtLongWord_126 O hr hlk _ _ _ _ _ _ h _ _ _ hH (lv_sub hl [4, 0] rfl)
  · have h := it_neg h c8
    refine lv_aload_n hx hb dX3_lookAtLongWord_86 rfl (lv_at hl 2 rfl) ?_
    refine lv_iconst (v := 1) hx hb dX3_lookAtLongWord_87 (by decide) ?_
    obtain ⟨D19, e20, h⟩ := lt_some h
    refine h_puti O hH ly_43 rfl fl_X3_90 e20 dX3_lookAtLongWord_88 (fun H locs hH => ?_)
    refine lv_aload_n hx hb dX3_lookAtLongWord_91 rfl (lv_at hl 2 rfl) ?_
    refine lv_iload_n hx hb dX3_lookAtLongWord_92 rfl (lv_at hl 4 rfl) ?_
    refine lv_iload hx hb dX3_lookAtLongWord_93 (lv_at hl 1 rfl) ?_
    refine lv_iload hx hb dX3_lookAtLongWord_95 (lv_at hl 0 rfl) ?_
    obtain ⟨D21, hc22, h⟩ := bV_some h
    refine h_callVv (As := [.int x2, .int xs0, .int y7]) (rest := []) O hH (c_X3_proposeShown hc22) ml_X3_180 ly_43 rfl rfl hl.1 rfl ⟨Nat.le_of_ble_eq_true rfl, Nat.le_of_ble_eq_true rfl⟩ (Nat.le_of_ble_eq_true rfl) dX3_lookAtLongWord_97 (fun H locs hH => ?_)
    obtain rfl := ret_v h
    exact h_vret O hr hlk hH dX3_lookAtLongWord_100
set_option maxHeartbeats 4000000 in
theorem w_X3_lookAtLongWord_18 {G : va_G} {tA : Nat → ClassId} {z : Nat} {E : Ex} {p : Program} {l : Launch} {e : Env} {s : State} {m : MethodId} {args : Array Value} {below : List Frame} {meth : Method} {c : Code} {D' : Dm} (O : Ok G tA z E cX3_lookAtLongWord RX3 8 p s m args c) (hr : meth.sig.returnType = none) (hlk : meth.locks = false) (x1 : Int32) (x2 : Int32) (x3 : Int32) (xs0 : Int32) (D : Dm) (h : f_X3_lookAtLongWord_18 x1 x2 x3 xs0 D = some D') : BV G tA z E p l e (rmC 5 0 0) s m args below meth c LAY D D' 8 18 [(0, .ref (z + 43)), (1, .int x1), (2, .int x2), (3, .int x3)] [.int xs0] := by
  obtain ⟨hx, hb, -, hown, hts, -⟩ := id O
  unfold f_X3_lookAtLongWord_18 at h
  intro H locs ls hH hl
  refine lv_istore (lv' := [(4, .int xs0), (0, .ref (z + 43)), (1, .int x1), (2, .int x2), (3, .int x3)]) hx hb dX3_lookAtLongWord_18 hl (by decide) rfl (fun ls hl => ?_)
  refine lv_iload hx hb dX3_lookAtLongWord_20 (lv_at hl 0 rfl) ?_
  refine lv_if_eq (tgt := 37) hx hb dX3_lookAtLongWord_22 (by decide) (fun c1 => ?_) (fun c1 => ?_)
  · have h := it_pos h c1
    refine lv_aload_n hx hb dX3_lookAtLongWord_37 rfl (lv_at hl 1 rfl) ?_
    refine h_getr O hH ly_43 rfl fl_X3_19 dX3_lookAtLongWord_38 ?_
    refine lv_iload_n hx hb dX3_lookAtLongWord_41 rfl (lv_at hl 2 rfl) ?_
    obtain ⟨g2, h⟩ := gd_some h
    refine h_aald O hH ly_45 rfl g2 (ar_45_r g2) dX3_lookAtLongWord_42 ?_
    refine h_getr O hH (ar_45_c g2).1 rfl fl_X3_172 dX3_lookAtLongWord_43 ?_
    refine lv_iload_n hx hb dX3_lookAtLongWord_46 rfl (lv_at hl 4 rfl) ?_
    obtain ⟨g3, h⟩ := gd_some h
    refine h_iald O hH (ar_45_c g2).2.2.2.2.2.2.1 g3 dX3_lookAtLongWord_47 ?_
    exact w_X3_lookAtLongWord_48 O hr hlk _ _ _ _ _ _ h _ _ _ hH (lv_sub hl [1, 2, 3, 4, 0] rfl)
  · have h := it_neg h c1
    refine lv_aload_n hx hb dX3_lookAtLongWord_25 rfl (lv_at hl 1 rfl) ?_
    refine h_getr O hH ly_43 rfl fl_X3_11 dX3_lookAtLongWord_26 ?_
    refine lv_iload_n hx hb dX3_lookAtLongWord_29 rfl (lv_at hl 2 rfl) ?_
    obtain ⟨g4, h⟩ := gd_some h
    refine h_aald O hH ly_44 rfl g4 (ar_44_r g4) dX3_lookAtLongWord_30 ?_
    refine h_geti O hH (ar_44_c g4).1 rfl fl_X3_165 dX3_lookAtLongWord_31 ?_
    refine lv_goto (tgt := 48) hx hb dX3_lookAtLongWord_34 (by decide) ?_
    exact w_X3_lookAtLongWord_48 O hr hlk _ _ _ _ _ _ h _ _ _ hH (lv_sub hl [1, 2, 3, 4, 0] rfl)
set_option maxHeartbeats 4000000 in
theorem w_X3_lookAtLongWord {G : va_G} {tA : Nat → ClassId} {z : Nat} {E : Ex} {p : Program} {l : Launch} {e : Env} {s : State} {m : MethodId} {args : Array Value} {below : List Frame} {meth : Method} {c : Code} {D' : Dm} (O : Ok G tA z E cX3_lookAtLongWord RX3 8 p s m args c) (hr : meth.sig.returnType = none) (hlk : meth.locks = false) (x1 : Int32) (x2 : Int32) (x3 : Int32) (D : Dm) (h : f_X3_lookAtLongWord x1 x2 x3 D = some D') : BV G tA z E p l e (rmC 5 0 0) s m args below meth c LAY D D' 8 0 [(0, .ref (z + 43)), (1, .int x1), (2, .int x2), (3, .int x3)] [] := by
  obtain ⟨hx, hb, -, hown, hts, -⟩ := id O
  unfold f_X3_lookAtLongWord at h
  intro H locs ls hH hl
  refine lv_iload_n hx hb dX3_lookAtLongWord_0 rfl (lv_at hl 3 rfl) ?_
  refine lv_aload_n hx hb dX3_lookAtLongWord_1 rfl (lv_at hl 0 rfl) ?_
  refine h_getr O hH ly_43 rfl fl_X3_19 dX3_lookAtLongWord_2 ?_
  refine lv_iload_n hx hb dX3_lookAtLongWord_5 rfl (lv_at hl 1 rfl) ?_
  obtain ⟨g1, h⟩ := gd_some h
  refine h_aald O hH ly_45 rfl g1 (ar_45_r g1) dX3_lookAtLongWord_6 ?_
  refine h_geti O hH (ar_45_c g1).1 rfl fl_X3_116 dX3_lookAtLongWord_7 ?_
  refine lv_icmp_lt (tgt := 17) hx hb dX3_lookAtLongWord_10 (by decide) (fun c2 => ?_) (fun c2 => ?_)
  · have h := it_pos h c2
    refine lv_iconst (v := 0) hx hb dX3_lookAtLongWord_17 (by decide) ?_
    exact w_X3_lookAtLongWord_18 O hr hlk _ _ _ _ _ h _ _ _ hH (lv_sub hl [0, 1, 2, 3] rfl)
  · have h := it_neg h c2
    refine lv_iconst (v := 1) hx hb dX3_lookAtLongWord_13 (by decide) ?_
    refine lv_goto (tgt := 18) hx hb dX3_lookAtLongWord_14 (by decide) ?_
    exact w_X3_lookAtLongWord_18 O hr hlk _ _ _ _ _ h _ _ _ hH (lv_sub hl [0, 1, 2, 3] rfl)
set_option maxHeartbeats 4000000 in
theorem c_X3_lookAtLongWord {l : Launch} {G : va_G} {tA : Nat → ClassId} {z : Nat} {E : Ex} {x1 : Int32} {x2 : Int32} {x3 : Int32} {D D' : Dm} (h : f_X3_lookAtLongWord x1 x2 x3 D = some D') : CtV l yX3_lookAtLongWord cX3_lookAtLongWord 8 G tA z E 5 0 0 [.ref (z + 43), .int x1, .int x2, .int x3] LAY D LAY D' :=
  ct_BV (by decide +kernel) (Nat.le_of_ble_eq_true rfl) (fun _ _ _ _ _ _ _ _ O hr hlk => w_X3_lookAtLongWord O hr hlk _ _ _ _ h)
set_option maxHeartbeats 4000000 in
theorem w_X3_takesMixed_131_b {G : va_G} {tA : Nat → ClassId} {z : Nat} {E : Ex} {p : Program} {l : Launch} {e : Env} {s : State} {m : MethodId} {args : Array Value} {below : List Frame} {meth : Method} {c : Code} {r : Int32} {D' : Dm} (O : Ok G tA z E cX3_takesMixed RX3 6 p s m args c) (hr : meth.sig.returnType = some .boolean) (hlk : meth.locks = false) {k131 : Int32 → Dm → Option (Int32 × Dm)} (hk131 : ∀ (x3 : Int32) (D : Dm), k131 x3 D = some (r, D') → BI G tA z E p l e (rmC 4 0 0) s m args below meth c LAY D r D' 6 131 [(0, .ref (z + 43)), (3, .int x3)] []) (x3 : Int32) (D : Dm) (h : f_X3_takesMixed_131_b k131 x3 D = some (r, D')) : BI G tA z E p l e (rmC 4 0 0) s m args below meth c LAY D r D' 6 131 [(0, .ref (z + 43)), (3, .int x3)] [] := by
  obtain ⟨hx, hb, -, hown, hts, -⟩ := id O
  unfold f_X3_takesMixed_131_b at h
  intro H locs ls hH hl
  refine lv_iload_n hx hb dX3_takesMixed_131 rfl (lv_at hl 1 rfl) ?_
  refine lv_aload_n hx hb dX3_takesMixed_132 rfl (lv_at hl 0 rfl) ?_
  refine h_getr O hH ly_43 rfl fl_X3_36 dX3_takesMixed_133 ?_
  refine h_geti O hH ly_60 rfl fl_X3_162 dX3_takesMixed_136 ?_
  refine lv_icmp_ge (tgt := 177) hx hb dX3_takesMixed_139 (by decide) (fun c1 => ?_) (fun c1 => ?_)
  · have h := it_pos h c1
    refine lv_aload_n hx hb dX3_takesMixed_177 rfl (lv_at hl 0 rfl) ?_
    refine h_getr O hH ly_43 rfl fl_X3_56 dX3_takesMixed_178 ?_
    refine lv_aload_n hx hb dX3_takesMixed_181 rfl (lv_at hl 0 rfl) ?_
    refine h_getr O hH ly_43 rfl fl_X3_53 dX3_takesMixed_182 ?_
    obtain ⟨y4, D2, hc3, h⟩ := bI_some h
    refine h_callVi (As := [.ref (z + 74)]) (rest := []) O hH (c_X4_takes ic_9 ic_74 hc3) ml_X3_136 ly_9 rfl rfl hl.1 rfl ⟨Nat.le_of_ble_eq_true rfl, Nat.le_of_ble_eq_true rfl⟩ (Nat.le_of_ble_eq_true rfl) dX3_takesMixed_185 (fun H locs hH => ?_)
    obtain ⟨g5, h⟩ := gd_some h
    obtain ⟨rfl, rfl⟩ := ret_i h
    exact h_zret O hr hlk (zbB_ok g5) hH dX3_takesMixed_188
  · have h := it_neg h c1
    refine lv_aload_n hx hb dX3_takesMixed_142 rfl (lv_at hl 0 rfl) ?_
    refine h_getr O hH ly_43 rfl fl_X3_56 dX3_takesMixed_143 ?_
    refine lv_aload_n hx hb dX3_takesMixed_146 rfl (lv_at hl 0 rfl) ?_
    refine h_getr O hH ly_43 rfl fl_X3_53 dX3_takesMixed_147 ?_
    refine lv_aload_n hx hb dX3_takesMixed_150 rfl (lv_at hl 0 rfl) ?_
    refine h_getr O hH ly_43 rfl fl_X3_36 dX3_takesMixed_151 ?_
    refine h_getr O hH ly_60 rfl fl_X3_214 dX3_takesMixed_154 ?_
    refine lv_iload_n hx hb dX3_takesMixed_157 rfl (lv_at hl 1 rfl) ?_
    obtain ⟨g6, h⟩ := gd_some h
    refine h_iald O hH ly_61 g6 dX3_takesMixed_158 ?_
    refine lv_aload_n hx hb dX3_takesMixed_159 rfl (lv_at hl 0 rfl) ?_
    refine h_getr O hH ly_43 rfl fl_X3_36 dX3_takesMixed_160 ?_
    refine h_getr O hH ly_60 rfl fl_X3_219 dX3_takesMixed_163 ?_
    refine lv_iload_n hx hb dX3_takesMixed_166 rfl (lv_at hl 1 rfl) ?_
    obtain ⟨g7, h⟩ := gd_some h
    refine h_iald O hH ly_62 g7 dX3_takesMixed_167 ?_
    obtain ⟨D8, hc9, h⟩ := bV_some h
    refine h_callVv (As := [.ref (z + 74), .int (D 61 (Int32.toNatClampNeg x3)), .int (D 62 (Int32.toNatClampNeg x3))]) (rest := []) O hH (c_X4_advance ic_9 ic_74 hc9) ml_X3_254 ly_9 rfl rfl hl.1 rfl ⟨Nat.le_of_ble_eq_true rfl, Nat.le_of_ble_eq_true rfl⟩ (Nat.le_of_ble_eq_true rfl) dX3_takesMixed_168 (fun H locs hH => ?_)
    obtain ⟨y10, e11, h⟩ := lt_some h
    refine lv_iinc (v := y10) (lv' := [(3, .int y10), (0, .ref (z + 43))]) hx hb dX3_takesMixed_171 hl (k := 1) rfl (by rw [e11]; rfl) (by decide) rfl (fun ls hl => ?_)
    refine lv_goto (tgt := 131) hx hb dX3_takesMixed_174 (by decide) ?_
    exact hk131 _ _ h _ _ _ hH (lv_sub hl [1, 0] rfl)
set_option maxHeartbeats 4000000 in
theorem w_X3_takesMixed_131 {G : va_G} {tA : Nat → ClassId} {z : Nat} {E : Ex} {p : Program} {l : Launch} {e : Env} {s : State} {m : MethodId} {args : Array Value} {below : List Frame} {meth : Method} {c : Code} {r : Int32} {D' : Dm} (O : Ok G tA z E cX3_takesMixed RX3 6 p s m args c) (hr : meth.sig.returnType = some .boolean) (hlk : meth.locks = false) : ∀ (n : Nat) (x3 : Int32) (D : Dm) (h : f_X3_takesMixed_131 n x3 D = some (r, D')), BI G tA z E p l e (rmC 4 0 0) s m args below meth c LAY D r D' 6 131 [(0, .ref (z + 43)), (3, .int x3)] [] := by
  intro n
  induction n with
  | zero => intro x3 D h; exact no_some h
  | succ n ih => intro x3 D h; exact w_X3_takesMixed_131_b O hr hlk (fun x3 D h => ih x3 D h) x3 D h
set_option maxHeartbeats 4000000 in
theorem w_X3_takesMixed_120 {G : va_G} {tA : Nat → ClassId} {z : Nat} {E : Ex} {p : Program} {l : Launch} {e : Env} {s : State} {m : MethodId} {args : Array Value} {below : List Frame} {meth : Method} {c : Code} {r : Int32} {D' : Dm} (O : Ok G tA z E cX3_takesMixed RX3 6 p s m args c) (hr : meth.sig.returnType = some .boolean) (hlk : meth.locks = false) {k37 : Int32 → Int32 → Int32 → Dm → Option (Int32 × Dm)} (hk37 : ∀ (x1 : Int32) (x2 : Int32) (x3 : Int32) (D : Dm), k37 x1 x2 x3 D = some (r, D') → BI G tA z E p l e (rmC 4 0 0) s m args below meth c LAY D r D' 6 37 [(0, .ref (z + 43)), (1, .int x1), (2, .int x2), (3, .int x3)] []) (x1 : Int32) (x2 : Int32) (x3 : Int32) (xs0 : Int32) (xs1 : Int32) (D : Dm) (h : f_X3_takesMixed_120 k37 x1 x2 x3 xs0 xs1 D = some (r, D')) : BI G tA z E p l e (rmC 4 0 0) s m args below meth c LAY D r D' 6 120 [(0, .ref (z + 43)), (1, .int x1), (2, .int x2), (3, .int x3)] [.int xs0, .int xs1, .ref (z + 74), .ref (z + 9)] := by
  obtain ⟨hx, hb, -, hown, hts, -⟩ := id O
  unfold f_X3_takesMixed_120 at h
  intro H locs ls hH hl
  obtain ⟨D1, hc2, h⟩ := bV_some h
  refine h_callVv (As := [.ref (z + 74), .int xs1, .int xs0]) (rest := []) O hH (c_X4_advance ic_9 ic_74 hc2) ml_X3_254 ly_9 rfl rfl hl.1 rfl ⟨Nat.le_of_ble_eq_true rfl, Nat.le_of_ble_eq_true rfl⟩ (Nat.le_of_ble_eq_true rfl) dX3_takesMixed_120 (fun H locs hH => ?_)
  obtain ⟨y3, e4, h⟩ := lt_some h
  refine lv_iinc (v := y3) (lv' := [(3, .int y3), (0, .ref (z + 43)), (1, .int x1), (2, .int x2)]) hx hb dX3_takesMixed_123 hl (k := 3) rfl (by rw [e4]; rfl) (by decide) rfl (fun ls hl => ?_)
  refine lv_goto (tgt := 37) hx hb dX3_takesMixed_126 (by decide) ?_
  exact hk37 _ _ _ _ h _ _ _ hH (lv_sub hl [1, 2, 3, 0] rfl)
set_option maxHeartbeats 4000000 in
theorem w_X3_takesMixed_37_b {G : va_G} {tA : Nat → ClassId} {z : Nat} {E : Ex} {p : Program} {l : Launch} {e : Env} {s : State} {m : MethodId} {args : Array Value} {below : List Frame} {meth : Method} {c : Code} {r : Int32} {D' : Dm} (O : Ok G tA z E cX3_takesMixed RX3 6 p s m args c) (hr : meth.sig.returnType = some .boolean) (hlk : meth.locks = false) {k37 : Int32 → Int32 → Int32 → Dm → Option (Int32 × Dm)} (hk37 : ∀ (x1 : Int32) (x2 : Int32) (x3 : Int32) (D : Dm), k37 x1 x2 x3 D = some (r, D') → BI G tA z E p l e (rmC 4 0 0) s m args below meth c LAY D r D' 6 37 [(0, .ref (z + 43)), (1, .int x1), (2, .int x2), (3, .int x3)] []) (x1 : Int32) (x2 : Int32) (x3 : Int32) (D : Dm) (h : f_X3_takesMixed_37_b k37 x1 x2 x3 D = some (r, D')) : BI G tA z E p l e (rmC 4 0 0) s m args below meth c LAY D r D' 6 37 [(0, .ref (z + 43)), (1, .int x1), (2, .int x2), (3, .int x3)] [] := by
  obtain ⟨hx, hb, -, hown, hts, -⟩ := id O
  unfold f_X3_takesMixed_37_b at h
  intro H locs ls hH hl
  refine lv_iload_n hx hb dX3_takesMixed_37 rfl (lv_at hl 3 rfl) ?_
  refine lv_aload_n hx hb dX3_takesMixed_38 rfl (lv_at hl 0 rfl) ?_
  refine h_getr O hH ly_43 rfl fl_X3_11 dX3_takesMixed_39 ?_
  refine lv_iload_n hx hb dX3_takesMixed_42 rfl (lv_at hl 2 rfl) ?_
  obtain ⟨g1, h⟩ := gd_some h
  refine h_aald O hH ly_44 rfl g1 (ar_44_r g1) dX3_takesMixed_43 ?_
  refine h_geti O hH (ar_44_c g1).1 rfl fl_X3_162 dX3_takesMixed_44 ?_
  refine lv_icmp_ge (tgt := 129) hx hb dX3_takesMixed_47 (by decide) (fun c2 => ?_) (fun c2 => ?_)
  · have h := it_pos h c2
    refine lv_iload_n hx hb dX3_takesMixed_129 rfl (lv_at hl 1 rfl) ?_
    refine lv_istore_n (lv' := [(3, .int x1), (0, .ref (z + 43)), (1, .int x1), (2, .int x2)]) hx hb dX3_takesMixed_130 rfl hl (by decide) rfl (fun ls hl => ?_)
    exact w_X3_takesMixed_131 O hr hlk FU _ _ h _ _ _ hH (lv_sub hl [1, 0] rfl)
  · have h := it_neg h c2
    refine lv_aload_n hx hb dX3_takesMixed_50 rfl (lv_at hl 0 rfl) ?_
    refine h_getr O hH ly_43 rfl fl_X3_11 dX3_takesMixed_51 ?_
    refine lv_iload_n hx hb dX3_takesMixed_54 rfl (lv_at hl 2 rfl) ?_
    obtain ⟨g3, h⟩ := gd_some h
    refine h_aald O hH ly_44 rfl g3 (ar_44_r g3) dX3_takesMixed_55 ?_
    refine h_getr O hH (ar_44_c g3).1 rfl fl_X3_219 dX3_takesMixed_56 ?_
    refine lv_iload_n hx hb dX3_takesMixed_59 rfl (lv_at hl 3 rfl) ?_
    obtain ⟨g4, h⟩ := gd_some h
    refine h_iald O hH (ar_44_c g3).2.2.1 g4 dX3_takesMixed_60 ?_
    refine lv_topi (fun y5 e6 => ?_)
    have h := lt_at e6 h
    refine lv_istore (lv' := [(4, .int y5), (0, .ref (z + 43)), (1, .int x1), (2, .int x2), (3, .int x3)]) hx hb dX3_takesMixed_61 hl (by decide) rfl (fun ls hl => ?_)
    refine lv_aload_n hx hb dX3_takesMixed_63 rfl (lv_at hl 1 rfl) ?_
    refine h_getr O hH ly_43 rfl fl_X3_19 dX3_takesMixed_64 ?_
    refine lv_iload_n hx hb dX3_takesMixed_67 rfl (lv_at hl 3 rfl) ?_
    obtain ⟨g7, h⟩ := gd_some h
    refine h_aald O hH ly_45 rfl g7 (ar_45_r g7) dX3_takesMixed_68 ?_
    refine lv_iload hx hb dX3_takesMixed_69 (lv_at hl 0 rfl) ?_
    obtain ⟨y10, D8, hc9, h⟩ := bI_some h
    refine h_callVi (As := [.int y5]) (rest := []) O hH (c_X6_placeOf (ar_45_c g7) hc9) ml_X3_203 (ar_45_c g7).1 rfl rfl hl.1 rfl ⟨Nat.le_of_ble_eq_true rfl, Nat.le_of_ble_eq_true rfl⟩ (Nat.le_of_ble_eq_true rfl) dX3_takesMixed_71 (fun H locs hH => ?_)
    refine lv_istore (lv' := [(5, .int y10), (4, .int y5), (0, .ref (z + 43)), (1, .int x1), (2, .int x2), (3, .int x3)]) hx hb dX3_takesMixed_74 hl (by decide) rfl (fun ls hl => ?_)
    refine lv_aload_n hx hb dX3_takesMixed_76 rfl (lv_at hl 2 rfl) ?_
    refine h_getr O hH ly_43 rfl fl_X3_56 dX3_takesMixed_77 ?_
    refine lv_aload_n hx hb dX3_takesMixed_80 rfl (lv_at hl 2 rfl) ?_
    refine h_getr O hH ly_43 rfl fl_X3_53 dX3_takesMixed_81 ?_
    refine lv_aload_n hx hb dX3_takesMixed_84 rfl (lv_at hl 2 rfl) ?_
    refine h_getr O hH ly_43 rfl fl_X3_11 dX3_takesMixed_85 ?_
    refine lv_iload_n hx hb dX3_takesMixed_88 rfl (lv_at hl 4 rfl) ?_
    obtain ⟨g11, h⟩ := gd_some h
    refine h_aald O hH ly_44 rfl g11 (ar_44_r g11) dX3_takesMixed_89 ?_
    refine h_getr O hH (ar_44_c g11).1 rfl fl_X3_214 dX3_takesMixed_90 ?_
    refine lv_iload_n hx hb dX3_takesMixed_93 rfl (lv_at hl 5 rfl) ?_
    obtain ⟨g12, h⟩ := gd_some h
    refine h_iald O hH (ar_44_c g11).2.1 g12 dX3_takesMixed_94 ?_
    refine lv_iload hx hb dX3_takesMixed_95 (lv_at hl 0 rfl) ?_
    refine lv_iconst (v := (-1)) hx hb dX3_takesMixed_97 (by decide) ?_
    refine lv_icmp_ne (tgt := 110) hx hb dX3_takesMixed_98 (by decide) (fun c13 => ?_) (fun c13 => ?_)
    · have h := it_neg h c13
      refine lv_aload_n hx hb dX3_takesMixed_110 rfl (lv_at hl 2 rfl) ?_
      refine h_getr O hH ly_43 rfl fl_X3_49 dX3_takesMixed_111 ?_
      refine h_getr O hH ly_72 rfl fl_X3_253 dX3_takesMixed_114 ?_
      refine lv_iload hx hb dX3_takesMixed_117 (lv_at hl 0 rfl) ?_
      obtain ⟨g14, h⟩ := gd_some h
      refine h_iald O hH ly_73 g14 dX3_takesMixed_119 ?_
      exact w_X3_takesMixed_120 O hr hlk hk37 _ _ _ _ _ _ h _ _ _ hH (lv_sub hl [2, 3, 4, 5] rfl)
    · have h := it_pos h c13
      refine lv_sipush (v := 1000) hx hb dX3_takesMixed_101 (by decide) ?_
      refine lv_iload hx hb dX3_takesMixed_104 (lv_at hl 1 rfl) ?_
      refine lv_iadd hx hb dX3_takesMixed_106 ?_
      refine lv_goto (tgt := 120) hx hb dX3_takesMixed_107 (by decide) ?_
      exact w_X3_takesMixed_120 O hr hlk hk37 _ _ _ _ _ _ h _ _ _ hH (lv_sub hl [2, 3, 4, 5] rfl)
set_option maxHeartbeats 4000000 in
theorem w_X3_takesMixed_37 {G : va_G} {tA : Nat → ClassId} {z : Nat} {E : Ex} {p : Program} {l : Launch} {e : Env} {s : State} {m : MethodId} {args : Array Value} {below : List Frame} {meth : Method} {c : Code} {r : Int32} {D' : Dm} (O : Ok G tA z E cX3_takesMixed RX3 6 p s m args c) (hr : meth.sig.returnType = some .boolean) (hlk : meth.locks = false) : ∀ (n : Nat) (x1 : Int32) (x2 : Int32) (x3 : Int32) (D : Dm) (h : f_X3_takesMixed_37 n x1 x2 x3 D = some (r, D')), BI G tA z E p l e (rmC 4 0 0) s m args below meth c LAY D r D' 6 37 [(0, .ref (z + 43)), (1, .int x1), (2, .int x2), (3, .int x3)] [] := by
  intro n
  induction n with
  | zero => intro x1 x2 x3 D h; exact no_some h
  | succ n ih => intro x1 x2 x3 D h; exact w_X3_takesMixed_37_b O hr hlk (fun x1 x2 x3 D h => ih x1 x2 x3 D h) x1 x2 x3 D h
set_option maxHeartbeats 4000000 in
theorem w_X3_takesMixed {G : va_G} {tA : Nat → ClassId} {z : Nat} {E : Ex} {p : Program} {l : Launch} {e : Env} {s : State} {m : MethodId} {args : Array Value} {below : List Frame} {meth : Method} {c : Code} {r : Int32} {D' : Dm} (O : Ok G tA z E cX3_takesMixed RX3 6 p s m args c) (hr : meth.sig.returnType = some .boolean) (hlk : meth.locks = false) (x1 : Int32) (D : Dm) (h : f_X3_takesMixed x1 D = some (r, D')) : BI G tA z E p l e (rmC 4 0 0) s m args below meth c LAY D r D' 6 0 [(0, .ref (z + 43)), (1, .int x1)] [] := by
  obtain ⟨hx, hb, -, hown, hts, -⟩ := id O
  unfold f_X3_takesMixed at h
  intro H locs ls hH hl
  refine lv_aload_n hx hb dX3_takesMixed_0 rfl (lv_at hl 0 rfl) ?_
  refine h_getr O hH ly_43 rfl fl_X3_31 dX3_takesMixed_1 ?_
  refine lv_aload_n hx hb dX3_takesMixed_4 rfl (lv_at hl 0 rfl) ?_
  refine h_getr O hH ly_43 rfl fl_X3_49 dX3_takesMixed_5 ?_
  refine lv_aload_n hx hb dX3_takesMixed_8 rfl (lv_at hl 0 rfl) ?_
  refine h_getr O hH ly_43 rfl fl_X3_36 dX3_takesMixed_9 ?_
  refine lv_iload_n hx hb dX3_takesMixed_12 rfl (lv_at hl 1 rfl) ?_
  obtain ⟨D1, hc2, h⟩ := bV_some h
  refine h_callUv (As := [.ref (z + 72), .ref (z + 60), .int x1]) (rest := []) O hH (c_X9_walk_h ic_72 ic_60 hc2) mu_X3_243_2 ly_56 rfl rfl hl.1 rfl ⟨Nat.le_of_ble_eq_true rfl, Nat.le_of_ble_eq_true rfl⟩ (Nat.le_of_ble_eq_true rfl) dX3_takesMixed_13 (fun H locs hH => ?_)
  refine lv_aload_n hx hb dX3_takesMixed_16 rfl (lv_at hl 0 rfl) ?_
  refine h_getr O hH ly_43 rfl fl_X3_49 dX3_takesMixed_17 ?_
  refine h_geti O hH ly_72 rfl fl_X3_247 dX3_takesMixed_20 ?_
  refine lv_iconst (v := 0) hx hb dX3_takesMixed_23 (by decide) ?_
  refine h_max O hl.1 ww_1021 (Nat.le_of_ble_eq_true rfl) (Nat.le_of_ble_eq_true rfl) dX3_takesMixed_24 ?_
  refine lv_topi (fun y3 e4 => ?_)
  have h := lt_at e4 h
  refine lv_istore_n (lv' := [(2, .int y3), (0, .ref (z + 43)), (1, .int x1)]) hx hb dX3_takesMixed_27 rfl hl (by decide) rfl (fun ls hl => ?_)
  refine lv_aload_n hx hb dX3_takesMixed_28 rfl (lv_at hl 1 rfl) ?_
  refine h_getr O hH ly_43 rfl fl_X3_53 dX3_takesMixed_29 ?_
  obtain ⟨D5, hc6, h⟩ := bV_some h
  refine h_callVv (As := []) (rest := []) O hH (c_X1_start ic_74 hc6) ml_X3_250 ly_74 rfl rfl hl.1 rfl ⟨Nat.le_of_ble_eq_true rfl, Nat.le_of_ble_eq_true rfl⟩ (Nat.le_of_ble_eq_true rfl) dX3_takesMixed_32 (fun H locs hH => ?_)
  refine lv_iconst (v := 0) hx hb dX3_takesMixed_35 (by decide) ?_
  refine lv_istore_n (lv' := [(3, .int 0), (2, .int y3), (0, .ref (z + 43)), (1, .int x1)]) hx hb dX3_takesMixed_36 rfl hl (by decide) rfl (fun ls hl => ?_)
  exact w_X3_takesMixed_37 O hr hlk FU _ _ _ _ h _ _ _ hH (lv_sub hl [2, 3, 1, 0] rfl)
set_option maxHeartbeats 4000000 in
theorem c_X3_takesMixed {l : Launch} {G : va_G} {tA : Nat → ClassId} {z : Nat} {E : Ex} {x1 : Int32} {D D' : Dm} {r : Int32} (h : f_X3_takesMixed x1 D = some (r, D')) : CtI l yX3_takesMixed cX3_takesMixed 6 (some .boolean) G tA z E 4 0 0 [.ref (z + 43), .int x1] LAY D r LAY D' :=
  ct_BI (by decide +kernel) (Nat.le_of_ble_eq_true rfl) (fun _ _ _ _ _ _ _ _ O hr hlk => w_X3_takesMixed O hr hlk _ _ h)
set_option maxHeartbeats 4000000 in
theorem w_X3_tryHypothesis_140_b {G : va_G} {tA : Nat → ClassId} {z : Nat} {E : Ex} {p : Program} {l : Launch} {e : Env} {s : State} {m : MethodId} {args : Array Value} {below : List Frame} {meth : Method} {c : Code} {D' : Dm} (O : Ok G tA z E cX3_tryHypothesis RX3 3 p s m args c) (hr : meth.sig.returnType = none) (hlk : meth.locks = false) {k140 : Int32 → Dm → Option Dm} (hk140 : ∀ (x2 : Int32) (D : Dm), k140 x2 D = some D' → BV G tA z E p l e (rmC 5 0 0) s m args below meth c LAY D D' 3 140 [(0, .ref (z + 43)), (2, .int x2)] []) (x2 : Int32) (D : Dm) (h : f_X3_tryHypothesis_140_b k140 x2 D = some D') : BV G tA z E p l e (rmC 5 0 0) s m args below meth c LAY D D' 3 140 [(0, .ref (z + 43)), (2, .int x2)] [] := by
  obtain ⟨hx, hb, -, hown, hts, -⟩ := id O
  unfold f_X3_tryHypothesis_140_b at h
  intro H locs ls hH hl
  refine lv_iload_n hx hb dX3_tryHypothesis_140 rfl (lv_at hl 1 rfl) ?_
  refine lv_aload_n hx hb dX3_tryHypothesis_141 rfl (lv_at hl 0 rfl) ?_
  refine h_getr O hH ly_43 rfl fl_X3_36 dX3_tryHypothesis_142 ?_
  refine h_geti O hH ly_60 rfl fl_X3_162 dX3_tryHypothesis_145 ?_
  refine lv_icmp_ge (tgt := 182) hx hb dX3_tryHypothesis_148 (by decide) (fun c1 => ?_) (fun c1 => ?_)
  · have h := it_pos h c1
    obtain rfl := ret_v h
    exact h_vret O hr hlk hH dX3_tryHypothesis_182
  · have h := it_neg h c1
    refine lv_aload_n hx hb dX3_tryHypothesis_151 rfl (lv_at hl 0 rfl) ?_
    refine h_getr O hH ly_43 rfl fl_X3_43 dX3_tryHypothesis_152 ?_
    refine lv_aload_n hx hb dX3_tryHypothesis_155 rfl (lv_at hl 0 rfl) ?_
    refine h_getr O hH ly_43 rfl fl_X3_36 dX3_tryHypothesis_156 ?_
    refine h_getr O hH ly_60 rfl fl_X3_214 dX3_tryHypothesis_159 ?_
    refine lv_iload_n hx hb dX3_tryHypothesis_162 rfl (lv_at hl 1 rfl) ?_
    obtain ⟨g2, h⟩ := gd_some h
    refine h_iald O hH ly_61 g2 dX3_tryHypothesis_163 ?_
    refine lv_aload_n hx hb dX3_tryHypothesis_164 rfl (lv_at hl 0 rfl) ?_
    refine h_getr O hH ly_43 rfl fl_X3_36 dX3_tryHypothesis_165 ?_
    refine h_getr O hH ly_60 rfl fl_X3_219 dX3_tryHypothesis_168 ?_
    refine lv_iload_n hx hb dX3_tryHypothesis_171 rfl (lv_at hl 1 rfl) ?_
    obtain ⟨g3, h⟩ := gd_some h
    refine h_iald O hH ly_62 g3 dX3_tryHypothesis_172 ?_
    obtain ⟨D4, hc5, h⟩ := bV_some h
    refine h_callVv (As := [.int (D 61 (Int32.toNatClampNeg x2)), .int (D 62 (Int32.toNatClampNeg x2))]) (rest := []) O hH (c_X10_add ic_68 hc5) ml_X3_104 ly_68 rfl rfl hl.1 rfl ⟨Nat.le_of_ble_eq_true rfl, Nat.le_of_ble_eq_true rfl⟩ (Nat.le_of_ble_eq_true rfl) dX3_tryHypothesis_173 (fun H locs hH => ?_)
    obtain ⟨y6, e7, h⟩ := lt_some h
    refine lv_iinc (v := y6) (lv' := [(2, .int y6), (0, .ref (z + 43))]) hx hb dX3_tryHypothesis_176 hl (k := 1) rfl (by rw [e7]; rfl) (by decide) rfl (fun ls hl => ?_)
    refine lv_goto (tgt := 140) hx hb dX3_tryHypothesis_179 (by decide) ?_
    exact hk140 _ _ h _ _ _ hH (lv_sub hl [1, 0] rfl)
set_option maxHeartbeats 4000000 in
theorem w_X3_tryHypothesis_140 {G : va_G} {tA : Nat → ClassId} {z : Nat} {E : Ex} {p : Program} {l : Launch} {e : Env} {s : State} {m : MethodId} {args : Array Value} {below : List Frame} {meth : Method} {c : Code} {D' : Dm} (O : Ok G tA z E cX3_tryHypothesis RX3 3 p s m args c) (hr : meth.sig.returnType = none) (hlk : meth.locks = false) : ∀ (n : Nat) (x2 : Int32) (D : Dm) (h : f_X3_tryHypothesis_140 n x2 D = some D'), BV G tA z E p l e (rmC 5 0 0) s m args below meth c LAY D D' 3 140 [(0, .ref (z + 43)), (2, .int x2)] [] := by
  intro n
  induction n with
  | zero => intro x2 D h; exact no_some h
  | succ n ih => intro x2 D h; exact w_X3_tryHypothesis_140_b O hr hlk (fun x2 D h => ih x2 D h) x2 D h
set_option maxHeartbeats 4000000 in
theorem w_X3_tryHypothesis_126 {G : va_G} {tA : Nat → ClassId} {z : Nat} {E : Ex} {p : Program} {l : Launch} {e : Env} {s : State} {m : MethodId} {args : Array Value} {below : List Frame} {meth : Method} {c : Code} {D' : Dm} (O : Ok G tA z E cX3_tryHypothesis RX3 3 p s m args c) (hr : meth.sig.returnType = none) (hlk : meth.locks = false)  (D : Dm) (h : f_X3_tryHypothesis_126  D = some D') : BV G tA z E p l e (rmC 5 0 0) s m args below meth c LAY D D' 3 126 [(0, .ref (z + 43))] [] := by
  obtain ⟨hx, hb, -, hown, hts, -⟩ := id O
  unfold f_X3_tryHypothesis_126 at h
  intro H locs ls hH hl
  refine lv_aload_n hx hb dX3_tryHypothesis_126 rfl (lv_at hl 0 rfl) ?_
  refine h_getr O hH ly_43 rfl fl_X3_43 dX3_tryHypothesis_127 ?_
  obtain ⟨D1, hc2, h⟩ := bV_some h
  refine h_callVv (As := []) (rest := []) O hH (c_X10_clear ic_68 hc2) ml_X3_213 ly_68 rfl rfl hl.1 rfl ⟨Nat.le_of_ble_eq_true rfl, Nat.le_of_ble_eq_true rfl⟩ (Nat.le_of_ble_eq_true rfl) dX3_tryHypothesis_130 (fun H locs hH => ?_)
  refine lv_aload_n hx hb dX3_tryHypothesis_133 rfl (lv_at hl 0 rfl) ?_
  refine h_geti O hH ly_43 rfl fl_X3_146 dX3_tryHypothesis_134 ?_
  refine lv_iconst (v := 1) hx hb dX3_tryHypothesis_137 (by decide) ?_
  refine lv_iadd hx hb dX3_tryHypothesis_138 ?_
  refine lv_topi (fun y3 e4 => ?_)
  have h := lt_at e4 h
  refine lv_istore_n (lv' := [(2, .int y3), (0, .ref (z + 43))]) hx hb dX3_tryHypothesis_139 rfl hl (by decide) rfl (fun ls hl => ?_)
  exact w_X3_tryHypothesis_140 O hr hlk FU _ _ h _ _ _ hH (lv_sub hl [1, 0] rfl)
set_option maxHeartbeats 4000000 in
theorem w_X3_tryHypothesis_120 {G : va_G} {tA : Nat → ClassId} {z : Nat} {E : Ex} {p : Program} {l : Launch} {e : Env} {s : State} {m : MethodId} {args : Array Value} {below : List Frame} {meth : Method} {c : Code} {D' : Dm} (O : Ok G tA z E cX3_tryHypothesis RX3 3 p s m args c) (hr : meth.sig.returnType = none) (hlk : meth.locks = false) {k85 : Int32 → Int32 → Dm → Option Dm} (hk85 : ∀ (x1 : Int32) (x2 : Int32) (D : Dm), k85 x1 x2 D = some D' → BV G tA z E p l e (rmC 5 0 0) s m args below meth c LAY D D' 3 85 [(0, .ref (z + 43)), (1, .int x1), (2, .int x2)] []) (x1 : Int32) (x2 : Int32) (D : Dm) (h : f_X3_tryHypothesis_120 k85 x1 x2 D = some D') : BV G tA z E p l e (rmC 5 0 0) s m args below meth c LAY D D' 3 120 [(0, .ref (z + 43)), (1, .int x1), (2, .int x2)] [] := by
  obtain ⟨hx, hb, -, hown, hts, -⟩ := id O
  unfold f_X3_tryHypothesis_120 at h
  intro H locs ls hH hl
  obtain ⟨y1, e2, h⟩ := lt_some h
  refine lv_iinc (v := y1) (lv' := [(2, .int y1), (0, .ref (z + 43)), (1, .int x1)]) hx hb dX3_tryHypothesis_120 hl (k := 2) rfl (by rw [e2]; rfl) (by decide) rfl (fun ls hl => ?_)
  refine lv_goto (tgt := 85) hx hb dX3_tryHypothesis_123 (by decide) ?_
  exact hk85 _ _ _ h _ _ _ hH (lv_sub hl [1, 2, 0] rfl)
set_option maxHeartbeats 4000000 in
theorem w_X3_tryHypothesis_85_b {G : va_G} {tA : Nat → ClassId} {z : Nat} {E : Ex} {p : Program} {l : Launch} {e : Env} {s : State} {m : MethodId} {args : Array Value} {below : List Frame} {meth : Method} {c : Code} {D' : Dm} (O : Ok G tA z E cX3_tryHypothesis RX3 3 p s m args c) (hr : meth.sig.returnType = none) (hlk : meth.locks = false) {k85 : Int32 → Int32 → Dm → Option Dm} (hk85 : ∀ (x1 : Int32) (x2 : Int32) (D : Dm), k85 x1 x2 D = some D' → BV G tA z E p l e (rmC 5 0 0) s m args below meth c LAY D D' 3 85 [(0, .ref (z + 43)), (1, .int x1), (2, .int x2)] []) (x1 : Int32) (x2 : Int32) (D : Dm) (h : f_X3_tryHypothesis_85_b k85 x1 x2 D = some D') : BV G tA z E p l e (rmC 5 0 0) s m args below meth c LAY D D' 3 85 [(0, .ref (z + 43)), (1, .int x1), (2, .int x2)] [] := by
  obtain ⟨hx, hb, -, hown, hts, -⟩ := id O
  unfold f_X3_tryHypothesis_85_b at h
  intro H locs ls hH hl
  refine lv_iload_n hx hb dX3_tryHypothesis_85 rfl (lv_at hl 2 rfl) ?_
  refine lv_aload_n hx hb dX3_tryHypothesis_86 rfl (lv_at hl 0 rfl) ?_
  refine h_getr O hH ly_43 rfl fl_X3_36 dX3_tryHypothesis_87 ?_
  refine h_geti O hH ly_60 rfl fl_X3_162 dX3_tryHypothesis_90 ?_
  refine lv_icmp_ge (tgt := 126) hx hb dX3_tryHypothesis_93 (by decide) (fun c1 => ?_) (fun c1 => ?_)
  · have h := it_pos h c1
    exact w_X3_tryHypothesis_126 O hr hlk _ h _ _ _ hH (lv_sub hl [0] rfl)
  · have h := it_neg h c1
    refine lv_aload_n hx hb dX3_tryHypothesis_96 rfl (lv_at hl 0 rfl) ?_
    refine h_geti O hH ly_43 rfl fl_X3_146 dX3_tryHypothesis_97 ?_
    refine lv_iconst (v := (-1)) hx hb dX3_tryHypothesis_100 (by decide) ?_
    refine lv_icmp_ne (tgt := 126) hx hb dX3_tryHypothesis_101 (by decide) (fun c2 => ?_) (fun c2 => ?_)
    · have h := it_neg h c2
      exact w_X3_tryHypothesis_126 O hr hlk _ h _ _ _ hH (lv_sub hl [0] rfl)
    · have h := it_pos h c2
      refine lv_aload_n hx hb dX3_tryHypothesis_104 rfl (lv_at hl 0 rfl) ?_
      refine lv_iload_n hx hb dX3_tryHypothesis_105 rfl (lv_at hl 2 rfl) ?_
      refine lv_iconst (v := 1) hx hb dX3_tryHypothesis_106 (by decide) ?_
      refine lv_iadd hx hb dX3_tryHypothesis_107 ?_
      obtain ⟨y5, D3, hc4, h⟩ := bI_some h
      refine h_callVi (As := [.int (x2 + 1)]) (rest := []) O hH (c_X3_takesMixed hc4) ml_X3_239 ly_43 rfl rfl hl.1 rfl ⟨Nat.le_of_ble_eq_true rfl, Nat.le_of_ble_eq_true rfl⟩ (Nat.le_of_ble_eq_true rfl) dX3_tryHypothesis_108 (fun H locs hH => ?_)
      refine lv_iload_n hx hb dX3_tryHypothesis_111 rfl (lv_at hl 1 rfl) ?_
      refine lv_icmp_eq (tgt := 120) hx hb dX3_tryHypothesis_112 (by decide) (fun c6 => ?_) (fun c6 => ?_)
      · have h := it_pos h c6
        exact w_X3_tryHypothesis_120 O hr hlk hk85 _ _ _ h _ _ _ hH (lv_sub hl [0, 1, 2] rfl)
      · have h := it_neg h c6
        refine lv_aload_n hx hb dX3_tryHypothesis_115 rfl (lv_at hl 0 rfl) ?_
        refine lv_iload_n hx hb dX3_tryHypothesis_116 rfl (lv_at hl 2 rfl) ?_
        obtain ⟨D7, e8, h⟩ := lt_some h
        refine h_puti O hH ly_43 rfl fl_X3_146 e8 dX3_tryHypothesis_117 (fun H locs hH => ?_)
        exact w_X3_tryHypothesis_120 O hr hlk hk85 _ _ _ h _ _ _ hH (lv_sub hl [0, 1, 2] rfl)
set_option maxHeartbeats 4000000 in
theorem w_X3_tryHypothesis_85 {G : va_G} {tA : Nat → ClassId} {z : Nat} {E : Ex} {p : Program} {l : Launch} {e : Env} {s : State} {m : MethodId} {args : Array Value} {below : List Frame} {meth : Method} {c : Code} {D' : Dm} (O : Ok G tA z E cX3_tryHypothesis RX3 3 p s m args c) (hr : meth.sig.returnType = none) (hlk : meth.locks = false) : ∀ (n : Nat) (x1 : Int32) (x2 : Int32) (D : Dm) (h : f_X3_tryHypothesis_85 n x1 x2 D = some D'), BV G tA z E p l e (rmC 5 0 0) s m args below meth c LAY D D' 3 85 [(0, .ref (z + 43)), (1, .int x1), (2, .int x2)] [] := by
  intro n
  induction n with
  | zero => intro x1 x2 D h; exact no_some h
  | succ n ih => intro x1 x2 D h; exact w_X3_tryHypothesis_85_b O hr hlk (fun x1 x2 D h => ih x1 x2 D h) x1 x2 D h
set_option maxHeartbeats 4000000 in
theorem w_X3_tryHypothesis_37 {G : va_G} {tA : Nat → ClassId} {z : Nat} {E : Ex} {p : Program} {l : Launch} {e : Env} {s : State} {m : MethodId} {args : Array Value} {below : List Frame} {meth : Method} {c : Code} {D' : Dm} (O : Ok G tA z E cX3_tryHypothesis RX3 3 p s m args c) (hr : meth.sig.returnType = none) (hlk : meth.locks = false) {k2 : Int32 → Dm → Option Dm} (hk2 : ∀ (x1 : Int32) (D : Dm), k2 x1 D = some D' → BV G tA z E p l e (rmC 5 0 0) s m args below meth c LAY D D' 3 2 [(0, .ref (z + 43)), (1, .int x1)] []) (x1 : Int32) (D : Dm) (h : f_X3_tryHypothesis_37 k2 x1 D = some D') : BV G tA z E p l e (rmC 5 0 0) s m args below meth c LAY D D' 3 37 [(0, .ref (z + 43)), (1, .int x1)] [] := by
  obtain ⟨hx, hb, -, hown, hts, -⟩ := id O
  unfold f_X3_tryHypothesis_37 at h
  intro H locs ls hH hl
  obtain ⟨y1, e2, h⟩ := lt_some h
  refine lv_iinc (v := y1) (lv' := [(1, .int y1), (0, .ref (z + 43))]) hx hb dX3_tryHypothesis_37 hl (k := 1) rfl (by rw [e2]; rfl) (by decide) rfl (fun ls hl => ?_)
  refine lv_goto (tgt := 2) hx hb dX3_tryHypothesis_40 (by decide) ?_
  exact hk2 _ _ h _ _ _ hH (lv_sub hl [1, 0] rfl)
set_option maxHeartbeats 4000000 in
theorem w_X3_tryHypothesis_2_b {G : va_G} {tA : Nat → ClassId} {z : Nat} {E : Ex} {p : Program} {l : Launch} {e : Env} {s : State} {m : MethodId} {args : Array Value} {below : List Frame} {meth : Method} {c : Code} {D' : Dm} (O : Ok G tA z E cX3_tryHypothesis RX3 3 p s m args c) (hr : meth.sig.returnType = none) (hlk : meth.locks = false) {k2 : Int32 → Dm → Option Dm} (hk2 : ∀ (x1 : Int32) (D : Dm), k2 x1 D = some D' → BV G tA z E p l e (rmC 5 0 0) s m args below meth c LAY D D' 3 2 [(0, .ref (z + 43)), (1, .int x1)] []) (x1 : Int32) (D : Dm) (h : f_X3_tryHypothesis_2_b k2 x1 D = some D') : BV G tA z E p l e (rmC 5 0 0) s m args below meth c LAY D D' 3 2 [(0, .ref (z + 43)), (1, .int x1)] [] := by
  obtain ⟨hx, hb, -, hown, hts, -⟩ := id O
  unfold f_X3_tryHypothesis_2_b at h
  intro H locs ls hH hl
  refine lv_iload_n hx hb dX3_tryHypothesis_2 rfl (lv_at hl 1 rfl) ?_
  refine lv_aload_n hx hb dX3_tryHypothesis_3 rfl (lv_at hl 0 rfl) ?_
  refine h_geti O hH ly_43 rfl fl_X3_76 dX3_tryHypothesis_4 ?_
  refine lv_icmp_ge (tgt := 43) hx hb dX3_tryHypothesis_7 (by decide) (fun c1 => ?_) (fun c1 => ?_)
  · have h := it_pos h c1
    refine lv_aload_n hx hb dX3_tryHypothesis_43 rfl (lv_at hl 0 rfl) ?_
    refine h_getr O hH ly_43 rfl fl_X3_60 dX3_tryHypothesis_44 ?_
    refine lv_aload_n hx hb dX3_tryHypothesis_47 rfl (lv_at hl 0 rfl) ?_
    refine h_getr O hH ly_43 rfl fl_X3_56 dX3_tryHypothesis_48 ?_
    refine lv_aload_n hx hb dX3_tryHypothesis_51 rfl (lv_at hl 0 rfl) ?_
    refine h_getr O hH ly_43 rfl fl_X3_31 dX3_tryHypothesis_52 ?_
    refine lv_aload_n hx hb dX3_tryHypothesis_55 rfl (lv_at hl 0 rfl) ?_
    refine h_getr O hH ly_43 rfl fl_X3_56 dX3_tryHypothesis_56 ?_
    refine h_geti O hH ly_9 rfl fl_X3_128 dX3_tryHypothesis_59 ?_
    refine lv_aload_n hx hb dX3_tryHypothesis_62 rfl (lv_at hl 0 rfl) ?_
    refine h_getr O hH ly_43 rfl fl_X3_36 dX3_tryHypothesis_63 ?_
    obtain ⟨y4, D2, hc3, h⟩ := bI_some h
    refine h_callVi (As := [.ref (z + 9), .ref (z + 56), .int (D 9 2), .ref (z + 60)]) (rest := []) O hH (c_X8_find_h ic_60 hc3) ml_X3_233 ly_25 rfl rfl hl.1 rfl ⟨Nat.le_of_ble_eq_true rfl, Nat.le_of_ble_eq_true rfl⟩ (Nat.le_of_ble_eq_true rfl) dX3_tryHypothesis_66 (fun H locs hH => ?_)
    refine lv_if_eq (tgt := 182) hx hb dX3_tryHypothesis_69 (by decide) (fun c5 => ?_) (fun c5 => ?_)
    · have h := it_pos h c5
      obtain rfl := ret_v h
      exact h_vret O hr hlk hH dX3_tryHypothesis_182
    · have h := it_neg h c5
      refine lv_aload_n hx hb dX3_tryHypothesis_72 rfl (lv_at hl 0 rfl) ?_
      refine lv_iconst (v := 3) hx hb dX3_tryHypothesis_73 (by decide) ?_
      obtain ⟨D6, e7, h⟩ := lt_some h
      refine h_puti O hH ly_43 rfl fl_X3_90 e7 dX3_tryHypothesis_74 (fun H locs hH => ?_)
      refine lv_aload_n hx hb dX3_tryHypothesis_77 rfl (lv_at hl 0 rfl) ?_
      refine lv_iconst (v := 0) hx hb dX3_tryHypothesis_78 (by decide) ?_
      obtain ⟨y10, D8, hc9, h⟩ := bI_some h
      refine h_callVi (As := [.int 0]) (rest := []) O hH (c_X3_takesMixed hc9) ml_X3_239 ly_43 rfl rfl hl.1 rfl ⟨Nat.le_of_ble_eq_true rfl, Nat.le_of_ble_eq_true rfl⟩ (Nat.le_of_ble_eq_true rfl) dX3_tryHypothesis_79 (fun H locs hH => ?_)
      refine lv_istore_n (lv' := [(1, .int y10), (0, .ref (z + 43))]) hx hb dX3_tryHypothesis_82 rfl hl (by decide) rfl (fun ls hl => ?_)
      refine lv_iconst (v := 0) hx hb dX3_tryHypothesis_83 (by decide) ?_
      refine lv_istore_n (lv' := [(2, .int 0), (1, .int y10), (0, .ref (z + 43))]) hx hb dX3_tryHypothesis_84 rfl hl (by decide) rfl (fun ls hl => ?_)
      exact w_X3_tryHypothesis_85 O hr hlk FU _ _ _ h _ _ _ hH (lv_sub hl [2, 1, 0] rfl)
  · have h := it_neg h c1
    refine lv_aload_n hx hb dX3_tryHypothesis_10 rfl (lv_at hl 0 rfl) ?_
    refine h_getr O hH ly_43 rfl fl_X3_56 dX3_tryHypothesis_11 ?_
    refine lv_aload_n hx hb dX3_tryHypothesis_14 rfl (lv_at hl 0 rfl) ?_
    refine h_getr O hH ly_43 rfl fl_X3_19 dX3_tryHypothesis_15 ?_
    refine lv_iload_n hx hb dX3_tryHypothesis_18 rfl (lv_at hl 1 rfl) ?_
    obtain ⟨g11, h⟩ := gd_some h
    refine h_aald O hH ly_45 rfl g11 (ar_45_r g11) dX3_tryHypothesis_19 ?_
    refine h_getr O hH (ar_45_c g11).1 rfl fl_X3_133 dX3_tryHypothesis_20 ?_
    obtain ⟨y14, D12, hc13, h⟩ := bI_some h
    refine h_callVi (As := [.ref (z + ((ar_45 (Int32.toNatClampNeg x1)) + 1))]) (rest := []) O hH (c_X4_takes ic_9 ⟨(ar_45_c g11).2.1, (ar_45_c g11).2.2.1⟩ hc13) ml_X3_136 ly_9 rfl rfl hl.1 rfl ⟨Nat.le_of_ble_eq_true rfl, Nat.le_of_ble_eq_true rfl⟩ (Nat.le_of_ble_eq_true rfl) dX3_tryHypothesis_23 (fun H locs hH => ?_)
    refine lv_if_eq (tgt := 37) hx hb dX3_tryHypothesis_26 (by decide) (fun c15 => ?_) (fun c15 => ?_)
    · have h := it_pos h c15
      exact w_X3_tryHypothesis_37 O hr hlk hk2 _ _ h _ _ _ hH (lv_sub hl [0, 1] rfl)
    · have h := it_neg h c15
      refine lv_aload_n hx hb dX3_tryHypothesis_29 rfl (lv_at hl 0 rfl) ?_
      refine h_getr O hH ly_43 rfl fl_X3_31 dX3_tryHypothesis_30 ?_
      refine lv_iload_n hx hb dX3_tryHypothesis_33 rfl (lv_at hl 1 rfl) ?_
      obtain ⟨D16, hc17, h⟩ := bV_some h
      refine h_callVv (As := [.int x1]) (rest := []) O hH (c_X2_takeAt hc17) ml_X3_229 ly_56 rfl rfl hl.1 rfl ⟨Nat.le_of_ble_eq_true rfl, Nat.le_of_ble_eq_true rfl⟩ (Nat.le_of_ble_eq_true rfl) dX3_tryHypothesis_34 (fun H locs hH => ?_)
      exact w_X3_tryHypothesis_37 O hr hlk hk2 _ _ h _ _ _ hH (lv_sub hl [0, 1] rfl)
set_option maxHeartbeats 4000000 in
theorem w_X3_tryHypothesis_2 {G : va_G} {tA : Nat → ClassId} {z : Nat} {E : Ex} {p : Program} {l : Launch} {e : Env} {s : State} {m : MethodId} {args : Array Value} {below : List Frame} {meth : Method} {c : Code} {D' : Dm} (O : Ok G tA z E cX3_tryHypothesis RX3 3 p s m args c) (hr : meth.sig.returnType = none) (hlk : meth.locks = false) : ∀ (n : Nat) (x1 : Int32) (D : Dm) (h : f_X3_tryHypothesis_2 n x1 D = some D'), BV G tA z E p l e (rmC 5 0 0) s m args below meth c LAY D D' 3 2 [(0, .ref (z + 43)), (1, .int x1)] [] := by
  intro n
  induction n with
  | zero => intro x1 D h; exact no_some h
  | succ n ih => intro x1 D h; exact w_X3_tryHypothesis_2_b O hr hlk (fun x1 D h => ih x1 D h) x1 D h
set_option maxHeartbeats 4000000 in
theorem w_X3_tryHypothesis {G : va_G} {tA : Nat → ClassId} {z : Nat} {E : Ex} {p : Program} {l : Launch} {e : Env} {s : State} {m : MethodId} {args : Array Value} {below : List Frame} {meth : Method} {c : Code} {D' : Dm} (O : Ok G tA z E cX3_tryHypothesis RX3 3 p s m args c) (hr : meth.sig.returnType = none) (hlk : meth.locks = false)  (D : Dm) (h : f_X3_tryHypothesis  D = some D') : BV G tA z E p l e (rmC 5 0 0) s m args below meth c LAY D D' 3 0 [(0, .ref (z + 43))] [] := by
  obtain ⟨hx, hb, -, hown, hts, -⟩ := id O
  unfold f_X3_tryHypothesis at h
  intro H locs ls hH hl
  refine lv_iconst (v := 0) hx hb dX3_tryHypothesis_0 (by decide) ?_
  refine lv_istore_n (lv' := [(1, .int 0), (0, .ref (z + 43))]) hx hb dX3_tryHypothesis_1 rfl hl (by decide) rfl (fun ls hl => ?_)
  exact w_X3_tryHypothesis_2 O hr hlk FU _ _ h _ _ _ hH (lv_sub hl [1, 0] rfl)
set_option maxHeartbeats 4000000 in
theorem c_X3_tryHypothesis {l : Launch} {G : va_G} {tA : Nat → ClassId} {z : Nat} {E : Ex}  {D D' : Dm} (h : f_X3_tryHypothesis  D = some D') : CtV l yX3_tryHypothesis cX3_tryHypothesis 3 G tA z E 5 0 0 [.ref (z + 43)] LAY D LAY D' :=
  ct_BV (by decide +kernel) (Nat.le_of_ble_eq_true rfl) (fun _ _ _ _ _ _ _ _ O hr hlk => w_X3_tryHypothesis O hr hlk  _ h)
set_option maxHeartbeats 4000000 in
theorem w_X3_fits_50_b {G : va_G} {tA : Nat → ClassId} {z : Nat} {E : Ex} {p : Program} {l : Launch} {e : Env} {s : State} {m : MethodId} {args : Array Value} {below : List Frame} {meth : Method} {c : Code} {r : Int32} {D' : Dm} (O : Ok G tA z E cX3_fits RX3 2 p s m args c) (hr : meth.sig.returnType = some .boolean) (hlk : meth.locks = false) {k50 : Int32 → Dm → Option (Int32 × Dm)} (hk50 : ∀ (x1 : Int32) (D : Dm), k50 x1 D = some (r, D') → BI G tA z E p l e (rmC 2 0 0) s m args below meth c LAY D r D' 2 50 [(0, .ref (z + 43)), (1, .int x1)] []) (x1 : Int32) (D : Dm) (h : f_X3_fits_50_b k50 x1 D = some (r, D')) : BI G tA z E p l e (rmC 2 0 0) s m args below meth c LAY D r D' 2 50 [(0, .ref (z + 43)), (1, .int x1)] [] := by
  obtain ⟨hx, hb, -, hown, hts, -⟩ := id O
  unfold f_X3_fits_50_b at h
  intro H locs ls hH hl
  refine lv_iload_n hx hb dX3_fits_50 rfl (lv_at hl 1 rfl) ?_
  refine lv_aload_n hx hb dX3_fits_51 rfl (lv_at hl 0 rfl) ?_
  refine h_getr O hH ly_43 rfl fl_X3_69 dX3_fits_52 ?_
  refine h_geti O hH ly_76 rfl fl_X3_80 dX3_fits_55 ?_
  refine lv_icmp_ge (tgt := 88) hx hb dX3_fits_58 (by decide) (fun c1 => ?_) (fun c1 => ?_)
  · have h := it_pos h c1
    refine lv_aload_n hx hb dX3_fits_88 rfl (lv_at hl 0 rfl) ?_
    refine h_getr O hH ly_43 rfl fl_X3_69 dX3_fits_89 ?_
    refine h_geti O hH ly_76 rfl fl_X3_80 dX3_fits_92 ?_
    refine lv_bipush (v := 10) hx hb dX3_fits_95 (by decide) ?_
    refine lv_icmp_ge (tgt := 104) hx hb dX3_fits_97 (by decide) (fun c2 => ?_) (fun c2 => ?_)
    · have h := it_pos h c2
      refine lv_iconst (v := 0) hx hb dX3_fits_104 (by decide) ?_
      obtain ⟨rfl, rfl⟩ := ret_i h
      exact h_zret O hr hlk zb_0 hH dX3_fits_105
    · have h := it_neg h c2
      refine lv_iconst (v := 1) hx hb dX3_fits_100 (by decide) ?_
      refine lv_goto (tgt := 105) hx hb dX3_fits_101 (by decide) ?_
      obtain ⟨rfl, rfl⟩ := ret_i h
      exact h_zret O hr hlk zb_1 hH dX3_fits_105
  · have h := it_neg h c1
    refine lv_aload_n hx hb dX3_fits_61 rfl (lv_at hl 0 rfl) ?_
    refine h_getr O hH ly_43 rfl fl_X3_43 dX3_fits_62 ?_
    refine lv_aload_n hx hb dX3_fits_65 rfl (lv_at hl 0 rfl) ?_
    refine h_getr O hH ly_43 rfl fl_X3_69 dX3_fits_66 ?_
    refine h_getr O hH ly_76 rfl fl_X3_143 dX3_fits_69 ?_
    refine lv_iload_n hx hb dX3_fits_72 rfl (lv_at hl 1 rfl) ?_
    obtain ⟨g3, h⟩ := gd_some h
    refine h_aald O hH ly_77 rfl g3 (ar_77_r g3) dX3_fits_73 ?_
    obtain ⟨y6, D4, hc5, h⟩ := bI_some h
    refine h_callVi (As := [.ref (z + (ar_77 (Int32.toNatClampNeg x1)))]) (rest := []) O hH (c_X10_isLeastAs ic_68 (ar_77_c g3) hc5) ml_X3_168 ly_68 rfl rfl hl.1 rfl ⟨Nat.le_of_ble_eq_true rfl, Nat.le_of_ble_eq_true rfl⟩ (Nat.le_of_ble_eq_true rfl) dX3_fits_74 (fun H locs hH => ?_)
    refine lv_if_eq (tgt := 82) hx hb dX3_fits_77 (by decide) (fun c7 => ?_) (fun c7 => ?_)
    · have h := it_pos h c7
      obtain ⟨y8, e9, h⟩ := lt_some h
      refine lv_iinc (v := y8) (lv' := [(1, .int y8), (0, .ref (z + 43))]) hx hb dX3_fits_82 hl (k := 1) rfl (by rw [e9]; rfl) (by decide) rfl (fun ls hl => ?_)
      refine lv_goto (tgt := 50) hx hb dX3_fits_85 (by decide) ?_
      exact hk50 _ _ h _ _ _ hH (lv_sub hl [1, 0] rfl)
    · have h := it_neg h c7
      refine lv_iconst (v := 0) hx hb dX3_fits_80 (by decide) ?_
      obtain ⟨rfl, rfl⟩ := ret_i h
      exact h_zret O hr hlk zb_0 hH dX3_fits_81
set_option maxHeartbeats 4000000 in
theorem w_X3_fits_50 {G : va_G} {tA : Nat → ClassId} {z : Nat} {E : Ex} {p : Program} {l : Launch} {e : Env} {s : State} {m : MethodId} {args : Array Value} {below : List Frame} {meth : Method} {c : Code} {r : Int32} {D' : Dm} (O : Ok G tA z E cX3_fits RX3 2 p s m args c) (hr : meth.sig.returnType = some .boolean) (hlk : meth.locks = false) : ∀ (n : Nat) (x1 : Int32) (D : Dm) (h : f_X3_fits_50 n x1 D = some (r, D')), BI G tA z E p l e (rmC 2 0 0) s m args below meth c LAY D r D' 2 50 [(0, .ref (z + 43)), (1, .int x1)] [] := by
  intro n
  induction n with
  | zero => intro x1 D h; exact no_some h
  | succ n ih => intro x1 D h; exact w_X3_fits_50_b O hr hlk (fun x1 D h => ih x1 D h) x1 D h
set_option maxHeartbeats 4000000 in
theorem w_X3_fits {G : va_G} {tA : Nat → ClassId} {z : Nat} {E : Ex} {p : Program} {l : Launch} {e : Env} {s : State} {m : MethodId} {args : Array Value} {below : List Frame} {meth : Method} {c : Code} {r : Int32} {D' : Dm} (O : Ok G tA z E cX3_fits RX3 2 p s m args c) (hr : meth.sig.returnType = some .boolean) (hlk : meth.locks = false)  (D : Dm) (h : f_X3_fits  D = some (r, D')) : BI G tA z E p l e (rmC 2 0 0) s m args below meth c LAY D r D' 2 0 [(0, .ref (z + 43))] [] := by
  obtain ⟨hx, hb, -, hown, hts, -⟩ := id O
  unfold f_X3_fits at h
  intro H locs ls hH hl
  refine lv_aload_n hx hb dX3_fits_0 rfl (lv_at hl 0 rfl) ?_
  refine h_getr O hH ly_43 rfl fl_X3_43 dX3_fits_1 ?_
  refine h_geti O hH ly_68 rfl fl_X3_162 dX3_fits_4 ?_
  refine lv_bipush (v := 6) hx hb dX3_fits_7 (by decide) ?_
  refine lv_icmp_gt (tgt := 23) hx hb dX3_fits_9 (by decide) (fun c1 => ?_) (fun c1 => ?_)
  · have h := it_pos h c1
    refine lv_iconst (v := 0) hx hb dX3_fits_23 (by decide) ?_
    obtain ⟨rfl, rfl⟩ := ret_i h
    exact h_zret O hr hlk zb_0 hH dX3_fits_24
  · have h := it_neg h c1
    refine lv_aload_n hx hb dX3_fits_12 rfl (lv_at hl 0 rfl) ?_
    refine h_getr O hH ly_43 rfl fl_X3_43 dX3_fits_13 ?_
    refine h_geti O hH ly_68 rfl fl_X3_165 dX3_fits_16 ?_
    refine lv_iconst (v := 3) hx hb dX3_fits_19 (by decide) ?_
    refine lv_icmp_le (tgt := 25) hx hb dX3_fits_20 (by decide) (fun c2 => ?_) (fun c2 => ?_)
    · have h := it_pos h c2
      refine lv_aload_n hx hb dX3_fits_25 rfl (lv_at hl 0 rfl) ?_
      refine h_geti O hH ly_43 rfl fl_X3_90 dX3_fits_26 ?_
      refine lv_iconst (v := 2) hx hb dX3_fits_29 (by decide) ?_
      refine lv_icmp_ne (tgt := 48) hx hb dX3_fits_30 (by decide) (fun c3 => ?_) (fun c3 => ?_)
      · have h := it_neg h c3
        refine lv_iconst (v := 0) hx hb dX3_fits_48 (by decide) ?_
        refine lv_istore_n (lv' := [(1, .int 0), (0, .ref (z + 43))]) hx hb dX3_fits_49 rfl hl (by decide) rfl (fun ls hl => ?_)
        exact w_X3_fits_50 O hr hlk FU _ _ h _ _ _ hH (lv_sub hl [1, 0] rfl)
      · have h := it_pos h c3
        refine lv_aload_n hx hb dX3_fits_33 rfl (lv_at hl 0 rfl) ?_
        refine h_geti O hH ly_43 rfl fl_X3_76 dX3_fits_34 ?_
        refine lv_bipush (v := 10) hx hb dX3_fits_37 (by decide) ?_
        refine lv_icmp_ge (tgt := 46) hx hb dX3_fits_39 (by decide) (fun c4 => ?_) (fun c4 => ?_)
        · have h := it_pos h c4
          refine lv_iconst (v := 0) hx hb dX3_fits_46 (by decide) ?_
          obtain ⟨rfl, rfl⟩ := ret_i h
          exact h_zret O hr hlk zb_0 hH dX3_fits_47
        · have h := it_neg h c4
          refine lv_iconst (v := 1) hx hb dX3_fits_42 (by decide) ?_
          refine lv_goto (tgt := 47) hx hb dX3_fits_43 (by decide) ?_
          obtain ⟨rfl, rfl⟩ := ret_i h
          exact h_zret O hr hlk zb_1 hH dX3_fits_47
    · have h := it_neg h c2
      refine lv_iconst (v := 0) hx hb dX3_fits_23 (by decide) ?_
      obtain ⟨rfl, rfl⟩ := ret_i h
      exact h_zret O hr hlk zb_0 hH dX3_fits_24
set_option maxHeartbeats 4000000 in
theorem c_X3_fits {l : Launch} {G : va_G} {tA : Nat → ClassId} {z : Nat} {E : Ex}  {D D' : Dm} {r : Int32} (h : f_X3_fits  D = some (r, D')) : CtI l yX3_fits cX3_fits 2 (some .boolean) G tA z E 2 0 0 [.ref (z + 43)] LAY D r LAY D' :=
  ct_BI (by decide +kernel) (Nat.le_of_ble_eq_true rfl) (fun _ _ _ _ _ _ _ _ O hr hlk => w_X3_fits O hr hlk  _ h)
set_option maxHeartbeats 4000000 in
theorem w_X3_decide_152 {G : va_G} {tA : Nat → ClassId} {z : Nat} {E : Ex} {p : Program} {l : Launch} {e : Env} {s : State} {m : MethodId} {args : Array Value} {below : List Frame} {meth : Method} {c : Code} {D' : Dm} (O : Ok G tA z E cX3_decide RX3 4 p s m args c) (hr : meth.sig.returnType = none) (hlk : meth.locks = false) (xs0 : Int32) (D : Dm) (h : f_X3_decide_152 xs0 D = some D') : BV G tA z E p l e (rmC 6 0 0) s m args below meth c LAY D D' 4 152 [] [.int xs0, .ref (z + 43)] := by
  obtain ⟨hx, hb, -, hown, hts, -⟩ := id O
  unfold f_X3_decide_152 at h
  intro H locs ls hH hl
  obtain ⟨g1, h⟩ := gd_some h
  obtain ⟨D2, e3, h⟩ := lt_some h
  refine h_putz O hH ly_43 rfl fl_X3_140 (zbB_ok g1) e3 dX3_decide_152 (fun H locs hH => ?_)
  obtain rfl := ret_v h
  exact h_vret O hr hlk hH dX3_decide_155
set_option maxHeartbeats 4000000 in
theorem w_X3_decide_151 {G : va_G} {tA : Nat → ClassId} {z : Nat} {E : Ex} {p : Program} {l : Launch} {e : Env} {s : State} {m : MethodId} {args : Array Value} {below : List Frame} {meth : Method} {c : Code} {D' : Dm} (O : Ok G tA z E cX3_decide RX3 4 p s m args c) (hr : meth.sig.returnType = none) (hlk : meth.locks = false)  (D : Dm) (h : f_X3_decide_151  D = some D') : BV G tA z E p l e (rmC 6 0 0) s m args below meth c LAY D D' 4 151 [] [.ref (z + 43)] := by
  obtain ⟨hx, hb, -, hown, hts, -⟩ := id O
  unfold f_X3_decide_151 at h
  intro H locs ls hH hl
  refine lv_iconst (v := 0) hx hb dX3_decide_151 (by decide) ?_
  exact w_X3_decide_152 O hr hlk _ _ h _ _ _ hH (lv_sub hl [] rfl)
set_option maxHeartbeats 4000000 in
theorem w_X3_decide_132 {G : va_G} {tA : Nat → ClassId} {z : Nat} {E : Ex} {p : Program} {l : Launch} {e : Env} {s : State} {m : MethodId} {args : Array Value} {below : List Frame} {meth : Method} {c : Code} {D' : Dm} (O : Ok G tA z E cX3_decide RX3 4 p s m args c) (hr : meth.sig.returnType = none) (hlk : meth.locks = false)  (D : Dm) (h : f_X3_decide_132  D = some D') : BV G tA z E p l e (rmC 6 0 0) s m args below meth c LAY D D' 4 132 [(0, .ref (z + 43))] [] := by
  obtain ⟨hx, hb, -, hown, hts, -⟩ := id O
  unfold f_X3_decide_132 at h
  intro H locs ls hH hl
  refine lv_aload_n hx hb dX3_decide_132 rfl (lv_at hl 0 rfl) ?_
  refine lv_aload_n hx hb dX3_decide_133 rfl (lv_at hl 0 rfl) ?_
  refine h_geti O hH ly_43 rfl fl_X3_90 dX3_decide_134 ?_
  refine lv_if_eq (tgt := 151) hx hb dX3_decide_137 (by decide) (fun c1 => ?_) (fun c1 => ?_)
  · have h := it_pos h c1
    exact w_X3_decide_151 O hr hlk _ h _ _ _ hH (lv_sub hl [] rfl)
  · have h := it_neg h c1
    refine lv_aload_n hx hb dX3_decide_140 rfl (lv_at hl 0 rfl) ?_
    obtain ⟨y4, D2, hc3, h⟩ := bI_some h
    refine h_callVi (As := []) (rest := [.ref (z + 43)]) O hH (c_X3_fits hc3) ml_X3_158 ly_43 rfl rfl hl.1 rfl ⟨Nat.le_of_ble_eq_true rfl, Nat.le_of_ble_eq_true rfl⟩ (Nat.le_of_ble_eq_true rfl) dX3_decide_141 (fun H locs hH => ?_)
    refine lv_if_ne (tgt := 151) hx hb dX3_decide_144 (by decide) (fun c5 => ?_) (fun c5 => ?_)
    · have h := it_neg h c5
      exact w_X3_decide_151 O hr hlk _ h _ _ _ hH (lv_sub hl [] rfl)
    · have h := it_pos h c5
      refine lv_iconst (v := 1) hx hb dX3_decide_147 (by decide) ?_
      refine lv_goto (tgt := 152) hx hb dX3_decide_148 (by decide) ?_
      exact w_X3_decide_152 O hr hlk _ _ h _ _ _ hH (lv_sub hl [] rfl)
set_option maxHeartbeats 4000000 in
theorem w_X3_decide_121 {G : va_G} {tA : Nat → ClassId} {z : Nat} {E : Ex} {p : Program} {l : Launch} {e : Env} {s : State} {m : MethodId} {args : Array Value} {below : List Frame} {meth : Method} {c : Code} {D' : Dm} (O : Ok G tA z E cX3_decide RX3 4 p s m args c) (hr : meth.sig.returnType = none) (hlk : meth.locks = false)  (D : Dm) (h : f_X3_decide_121  D = some D') : BV G tA z E p l e (rmC 6 0 0) s m args below meth c LAY D D' 4 121 [(0, .ref (z + 43))] [] := by
  obtain ⟨hx, hb, -, hown, hts, -⟩ := id O
  unfold f_X3_decide_121 at h
  intro H locs ls hH hl
  refine lv_aload_n hx hb dX3_decide_121 rfl (lv_at hl 0 rfl) ?_
  refine h_geti O hH ly_43 rfl fl_X3_90 dX3_decide_122 ?_
  refine lv_if_ne (tgt := 132) hx hb dX3_decide_125 (by decide) (fun c1 => ?_) (fun c1 => ?_)
  · have h := it_neg h c1
    exact w_X3_decide_132 O hr hlk _ h _ _ _ hH (lv_sub hl [0] rfl)
  · have h := it_pos h c1
    refine lv_aload_n hx hb dX3_decide_128 rfl (lv_at hl 0 rfl) ?_
    obtain ⟨D2, hc3, h⟩ := bV_some h
    refine h_callVv (As := []) (rest := []) O hH (c_X3_tryHypothesis hc3) ml_X3_155 ly_43 rfl rfl hl.1 rfl ⟨Nat.le_of_ble_eq_true rfl, Nat.le_of_ble_eq_true rfl⟩ (Nat.le_of_ble_eq_true rfl) dX3_decide_129 (fun H locs hH => ?_)
    exact w_X3_decide_132 O hr hlk _ h _ _ _ hH (lv_sub hl [0] rfl)
set_option maxHeartbeats 4000000 in
theorem w_X3_decide_115 {G : va_G} {tA : Nat → ClassId} {z : Nat} {E : Ex} {p : Program} {l : Launch} {e : Env} {s : State} {m : MethodId} {args : Array Value} {below : List Frame} {meth : Method} {c : Code} {D' : Dm} (O : Ok G tA z E cX3_decide RX3 4 p s m args c) (hr : meth.sig.returnType = none) (hlk : meth.locks = false) {k36 : Int32 → Dm → Option Dm} (hk36 : ∀ (x1 : Int32) (D : Dm), k36 x1 D = some D' → BV G tA z E p l e (rmC 6 0 0) s m args below meth c LAY D D' 4 36 [(0, .ref (z + 43)), (1, .int x1)] []) (x1 : Int32) (D : Dm) (h : f_X3_decide_115 k36 x1 D = some D') : BV G tA z E p l e (rmC 6 0 0) s m args below meth c LAY D D' 4 115 [(0, .ref (z + 43)), (1, .int x1)] [] := by
  obtain ⟨hx, hb, -, hown, hts, -⟩ := id O
  unfold f_X3_decide_115 at h
  intro H locs ls hH hl
  obtain ⟨y1, e2, h⟩ := lt_some h
  refine lv_iinc (v := y1) (lv' := [(1, .int y1), (0, .ref (z + 43))]) hx hb dX3_decide_115 hl (k := 1) rfl (by rw [e2]; rfl) (by decide) rfl (fun ls hl => ?_)
  refine lv_goto (tgt := 36) hx hb dX3_decide_118 (by decide) ?_
  exact hk36 _ _ h _ _ _ hH (lv_sub hl [1, 0] rfl)
set_option maxHeartbeats 4000000 in
theorem w_X3_decide_109 {G : va_G} {tA : Nat → ClassId} {z : Nat} {E : Ex} {p : Program} {l : Launch} {e : Env} {s : State} {m : MethodId} {args : Array Value} {below : List Frame} {meth : Method} {c : Code} {D' : Dm} (O : Ok G tA z E cX3_decide RX3 4 p s m args c) (hr : meth.sig.returnType = none) (hlk : meth.locks = false) {k36 : Int32 → Dm → Option Dm} (hk36 : ∀ (x1 : Int32) (D : Dm), k36 x1 D = some D' → BV G tA z E p l e (rmC 6 0 0) s m args below meth c LAY D D' 4 36 [(0, .ref (z + 43)), (1, .int x1)] []) {k54 : Int32 → Int32 → Dm → Option Dm} (hk54 : ∀ (x1 : Int32) (x2 : Int32) (D : Dm), k54 x1 x2 D = some D' → BV G tA z E p l e (rmC 6 0 0) s m args below meth c LAY D D' 4 54 [(0, .ref (z + 43)), (1, .int x1), (2, .int x2)] []) (x1 : Int32) (x2 : Int32) (D : Dm) (h : f_X3_decide_109 k36 k54 x1 x2 D = some D') : BV G tA z E p l e (rmC 6 0 0) s m args below meth c LAY D D' 4 109 [(0, .ref (z + 43)), (1, .int x1), (2, .int x2)] [] := by
  obtain ⟨hx, hb, -, hown, hts, -⟩ := id O
  unfold f_X3_decide_109 at h
  intro H locs ls hH hl
  obtain ⟨y1, e2, h⟩ := lt_some h
  refine lv_iinc (v := y1) (lv' := [(2, .int y1), (0, .ref (z + 43)), (1, .int x1)]) hx hb dX3_decide_109 hl (k := 2) rfl (by rw [e2]; rfl) (by decide) rfl (fun ls hl => ?_)
  refine lv_goto (tgt := 54) hx hb dX3_decide_112 (by decide) ?_
  exact hk54 _ _ _ h _ _ _ hH (lv_sub hl [1, 2, 0] rfl)
set_option maxHeartbeats 4000000 in
theorem w_X3_decide_75_b {G : va_G} {tA : Nat → ClassId} {z : Nat} {E : Ex} {p : Program} {l : Launch} {e : Env} {s : State} {m : MethodId} {args : Array Value} {below : List Frame} {meth : Method} {c : Code} {D' : Dm} (O : Ok G tA z E cX3_decide RX3 4 p s m args c) (hr : meth.sig.returnType = none) (hlk : meth.locks = false) {k36 : Int32 → Dm → Option Dm} (hk36 : ∀ (x1 : Int32) (D : Dm), k36 x1 D = some D' → BV G tA z E p l e (rmC 6 0 0) s m args below meth c LAY D D' 4 36 [(0, .ref (z + 43)), (1, .int x1)] []) {k54 : Int32 → Int32 → Dm → Option Dm} (hk54 : ∀ (x1 : Int32) (x2 : Int32) (D : Dm), k54 x1 x2 D = some D' → BV G tA z E p l e (rmC 6 0 0) s m args below meth c LAY D D' 4 54 [(0, .ref (z + 43)), (1, .int x1), (2, .int x2)] []) {k75 : Int32 → Int32 → Int32 → Dm → Option Dm} (hk75 : ∀ (x1 : Int32) (x2 : Int32) (x3 : Int32) (D : Dm), k75 x1 x2 x3 D = some D' → BV G tA z E p l e (rmC 6 0 0) s m args below meth c LAY D D' 4 75 [(0, .ref (z + 43)), (1, .int x1), (2, .int x2), (3, .int x3)] []) (x1 : Int32) (x2 : Int32) (x3 : Int32) (D : Dm) (h : f_X3_decide_75_b k36 k54 k75 x1 x2 x3 D = some D') : BV G tA z E p l e (rmC 6 0 0) s m args below meth c LAY D D' 4 75 [(0, .ref (z + 43)), (1, .int x1), (2, .int x2), (3, .int x3)] [] := by
  obtain ⟨hx, hb, -, hown, hts, -⟩ := id O
  unfold f_X3_decide_75_b at h
  intro H locs ls hH hl
  refine lv_iload_n hx hb dX3_decide_75 rfl (lv_at hl 3 rfl) ?_
  refine lv_aload_n hx hb dX3_decide_76 rfl (lv_at hl 0 rfl) ?_
  refine h_getr O hH ly_43 rfl fl_X3_19 dX3_decide_77 ?_
  refine lv_iload_n hx hb dX3_decide_80 rfl (lv_at hl 1 rfl) ?_
  obtain ⟨g1, h⟩ := gd_some h
  refine h_aald O hH ly_45 rfl g1 (ar_45_r g1) dX3_decide_81 ?_
  refine h_geti O hH (ar_45_c g1).1 rfl fl_X3_116 dX3_decide_82 ?_
  refine lv_icmp_gt (tgt := 109) hx hb dX3_decide_85 (by decide) (fun c2 => ?_) (fun c2 => ?_)
  · have h := it_pos h c2
    exact w_X3_decide_109 O hr hlk hk36 hk54 _ _ _ h _ _ _ hH (lv_sub hl [0, 1, 2] rfl)
  · have h := it_neg h c2
    refine lv_aload_n hx hb dX3_decide_88 rfl (lv_at hl 0 rfl) ?_
    refine h_geti O hH ly_43 rfl fl_X3_90 dX3_decide_89 ?_
    refine lv_iconst (v := 1) hx hb dX3_decide_92 (by decide) ?_
    refine lv_icmp_eq (tgt := 109) hx hb dX3_decide_93 (by decide) (fun c3 => ?_) (fun c3 => ?_)
    · have h := it_pos h c3
      exact w_X3_decide_109 O hr hlk hk36 hk54 _ _ _ h _ _ _ hH (lv_sub hl [0, 1, 2] rfl)
    · have h := it_neg h c3
      refine lv_aload_n hx hb dX3_decide_96 rfl (lv_at hl 0 rfl) ?_
      refine lv_iload_n hx hb dX3_decide_97 rfl (lv_at hl 1 rfl) ?_
      refine lv_iload_n hx hb dX3_decide_98 rfl (lv_at hl 2 rfl) ?_
      refine lv_iload_n hx hb dX3_decide_99 rfl (lv_at hl 3 rfl) ?_
      obtain ⟨D4, hc5, h⟩ := bV_some h
      refine h_callVv (As := [.int x1, .int x2, .int x3]) (rest := []) O hH (c_X3_lookAtLongWord hc5) ml_X3_152 ly_43 rfl rfl hl.1 rfl ⟨Nat.le_of_ble_eq_true rfl, Nat.le_of_ble_eq_true rfl⟩ (Nat.le_of_ble_eq_true rfl) dX3_decide_100 (fun H locs hH => ?_)
      obtain ⟨y6, e7, h⟩ := lt_some h
      refine lv_iinc (v := y6) (lv' := [(3, .int y6), (0, .ref (z + 43)), (1, .int x1), (2, .int x2)]) hx hb dX3_decide_103 hl (k := 3) rfl (by rw [e7]; rfl) (by decide) rfl (fun ls hl => ?_)
      refine lv_goto (tgt := 75) hx hb dX3_decide_106 (by decide) ?_
      exact hk75 _ _ _ _ h _ _ _ hH (lv_sub hl [1, 2, 3, 0] rfl)
set_option maxHeartbeats 4000000 in
theorem w_X3_decide_75 {G : va_G} {tA : Nat → ClassId} {z : Nat} {E : Ex} {p : Program} {l : Launch} {e : Env} {s : State} {m : MethodId} {args : Array Value} {below : List Frame} {meth : Method} {c : Code} {D' : Dm} (O : Ok G tA z E cX3_decide RX3 4 p s m args c) (hr : meth.sig.returnType = none) (hlk : meth.locks = false) {k36 : Int32 → Dm → Option Dm} (hk36 : ∀ (x1 : Int32) (D : Dm), k36 x1 D = some D' → BV G tA z E p l e (rmC 6 0 0) s m args below meth c LAY D D' 4 36 [(0, .ref (z + 43)), (1, .int x1)] []) {k54 : Int32 → Int32 → Dm → Option Dm} (hk54 : ∀ (x1 : Int32) (x2 : Int32) (D : Dm), k54 x1 x2 D = some D' → BV G tA z E p l e (rmC 6 0 0) s m args below meth c LAY D D' 4 54 [(0, .ref (z + 43)), (1, .int x1), (2, .int x2)] []) : ∀ (n : Nat) (x1 : Int32) (x2 : Int32) (x3 : Int32) (D : Dm) (h : f_X3_decide_75 k36 k54 n x1 x2 x3 D = some D'), BV G tA z E p l e (rmC 6 0 0) s m args below meth c LAY D D' 4 75 [(0, .ref (z + 43)), (1, .int x1), (2, .int x2), (3, .int x3)] [] := by
  intro n
  induction n with
  | zero => intro x1 x2 x3 D h; exact no_some h
  | succ n ih => intro x1 x2 x3 D h; exact w_X3_decide_75_b O hr hlk hk36 hk54 (fun x1 x2 x3 D h => ih x1 x2 x3 D h) x1 x2 x3 D h
set_option maxHeartbeats 4000000 in
theorem w_X3_decide_54_b {G : va_G} {tA : Nat → ClassId} {z : Nat} {E : Ex} {p : Program} {l : Launch} {e : Env} {s : State} {m : MethodId} {args : Array Value} {below : List Frame} {meth : Method} {c : Code} {D' : Dm} (O : Ok G tA z E cX3_decide RX3 4 p s m args c) (hr : meth.sig.returnType = none) (hlk : meth.locks = false) {k36 : Int32 → Dm → Option Dm} (hk36 : ∀ (x1 : Int32) (D : Dm), k36 x1 D = some D' → BV G tA z E p l e (rmC 6 0 0) s m args below meth c LAY D D' 4 36 [(0, .ref (z + 43)), (1, .int x1)] []) {k54 : Int32 → Int32 → Dm → Option Dm} (hk54 : ∀ (x1 : Int32) (x2 : Int32) (D : Dm), k54 x1 x2 D = some D' → BV G tA z E p l e (rmC 6 0 0) s m args below meth c LAY D D' 4 54 [(0, .ref (z + 43)), (1, .int x1), (2, .int x2)] []) (x1 : Int32) (x2 : Int32) (D : Dm) (h : f_X3_decide_54_b k36 k54 x1 x2 D = some D') : BV G tA z E p l e (rmC 6 0 0) s m args below meth c LAY D D' 4 54 [(0, .ref (z + 43)), (1, .int x1), (2, .int x2)] [] := by
  obtain ⟨hx, hb, -, hown, hts, -⟩ := id O
  unfold f_X3_decide_54_b at h
  intro H locs ls hH hl
  refine lv_iload_n hx hb dX3_decide_54 rfl (lv_at hl 2 rfl) ?_
  refine lv_aload_n hx hb dX3_decide_55 rfl (lv_at hl 0 rfl) ?_
  refine h_getr O hH ly_43 rfl fl_X3_56 dX3_decide_56 ?_
  refine h_geti O hH ly_9 rfl fl_X3_128 dX3_decide_59 ?_
  refine lv_icmp_ge (tgt := 115) hx hb dX3_decide_62 (by decide) (fun c1 => ?_) (fun c1 => ?_)
  · have h := it_pos h c1
    exact w_X3_decide_115 O hr hlk hk36 _ _ h _ _ _ hH (lv_sub hl [0, 1] rfl)
  · have h := it_neg h c1
    refine lv_aload_n hx hb dX3_decide_65 rfl (lv_at hl 0 rfl) ?_
    refine h_geti O hH ly_43 rfl fl_X3_90 dX3_decide_66 ?_
    refine lv_iconst (v := 1) hx hb dX3_decide_69 (by decide) ?_
    refine lv_icmp_eq (tgt := 115) hx hb dX3_decide_70 (by decide) (fun c2 => ?_) (fun c2 => ?_)
    · have h := it_pos h c2
      exact w_X3_decide_115 O hr hlk hk36 _ _ h _ _ _ hH (lv_sub hl [0, 1] rfl)
    · have h := it_neg h c2
      refine lv_iconst (v := 0) hx hb dX3_decide_73 (by decide) ?_
      refine lv_istore_n (lv' := [(3, .int 0), (0, .ref (z + 43)), (1, .int x1), (2, .int x2)]) hx hb dX3_decide_74 rfl hl (by decide) rfl (fun ls hl => ?_)
      exact w_X3_decide_75 O hr hlk hk36 hk54 FU _ _ _ _ h _ _ _ hH (lv_sub hl [1, 2, 3, 0] rfl)
set_option maxHeartbeats 4000000 in
theorem w_X3_decide_54 {G : va_G} {tA : Nat → ClassId} {z : Nat} {E : Ex} {p : Program} {l : Launch} {e : Env} {s : State} {m : MethodId} {args : Array Value} {below : List Frame} {meth : Method} {c : Code} {D' : Dm} (O : Ok G tA z E cX3_decide RX3 4 p s m args c) (hr : meth.sig.returnType = none) (hlk : meth.locks = false) {k36 : Int32 → Dm → Option Dm} (hk36 : ∀ (x1 : Int32) (D : Dm), k36 x1 D = some D' → BV G tA z E p l e (rmC 6 0 0) s m args below meth c LAY D D' 4 36 [(0, .ref (z + 43)), (1, .int x1)] []) : ∀ (n : Nat) (x1 : Int32) (x2 : Int32) (D : Dm) (h : f_X3_decide_54 k36 n x1 x2 D = some D'), BV G tA z E p l e (rmC 6 0 0) s m args below meth c LAY D D' 4 54 [(0, .ref (z + 43)), (1, .int x1), (2, .int x2)] [] := by
  intro n
  induction n with
  | zero => intro x1 x2 D h; exact no_some h
  | succ n ih => intro x1 x2 D h; exact w_X3_decide_54_b O hr hlk hk36 (fun x1 x2 D h => ih x1 x2 D h) x1 x2 D h
set_option maxHeartbeats 4000000 in
theorem w_X3_decide_36_b {G : va_G} {tA : Nat → ClassId} {z : Nat} {E : Ex} {p : Program} {l : Launch} {e : Env} {s : State} {m : MethodId} {args : Array Value} {below : List Frame} {meth : Method} {c : Code} {D' : Dm} (O : Ok G tA z E cX3_decide RX3 4 p s m args c) (hr : meth.sig.returnType = none) (hlk : meth.locks = false) {k36 : Int32 → Dm → Option Dm} (hk36 : ∀ (x1 : Int32) (D : Dm), k36 x1 D = some D' → BV G tA z E p l e (rmC 6 0 0) s m args below meth c LAY D D' 4 36 [(0, .ref (z + 43)), (1, .int x1)] []) (x1 : Int32) (D : Dm) (h : f_X3_decide_36_b k36 x1 D = some D') : BV G tA z E p l e (rmC 6 0 0) s m args below meth c LAY D D' 4 36 [(0, .ref (z + 43)), (1, .int x1)] [] := by
  obtain ⟨hx, hb, -, hown, hts, -⟩ := id O
  unfold f_X3_decide_36_b at h
  intro H locs ls hH hl
  refine lv_iload_n hx hb dX3_decide_36 rfl (lv_at hl 1 rfl) ?_
  refine lv_aload_n hx hb dX3_decide_37 rfl (lv_at hl 0 rfl) ?_
  refine h_geti O hH ly_43 rfl fl_X3_76 dX3_decide_38 ?_
  refine lv_icmp_ge (tgt := 121) hx hb dX3_decide_41 (by decide) (fun c1 => ?_) (fun c1 => ?_)
  · have h := it_pos h c1
    exact w_X3_decide_121 O hr hlk _ h _ _ _ hH (lv_sub hl [0] rfl)
  · have h := it_neg h c1
    refine lv_aload_n hx hb dX3_decide_44 rfl (lv_at hl 0 rfl) ?_
    refine h_geti O hH ly_43 rfl fl_X3_90 dX3_decide_45 ?_
    refine lv_iconst (v := 1) hx hb dX3_decide_48 (by decide) ?_
    refine lv_icmp_eq (tgt := 121) hx hb dX3_decide_49 (by decide) (fun c2 => ?_) (fun c2 => ?_)
    · have h := it_pos h c2
      exact w_X3_decide_121 O hr hlk _ h _ _ _ hH (lv_sub hl [0] rfl)
    · have h := it_neg h c2
      refine lv_iconst (v := 0) hx hb dX3_decide_52 (by decide) ?_
      refine lv_istore_n (lv' := [(2, .int 0), (0, .ref (z + 43)), (1, .int x1)]) hx hb dX3_decide_53 rfl hl (by decide) rfl (fun ls hl => ?_)
      exact w_X3_decide_54 O hr hlk hk36 FU _ _ _ h _ _ _ hH (lv_sub hl [1, 2, 0] rfl)
set_option maxHeartbeats 4000000 in
theorem w_X3_decide_36 {G : va_G} {tA : Nat → ClassId} {z : Nat} {E : Ex} {p : Program} {l : Launch} {e : Env} {s : State} {m : MethodId} {args : Array Value} {below : List Frame} {meth : Method} {c : Code} {D' : Dm} (O : Ok G tA z E cX3_decide RX3 4 p s m args c) (hr : meth.sig.returnType = none) (hlk : meth.locks = false) : ∀ (n : Nat) (x1 : Int32) (D : Dm) (h : f_X3_decide_36 n x1 D = some D'), BV G tA z E p l e (rmC 6 0 0) s m args below meth c LAY D D' 4 36 [(0, .ref (z + 43)), (1, .int x1)] [] := by
  intro n
  induction n with
  | zero => intro x1 D h; exact no_some h
  | succ n ih => intro x1 D h; exact w_X3_decide_36_b O hr hlk (fun x1 D h => ih x1 D h) x1 D h
set_option maxHeartbeats 4000000 in
theorem w_X3_decide {G : va_G} {tA : Nat → ClassId} {z : Nat} {E : Ex} {p : Program} {l : Launch} {e : Env} {s : State} {m : MethodId} {args : Array Value} {below : List Frame} {meth : Method} {c : Code} {D' : Dm} (O : Ok G tA z E cX3_decide RX3 4 p s m args c) (hr : meth.sig.returnType = none) (hlk : meth.locks = false)  (D : Dm) (h : f_X3_decide  D = some D') : BV G tA z E p l e (rmC 6 0 0) s m args below meth c LAY D D' 4 0 [(0, .ref (z + 43))] [] := by
  obtain ⟨hx, hb, -, hown, hts, -⟩ := id O
  unfold f_X3_decide at h
  intro H locs ls hH hl
  refine lv_aload_n hx hb dX3_decide_0 rfl (lv_at hl 0 rfl) ?_
  refine h_geti O hH ly_43 rfl fl_X3_87 dX3_decide_1 ?_
  refine lv_if_eq (tgt := 8) hx hb dX3_decide_4 (by decide) (fun c1 => ?_) (fun c1 => ?_)
  · have h := it_pos h c1
    refine lv_aload_n hx hb dX3_decide_8 rfl (lv_at hl 0 rfl) ?_
    refine lv_iconst (v := 1) hx hb dX3_decide_9 (by decide) ?_
    obtain ⟨D2, e3, h⟩ := lt_some h
    refine h_putz O hH ly_43 rfl fl_X3_87 zb_1 e3 dX3_decide_10 (fun H locs hH => ?_)
    refine lv_aload_n hx hb dX3_decide_13 rfl (lv_at hl 0 rfl) ?_
    refine lv_iconst (v := 0) hx hb dX3_decide_14 (by decide) ?_
    obtain ⟨D4, e5, h⟩ := lt_some h
    refine h_puti O hH ly_43 rfl fl_X3_90 e5 dX3_decide_15 (fun H locs hH => ?_)
    refine lv_aload_n hx hb dX3_decide_18 rfl (lv_at hl 0 rfl) ?_
    refine lv_iconst (v := (-1)) hx hb dX3_decide_19 (by decide) ?_
    obtain ⟨D6, e7, h⟩ := lt_some h
    refine h_puti O hH ly_43 rfl fl_X3_146 e7 dX3_decide_20 (fun H locs hH => ?_)
    refine lv_aload_n hx hb dX3_decide_23 rfl (lv_at hl 0 rfl) ?_
    obtain ⟨D8, hc9, h⟩ := bV_some h
    refine h_callVv (As := []) (rest := []) O hH (c_X3_lookAtShortWords hc9) ml_X3_125 ly_43 rfl rfl hl.1 rfl ⟨Nat.le_of_ble_eq_true rfl, Nat.le_of_ble_eq_true rfl⟩ (Nat.le_of_ble_eq_true rfl) dX3_decide_24 (fun H locs hH => ?_)
    refine lv_aload_n hx hb dX3_decide_27 rfl (lv_at hl 0 rfl) ?_
    refine h_getr O hH ly_43 rfl fl_X3_31 dX3_decide_28 ?_
    obtain ⟨D10, hc11, h⟩ := bV_some h
    refine h_callVv (As := []) (rest := []) O hH (c_X2_clear hc11) ml_X3_149 ly_56 rfl rfl hl.1 rfl ⟨Nat.le_of_ble_eq_true rfl, Nat.le_of_ble_eq_true rfl⟩ (Nat.le_of_ble_eq_true rfl) dX3_decide_31 (fun H locs hH => ?_)
    refine lv_iconst (v := 0) hx hb dX3_decide_34 (by decide) ?_
    refine lv_istore_n (lv' := [(1, .int 0), (0, .ref (z + 43))]) hx hb dX3_decide_35 rfl hl (by decide) rfl (fun ls hl => ?_)
    exact w_X3_decide_36 O hr hlk FU _ _ h _ _ _ hH (lv_sub hl [1, 0] rfl)
  · have h := it_neg h c1
    obtain rfl := ret_v h
    exact h_vret O hr hlk hH dX3_decide_7
set_option maxHeartbeats 4000000 in
theorem c_X3_decide {l : Launch} {G : va_G} {tA : Nat → ClassId} {z : Nat} {E : Ex}  {D D' : Dm} (h : f_X3_decide  D = some D') : CtV l yX3_decide cX3_decide 4 G tA z E 6 0 0 [.ref (z + 43)] LAY D LAY D' :=
  ct_BV (by decide +kernel) (Nat.le_of_ble_eq_true rfl) (fun _ _ _ _ _ _ _ _ O hr hlk => w_X3_decide O hr hlk  _ h)
