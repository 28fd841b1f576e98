theorem dX11_feed_0 : decode cX11_feed 0 = .ok (.aload_n 0, 1) := by decide +kernel
theorem dX11_feed_1 : decode cX11_feed 1 = .ok (.getfield 10, 3) := by decide +kernel
theorem dX11_feed_4 : decode cX11_feed 4 = .ok (.getfield 70, 3) := by decide +kernel
theorem dX11_feed_7 : decode cX11_feed 7 = .ok (.bipush 20, 2) := by decide +kernel
theorem dX11_feed_9 : decode cX11_feed 9 = .ok (.iadd, 1) := by decide +kernel
theorem dX11_feed_10 : decode cX11_feed 10 = .ok (.sipush 500, 3) := by decide +kernel
theorem dX11_feed_13 : decode cX11_feed 13 = .ok (.if_icmp .le 6, 3) := by decide +kernel
theorem dX11_feed_16 : decode cX11_feed 16 = .ok (.bipush (-4), 2) := by decide +kernel
theorem dX11_feed_18 : decode cX11_feed 18 = .ok (.ireturn, 1) := by decide +kernel
theorem dX11_feed_19 : decode cX11_feed 19 = .ok (.aload_n 0, 1) := by decide +kernel
theorem dX11_feed_20 : decode cX11_feed 20 = .ok (.getfield 10, 3) := by decide +kernel
theorem dX11_feed_23 : decode cX11_feed 23 = .ok (.iload_n 1, 1) := by decide +kernel
theorem dX11_feed_24 : decode cX11_feed 24 = .ok (.invokevirtual 74, 3) := by decide +kernel
theorem dX11_feed_27 : decode cX11_feed 27 = .ok (.aload_n 0, 1) := by decide +kernel
theorem dX11_feed_28 : decode cX11_feed 28 = .ok (.getfield 10, 3) := by decide +kernel
theorem dX11_feed_31 : decode cX11_feed 31 = .ok (.iload_n 2, 1) := by decide +kernel
theorem dX11_feed_32 : decode cX11_feed 32 = .ok (.invokevirtual 74, 3) := by decide +kernel
theorem dX11_feed_35 : decode cX11_feed 35 = .ok (.aload_n 0, 1) := by decide +kernel
theorem dX11_feed_36 : decode cX11_feed 36 = .ok (.getfield 10, 3) := by decide +kernel
theorem dX11_feed_39 : decode cX11_feed 39 = .ok (.iload_n 3, 1) := by decide +kernel
theorem dX11_feed_40 : decode cX11_feed 40 = .ok (.invokevirtual 74, 3) := by decide +kernel
theorem dX11_feed_43 : decode cX11_feed 43 = .ok (.aload_n 0, 1) := by decide +kernel
theorem dX11_feed_44 : decode cX11_feed 44 = .ok (.getfield 10, 3) := by decide +kernel
theorem dX11_feed_47 : decode cX11_feed 47 = .ok (.iload 4, 2) := by decide +kernel
theorem dX11_feed_49 : decode cX11_feed 49 = .ok (.invokevirtual 74, 3) := by decide +kernel
theorem dX11_feed_52 : decode cX11_feed 52 = .ok (.aload_n 0, 1) := by decide +kernel
theorem dX11_feed_53 : decode cX11_feed 53 = .ok (.getfield 10, 3) := by decide +kernel
theorem dX11_feed_56 : decode cX11_feed 56 = .ok (.iload 5, 2) := by decide +kernel
theorem dX11_feed_58 : decode cX11_feed 58 = .ok (.invokevirtual 74, 3) := by decide +kernel
theorem dX11_feed_61 : decode cX11_feed 61 = .ok (.aload_n 0, 1) := by decide +kernel
theorem dX11_feed_62 : decode cX11_feed 62 = .ok (.getfield 10, 3) := by decide +kernel
theorem dX11_feed_65 : decode cX11_feed 65 = .ok (.getfield 70, 3) := by decide +kernel
theorem dX11_feed_68 : decode cX11_feed 68 = .ok (.ireturn, 1) := by decide +kernel
theorem dX11_isMachine_0 : decode cX11_isMachine 0 = .ok (.iload_n 0, 1) := by decide +kernel
theorem dX11_isMachine_1 : decode cX11_isMachine 1 = .ok (.ifCond .lt 12, 3) := by decide +kernel
theorem dX11_isMachine_4 : decode cX11_isMachine 4 = .ok (.iload_n 0, 1) := by decide +kernel
theorem dX11_isMachine_5 : decode cX11_isMachine 5 = .ok (.iconst 2, 1) := by decide +kernel
theorem dX11_isMachine_6 : decode cX11_isMachine 6 = .ok (.if_icmp .ge 7, 3) := by decide +kernel
theorem dX11_isMachine_9 : decode cX11_isMachine 9 = .ok (.iconst 1, 1) := by decide +kernel
theorem dX11_isMachine_10 : decode cX11_isMachine 10 = .ok (.goto 4, 3) := by decide +kernel
theorem dX11_isMachine_13 : decode cX11_isMachine 13 = .ok (.iconst 0, 1) := by decide +kernel
theorem dX11_isMachine_14 : decode cX11_isMachine 14 = .ok (.ireturn, 1) := by decide +kernel
theorem dX11_noteChange_0 : decode cX11_noteChange 0 = .ok (.aload_n 0, 1) := by decide +kernel
theorem dX11_noteChange_1 : decode cX11_noteChange 1 = .ok (.iconst 0, 1) := by decide +kernel
theorem dX11_noteChange_2 : decode cX11_noteChange 2 = .ok (.putfield 306, 3) := by decide +kernel
theorem dX11_noteChange_5 : decode cX11_noteChange 5 = .ok (.iload_n 1, 1) := by decide +kernel
theorem dX11_noteChange_6 : decode cX11_noteChange 6 = .ok (.ifCond .ne 10, 3) := by decide +kernel
theorem dX11_noteChange_9 : decode cX11_noteChange 9 = .ok (.aload_n 0, 1) := by decide +kernel
theorem dX11_noteChange_10 : decode cX11_noteChange 10 = .ok (.getfield 52, 3) := by decide +kernel
theorem dX11_noteChange_13 : decode cX11_noteChange 13 = .ok (.invokevirtual 247, 3) := by decide +kernel
theorem dX11_noteChange_16 : decode cX11_noteChange 16 = .ok (.return_, 1) := by decide +kernel
theorem dX11_machine_0 : decode cX11_machine 0 = .ok (.iload_n 1, 1) := by decide +kernel
theorem dX11_machine_1 : decode cX11_machine 1 = .ok (.invokestatic 78, 3) := by decide +kernel
theorem dX11_machine_4 : decode cX11_machine 4 = .ok (.ifCond .ne 6, 3) := by decide +kernel
theorem dX11_machine_7 : decode cX11_machine 7 = .ok (.bipush (-2), 2) := by decide +kernel
theorem dX11_machine_9 : decode cX11_machine 9 = .ok (.ireturn, 1) := by decide +kernel
theorem dX11_machine_10 : decode cX11_machine 10 = .ok (.iload_n 2, 1) := by decide +kernel
theorem dX11_machine_11 : decode cX11_machine 11 = .ok (.ifCond .lt 14, 3) := by decide +kernel
theorem dX11_machine_14 : decode cX11_machine 14 = .ok (.iload_n 2, 1) := by decide +kernel
theorem dX11_machine_15 : decode cX11_machine 15 = .ok (.aload_n 0, 1) := by decide +kernel
theorem dX11_machine_16 : decode cX11_machine 16 = .ok (.getfield 10, 3) := by decide +kernel
theorem dX11_machine_19 : decode cX11_machine 19 = .ok (.getfield 70, 3) := by decide +kernel
theorem dX11_machine_22 : decode cX11_machine 22 = .ok (.if_icmp .le 6, 3) := by decide +kernel
theorem dX11_machine_25 : decode cX11_machine 25 = .ok (.bipush (-3), 2) := by decide +kernel
theorem dX11_machine_27 : decode cX11_machine 27 = .ok (.ireturn, 1) := by decide +kernel
theorem dX11_machine_28 : decode cX11_machine 28 = .ok (.aload_n 0, 1) := by decide +kernel
theorem dX11_machine_29 : decode cX11_machine 29 = .ok (.getfield 10, 3) := by decide +kernel
theorem dX11_machine_32 : decode cX11_machine 32 = .ok (.iload_n 2, 1) := by decide +kernel
theorem dX11_machine_33 : decode cX11_machine 33 = .ok (.invokevirtual 82, 3) := by decide +kernel
theorem dX11_machine_36 : decode cX11_machine 36 = .ok (.aload_n 0, 1) := by decide +kernel
theorem dX11_machine_37 : decode cX11_machine 37 = .ok (.getfield 19, 3) := by decide +kernel
theorem dX11_machine_40 : decode cX11_machine 40 = .ok (.aload_n 0, 1) := by decide +kernel
theorem dX11_machine_41 : decode cX11_machine 41 = .ok (.getfield 10, 3) := by decide +kernel
theorem dX11_machine_44 : decode cX11_machine 44 = .ok (.invokevirtual 85, 3) := by decide +kernel
theorem dX11_machine_47 : decode cX11_machine 47 = .ok (.aload_n 0, 1) := by decide +kernel
theorem dX11_machine_48 : decode cX11_machine 48 = .ok (.getfield 10, 3) := by decide +kernel
theorem dX11_machine_51 : decode cX11_machine 51 = .ok (.getfield 89, 3) := by decide +kernel
theorem dX11_machine_54 : decode cX11_machine 54 = .ok (.ifCond .eq 14, 3) := by decide +kernel
theorem dX11_machine_57 : decode cX11_machine 57 = .ok (.bipush (-30), 2) := by decide +kernel
theorem dX11_machine_59 : decode cX11_machine 59 = .ok (.aload_n 0, 1) := by decide +kernel
theorem dX11_machine_60 : decode cX11_machine 60 = .ok (.getfield 10, 3) := by decide +kernel
theorem dX11_machine_63 : decode cX11_machine 63 = .ok (.getfield 89, 3) := by decide +kernel
theorem dX11_machine_66 : decode cX11_machine 66 = .ok (.isub, 1) := by decide +kernel
theorem dX11_machine_67 : decode cX11_machine 67 = .ok (.ireturn, 1) := by decide +kernel
theorem dX11_machine_68 : decode cX11_machine 68 = .ok (.aload_n 0, 1) := by decide +kernel
theorem dX11_machine_69 : decode cX11_machine 69 = .ok (.getfield 25, 3) := by decide +kernel
theorem dX11_machine_72 : decode cX11_machine 72 = .ok (.iload_n 1, 1) := by decide +kernel
theorem dX11_machine_73 : decode cX11_machine 73 = .ok (.aaload, 1) := by decide +kernel
theorem dX11_machine_74 : decode cX11_machine 74 = .ok (.aload_n 0, 1) := by decide +kernel
theorem dX11_machine_75 : decode cX11_machine 75 = .ok (.getfield 19, 3) := by decide +kernel
theorem dX11_machine_78 : decode cX11_machine 78 = .ok (.getfield 92, 3) := by decide +kernel
theorem dX11_machine_81 : decode cX11_machine 81 = .ok (.invokevirtual 96, 3) := by decide +kernel
theorem dX11_machine_84 : decode cX11_machine 84 = .ok (.aload_n 0, 1) := by decide +kernel
theorem dX11_machine_85 : decode cX11_machine 85 = .ok (.iload_n 1, 1) := by decide +kernel
theorem dX11_machine_86 : decode cX11_machine 86 = .ok (.invokevirtual 100, 3) := by decide +kernel
theorem dX11_machine_89 : decode cX11_machine 89 = .ok (.aload_n 0, 1) := by decide +kernel
theorem dX11_machine_90 : decode cX11_machine 90 = .ok (.getfield 25, 3) := by decide +kernel
theorem dX11_machine_93 : decode cX11_machine 93 = .ok (.iload_n 1, 1) := by decide +kernel
theorem dX11_machine_94 : decode cX11_machine 94 = .ok (.aaload, 1) := by decide +kernel
theorem dX11_machine_95 : decode cX11_machine 95 = .ok (.invokevirtual 103, 3) := by decide +kernel
theorem dX11_machine_98 : decode cX11_machine 98 = .ok (.ireturn, 1) := by decide +kernel
theorem dX11_readWord_0 : decode cX11_readWord 0 = .ok (.aload_n 0, 1) := by decide +kernel
theorem dX11_readWord_1 : decode cX11_readWord 1 = .ok (.getfield 37, 3) := by decide +kernel
theorem dX11_readWord_4 : decode cX11_readWord 4 = .ok (.invokevirtual 309, 3) := by decide +kernel
theorem dX11_readWord_7 : decode cX11_readWord 7 = .ok (.iconst 0, 1) := by decide +kernel
theorem dX11_readWord_8 : decode cX11_readWord 8 = .ok (.istore_n 1, 1) := by decide +kernel
theorem dX11_readWord_9 : decode cX11_readWord 9 = .ok (.iload_n 1, 1) := by decide +kernel
theorem dX11_readWord_10 : decode cX11_readWord 10 = .ok (.bipush 12, 2) := by decide +kernel
theorem dX11_readWord_12 : decode cX11_readWord 12 = .ok (.if_icmp .gt 73, 3) := by decide +kernel
theorem dX11_readWord_15 : decode cX11_readWord 15 = .ok (.aload_n 0, 1) := by decide +kernel
theorem dX11_readWord_16 : decode cX11_readWord 16 = .ok (.getfield 10, 3) := by decide +kernel
theorem dX11_readWord_19 : decode cX11_readWord 19 = .ok (.invokevirtual 312, 3) := by decide +kernel
theorem dX11_readWord_22 : decode cX11_readWord 22 = .ok (.ifCond .eq 63, 3) := by decide +kernel
theorem dX11_readWord_25 : decode cX11_readWord 25 = .ok (.aload_n 0, 1) := by decide +kernel
theorem dX11_readWord_26 : decode cX11_readWord 26 = .ok (.getfield 10, 3) := by decide +kernel
theorem dX11_readWord_29 : decode cX11_readWord 29 = .ok (.getfield 315, 3) := by decide +kernel
theorem dX11_readWord_32 : decode cX11_readWord 32 = .ok (.istore_n 2, 1) := by decide +kernel
theorem dX11_readWord_33 : decode cX11_readWord 33 = .ok (.aload_n 0, 1) := by decide +kernel
theorem dX11_readWord_34 : decode cX11_readWord 34 = .ok (.getfield 10, 3) := by decide +kernel
theorem dX11_readWord_37 : decode cX11_readWord 37 = .ok (.iconst 2, 1) := by decide +kernel
theorem dX11_readWord_38 : decode cX11_readWord 38 = .ok (.invokevirtual 317, 3) := by decide +kernel
theorem dX11_readWord_41 : decode cX11_readWord 41 = .ok (.istore_n 3, 1) := by decide +kernel
theorem dX11_readWord_42 : decode cX11_readWord 42 = .ok (.iload_n 1, 1) := by decide +kernel
theorem dX11_readWord_43 : decode cX11_readWord 43 = .ok (.bipush 12, 2) := by decide +kernel
theorem dX11_readWord_45 : decode cX11_readWord 45 = .ok (.if_icmp .ne 12, 3) := by decide +kernel
theorem dX11_readWord_48 : decode cX11_readWord 48 = .ok (.aload_n 0, 1) := by decide +kernel
theorem dX11_readWord_49 : decode cX11_readWord 49 = .ok (.getfield 10, 3) := by decide +kernel
theorem dX11_readWord_52 : decode cX11_readWord 52 = .ok (.iconst 3, 1) := by decide +kernel
theorem dX11_readWord_53 : decode cX11_readWord 53 = .ok (.iload_n 2, 1) := by decide +kernel
theorem dX11_readWord_54 : decode cX11_readWord 54 = .ok (.invokevirtual 320, 3) := by decide +kernel
theorem dX11_readWord_57 : decode cX11_readWord 57 = .ok (.aload_n 0, 1) := by decide +kernel
theorem dX11_readWord_58 : decode cX11_readWord 58 = .ok (.getfield 10, 3) := by decide +kernel
theorem dX11_readWord_61 : decode cX11_readWord 61 = .ok (.iconst 0, 1) := by decide +kernel
theorem dX11_readWord_62 : decode cX11_readWord 62 = .ok (.bipush 99, 2) := by decide +kernel
theorem dX11_readWord_64 : decode cX11_readWord 64 = .ok (.invokevirtual 324, 3) := by decide +kernel
theorem dX11_readWord_67 : decode cX11_readWord 67 = .ok (.istore 4, 2) := by decide +kernel
theorem dX11_readWord_69 : decode cX11_readWord 69 = .ok (.aload_n 0, 1) := by decide +kernel
theorem dX11_readWord_70 : decode cX11_readWord 70 = .ok (.getfield 37, 3) := by decide +kernel
theorem dX11_readWord_73 : decode cX11_readWord 73 = .ok (.iload_n 3, 1) := by decide +kernel
theorem dX11_readWord_74 : decode cX11_readWord 74 = .ok (.iload 4, 2) := by decide +kernel
theorem dX11_readWord_76 : decode cX11_readWord 76 = .ok (.invokevirtual 327, 3) := by decide +kernel
theorem dX11_readWord_79 : decode cX11_readWord 79 = .ok (.iinc 1 1, 3) := by decide +kernel
theorem dX11_readWord_82 : decode cX11_readWord 82 = .ok (.goto (-73), 3) := by decide +kernel
theorem dX11_readWord_85 : decode cX11_readWord 85 = .ok (.return_, 1) := by decide +kernel
theorem dX11_word_0 : decode cX11_word 0 = .ok (.iload_n 1, 1) := by decide +kernel
theorem dX11_word_1 : decode cX11_word 1 = .ok (.ifCond .lt 14, 3) := by decide +kernel
theorem dX11_word_4 : decode cX11_word 4 = .ok (.iload_n 1, 1) := by decide +kernel
theorem dX11_word_5 : decode cX11_word 5 = .ok (.aload_n 0, 1) := by decide +kernel
theorem dX11_word_6 : decode cX11_word 6 = .ok (.getfield 10, 3) := by decide +kernel
theorem dX11_word_9 : decode cX11_word 9 = .ok (.getfield 70, 3) := by decide +kernel
theorem dX11_word_12 : decode cX11_word 12 = .ok (.if_icmp .le 6, 3) := by decide +kernel
theorem dX11_word_15 : decode cX11_word 15 = .ok (.bipush (-3), 2) := by decide +kernel
theorem dX11_word_17 : decode cX11_word 17 = .ok (.ireturn, 1) := by decide +kernel
theorem dX11_word_18 : decode cX11_word 18 = .ok (.aload_n 0, 1) := by decide +kernel
theorem dX11_word_19 : decode cX11_word 19 = .ok (.getfield 10, 3) := by decide +kernel
theorem dX11_word_22 : decode cX11_word 22 = .ok (.iload_n 1, 1) := by decide +kernel
theorem dX11_word_23 : decode cX11_word 23 = .ok (.invokevirtual 82, 3) := by decide +kernel
theorem dX11_word_26 : decode cX11_word 26 = .ok (.aload_n 0, 1) := by decide +kernel
theorem dX11_word_27 : decode cX11_word 27 = .ok (.invokevirtual 107, 3) := by decide +kernel
theorem dX11_word_30 : decode cX11_word 30 = .ok (.aload_n 0, 1) := by decide +kernel
theorem dX11_word_31 : decode cX11_word 31 = .ok (.getfield 10, 3) := by decide +kernel
theorem dX11_word_34 : decode cX11_word 34 = .ok (.getfield 89, 3) := by decide +kernel
theorem dX11_word_37 : decode cX11_word 37 = .ok (.ifCond .eq 14, 3) := by decide +kernel
theorem dX11_word_40 : decode cX11_word 40 = .ok (.bipush (-30), 2) := by decide +kernel
theorem dX11_word_42 : decode cX11_word 42 = .ok (.aload_n 0, 1) := by decide +kernel
theorem dX11_word_43 : decode cX11_word 43 = .ok (.getfield 10, 3) := by decide +kernel
theorem dX11_word_46 : decode cX11_word 46 = .ok (.getfield 89, 3) := by decide +kernel
theorem dX11_word_49 : decode cX11_word 49 = .ok (.isub, 1) := by decide +kernel
theorem dX11_word_50 : decode cX11_word 50 = .ok (.ireturn, 1) := by decide +kernel
theorem dX11_word_51 : decode cX11_word 51 = .ok (.aload_n 0, 1) := by decide +kernel
theorem dX11_word_52 : decode cX11_word 52 = .ok (.getfield 33, 3) := by decide +kernel
theorem dX11_word_55 : decode cX11_word 55 = .ok (.aload_n 0, 1) := by decide +kernel
theorem dX11_word_56 : decode cX11_word 56 = .ok (.getfield 37, 3) := by decide +kernel
theorem dX11_word_59 : decode cX11_word 59 = .ok (.invokevirtual 110, 3) := by decide +kernel
theorem dX11_word_62 : decode cX11_word 62 = .ok (.aload_n 0, 1) := by decide +kernel
theorem dX11_word_63 : decode cX11_word 63 = .ok (.getfield 33, 3) := by decide +kernel
theorem dX11_word_66 : decode cX11_word 66 = .ok (.getfield 113, 3) := by decide +kernel
theorem dX11_word_69 : decode cX11_word 69 = .ok (.ireturn, 1) := by decide +kernel
theorem dX11_fault_0 : decode cX11_fault 0 = .ok (.iload_n 1, 1) := by decide +kernel
theorem dX11_fault_1 : decode cX11_fault 1 = .ok (.ifCond .ne 11, 3) := by decide +kernel
theorem dX11_fault_4 : decode cX11_fault 4 = .ok (.aload_n 0, 1) := by decide +kernel
theorem dX11_fault_5 : decode cX11_fault 5 = .ok (.getfield 10, 3) := by decide +kernel
theorem dX11_fault_8 : decode cX11_fault 8 = .ok (.getfield 89, 3) := by decide +kernel
theorem dX11_fault_11 : decode cX11_fault 11 = .ok (.ireturn, 1) := by decide +kernel
theorem dX11_fault_12 : decode cX11_fault 12 = .ok (.iload_n 1, 1) := by decide +kernel
theorem dX11_fault_13 : decode cX11_fault 13 = .ok (.iconst 1, 1) := by decide +kernel
theorem dX11_fault_14 : decode cX11_fault 14 = .ok (.if_icmp .ne 13, 3) := by decide +kernel
theorem dX11_fault_17 : decode cX11_fault 17 = .ok (.aload_n 0, 1) := by decide +kernel
theorem dX11_fault_18 : decode cX11_fault 18 = .ok (.getfield 10, 3) := by decide +kernel
theorem dX11_fault_21 : decode cX11_fault 21 = .ok (.getfield 116, 3) := by decide +kernel
theorem dX11_fault_24 : decode cX11_fault 24 = .ok (.goto 4, 3) := by decide +kernel
theorem dX11_fault_27 : decode cX11_fault 27 = .ok (.iconst (-1), 1) := by decide +kernel
theorem dX11_fault_28 : decode cX11_fault 28 = .ok (.ireturn, 1) := by decide +kernel
theorem dX11_accept_0 : decode cX11_accept 0 = .ok (.iload_n 1, 1) := by decide +kernel
theorem dX11_accept_1 : decode cX11_accept 1 = .ok (.invokestatic 78, 3) := by decide +kernel
theorem dX11_accept_4 : decode cX11_accept 4 = .ok (.ifCond .eq 20, 3) := by decide +kernel
theorem dX11_accept_7 : decode cX11_accept 7 = .ok (.iload_n 2, 1) := by decide +kernel
theorem dX11_accept_8 : decode cX11_accept 8 = .ok (.ifCond .lt 16, 3) := by decide +kernel
theorem dX11_accept_11 : decode cX11_accept 11 = .ok (.iload_n 2, 1) := by decide +kernel
theorem dX11_accept_12 : decode cX11_accept 12 = .ok (.aload_n 0, 1) := by decide +kernel
theorem dX11_accept_13 : decode cX11_accept 13 = .ok (.getfield 25, 3) := by decide +kernel
theorem dX11_accept_16 : decode cX11_accept 16 = .ok (.iload_n 1, 1) := by decide +kernel
theorem dX11_accept_17 : decode cX11_accept 17 = .ok (.aaload, 1) := by decide +kernel
theorem dX11_accept_18 : decode cX11_accept 18 = .ok (.getfield 119, 3) := by decide +kernel
theorem dX11_accept_21 : decode cX11_accept 21 = .ok (.if_icmp .lt 6, 3) := by decide +kernel
theorem dX11_accept_24 : decode cX11_accept 24 = .ok (.bipush (-2), 2) := by decide +kernel
theorem dX11_accept_26 : decode cX11_accept 26 = .ok (.ireturn, 1) := by decide +kernel
theorem dX11_accept_27 : decode cX11_accept 27 = .ok (.iload_n 3, 1) := by decide +kernel
theorem dX11_accept_28 : decode cX11_accept 28 = .ok (.ifCond .eq 11, 3) := by decide +kernel
theorem dX11_accept_31 : decode cX11_accept 31 = .ok (.iload_n 3, 1) := by decide +kernel
theorem dX11_accept_32 : decode cX11_accept 32 = .ok (.iconst 1, 1) := by decide +kernel
theorem dX11_accept_33 : decode cX11_accept 33 = .ok (.if_icmp .eq 6, 3) := by decide +kernel
theorem dX11_accept_36 : decode cX11_accept 36 = .ok (.bipush (-3), 2) := by decide +kernel
theorem dX11_accept_38 : decode cX11_accept 38 = .ok (.ireturn, 1) := by decide +kernel
theorem dX11_accept_39 : decode cX11_accept 39 = .ok (.aload_n 0, 1) := by decide +kernel
theorem dX11_accept_40 : decode cX11_accept 40 = .ok (.getfield 25, 3) := by decide +kernel
theorem dX11_accept_43 : decode cX11_accept 43 = .ok (.iload_n 1, 1) := by decide +kernel
theorem dX11_accept_44 : decode cX11_accept 44 = .ok (.aaload, 1) := by decide +kernel
theorem dX11_accept_45 : decode cX11_accept 45 = .ok (.astore 4, 2) := by decide +kernel
theorem dX11_accept_47 : decode cX11_accept 47 = .ok (.aload 4, 2) := by decide +kernel
theorem dX11_accept_49 : decode cX11_accept 49 = .ok (.getfield 122, 3) := by decide +kernel
theorem dX11_accept_52 : decode cX11_accept 52 = .ok (.iload_n 2, 1) := by decide +kernel
theorem dX11_accept_53 : decode cX11_accept 53 = .ok (.ishr, 1) := by decide +kernel
theorem dX11_accept_54 : decode cX11_accept 54 = .ok (.iconst 1, 1) := by decide +kernel
theorem dX11_accept_55 : decode cX11_accept 55 = .ok (.iand, 1) := by decide +kernel
theorem dX11_accept_56 : decode cX11_accept 56 = .ok (.istore 5, 2) := by decide +kernel
theorem dX11_accept_58 : decode cX11_accept 58 = .ok (.iload 5, 2) := by decide +kernel
theorem dX11_accept_60 : decode cX11_accept 60 = .ok (.iload_n 3, 1) := by decide +kernel
theorem dX11_accept_61 : decode cX11_accept 61 = .ok (.if_icmp .eq 21, 3) := by decide +kernel
theorem dX11_accept_64 : decode cX11_accept 64 = .ok (.aload 4, 2) := by decide +kernel
theorem dX11_accept_66 : decode cX11_accept 66 = .ok (.dup, 1) := by decide +kernel
theorem dX11_accept_67 : decode cX11_accept 67 = .ok (.getfield 122, 3) := by decide +kernel
theorem dX11_accept_70 : decode cX11_accept 70 = .ok (.iconst 1, 1) := by decide +kernel
theorem dX11_accept_71 : decode cX11_accept 71 = .ok (.iload_n 2, 1) := by decide +kernel
theorem dX11_accept_72 : decode cX11_accept 72 = .ok (.ishl, 1) := by decide +kernel
theorem dX11_accept_73 : decode cX11_accept 73 = .ok (.ixor, 1) := by decide +kernel
theorem dX11_accept_74 : decode cX11_accept 74 = .ok (.putfield 122, 3) := by decide +kernel
theorem dX11_accept_77 : decode cX11_accept 77 = .ok (.aload_n 0, 1) := by decide +kernel
theorem dX11_accept_78 : decode cX11_accept 78 = .ok (.iload_n 1, 1) := by decide +kernel
theorem dX11_accept_79 : decode cX11_accept 79 = .ok (.invokevirtual 100, 3) := by decide +kernel
theorem dX11_accept_82 : decode cX11_accept 82 = .ok (.iload 5, 2) := by decide +kernel
theorem dX11_accept_84 : decode cX11_accept 84 = .ok (.ireturn, 1) := by decide +kernel
theorem dX11_move_0 : decode cX11_move 0 = .ok (.iload_n 1, 1) := by decide +kernel
theorem dX11_move_1 : decode cX11_move 1 = .ok (.invokestatic 78, 3) := by decide +kernel
theorem dX11_move_4 : decode cX11_move 4 = .ok (.ifCond .eq 19, 3) := by decide +kernel
theorem dX11_move_7 : decode cX11_move 7 = .ok (.aload_n 0, 1) := by decide +kernel
theorem dX11_move_8 : decode cX11_move 8 = .ok (.getfield 25, 3) := by decide +kernel
theorem dX11_move_11 : decode cX11_move 11 = .ok (.iload_n 1, 1) := by decide +kernel
theorem dX11_move_12 : decode cX11_move 12 = .ok (.aaload, 1) := by decide +kernel
theorem dX11_move_13 : decode cX11_move 13 = .ok (.iload_n 2, 1) := by decide +kernel
theorem dX11_move_14 : decode cX11_move 14 = .ok (.iload_n 3, 1) := by decide +kernel
theorem dX11_move_15 : decode cX11_move 15 = .ok (.iload 4, 2) := by decide +kernel
theorem dX11_move_17 : decode cX11_move 17 = .ok (.invokevirtual 125, 3) := by decide +kernel
theorem dX11_move_20 : decode cX11_move 20 = .ok (.ifCond .ne 6, 3) := by decide +kernel
theorem dX11_move_23 : decode cX11_move 23 = .ok (.bipush (-2), 2) := by decide +kernel
theorem dX11_move_25 : decode cX11_move 25 = .ok (.ireturn, 1) := by decide +kernel
theorem dX11_move_26 : decode cX11_move 26 = .ok (.aload_n 0, 1) := by decide +kernel
theorem dX11_move_27 : decode cX11_move 27 = .ok (.getfield 25, 3) := by decide +kernel
theorem dX11_move_30 : decode cX11_move 30 = .ok (.iload_n 1, 1) := by decide +kernel
theorem dX11_move_31 : decode cX11_move 31 = .ok (.aaload, 1) := by decide +kernel
theorem dX11_move_32 : decode cX11_move 32 = .ok (.astore 8, 2) := by decide +kernel
theorem dX11_move_34 : decode cX11_move 34 = .ok (.iload 5, 2) := by decide +kernel
theorem dX11_move_36 : decode cX11_move 36 = .ok (.iconst (-1), 1) := by decide +kernel
theorem dX11_move_37 : decode cX11_move 37 = .ok (.if_icmp .lt 33, 3) := by decide +kernel
theorem dX11_move_40 : decode cX11_move 40 = .ok (.iload 5, 2) := by decide +kernel
theorem dX11_move_42 : decode cX11_move 42 = .ok (.aload 8, 2) := by decide +kernel
theorem dX11_move_44 : decode cX11_move 44 = .ok (.getfield 119, 3) := by decide +kernel
theorem dX11_move_47 : decode cX11_move 47 = .ok (.if_icmp .ge 23, 3) := by decide +kernel
theorem dX11_move_50 : decode cX11_move 50 = .ok (.aload 8, 2) := by decide +kernel
theorem dX11_move_52 : decode cX11_move 52 = .ok (.iload 6, 2) := by decide +kernel
theorem dX11_move_54 : decode cX11_move 54 = .ok (.invokevirtual 129, 3) := by decide +kernel
theorem dX11_move_57 : decode cX11_move 57 = .ok (.ifCond .eq 13, 3) := by decide +kernel
theorem dX11_move_60 : decode cX11_move 60 = .ok (.aload 8, 2) := by decide +kernel
theorem dX11_move_62 : decode cX11_move 62 = .ok (.iload 7, 2) := by decide +kernel
theorem dX11_move_64 : decode cX11_move 64 = .ok (.invokevirtual 129, 3) := by decide +kernel
theorem dX11_move_67 : decode cX11_move 67 = .ok (.ifCond .ne 6, 3) := by decide +kernel
theorem dX11_move_70 : decode cX11_move 70 = .ok (.bipush (-3), 2) := by decide +kernel
theorem dX11_move_72 : decode cX11_move 72 = .ok (.ireturn, 1) := by decide +kernel
theorem dX11_move_73 : decode cX11_move 73 = .ok (.iload_n 2, 1) := by decide +kernel
theorem dX11_move_74 : decode cX11_move 74 = .ok (.iload_n 3, 1) := by decide +kernel
theorem dX11_move_75 : decode cX11_move 75 = .ok (.iload 4, 2) := by decide +kernel
theorem dX11_move_77 : decode cX11_move 77 = .ok (.invokestatic 132, 3) := by decide +kernel
theorem dX11_move_80 : decode cX11_move 80 = .ok (.istore 9, 2) := by decide +kernel
theorem dX11_move_82 : decode cX11_move 82 = .ok (.aload 8, 2) := by decide +kernel
theorem dX11_move_84 : decode cX11_move 84 = .ok (.getfield 136, 3) := by decide +kernel
theorem dX11_move_87 : decode cX11_move 87 = .ok (.iload 9, 2) := by decide +kernel
theorem dX11_move_89 : decode cX11_move 89 = .ok (.iaload, 1) := by decide +kernel
theorem dX11_move_90 : decode cX11_move 90 = .ok (.iconst (-1), 1) := by decide +kernel
theorem dX11_move_91 : decode cX11_move 91 = .ok (.if_icmp .eq 7, 3) := by decide +kernel
theorem dX11_move_94 : decode cX11_move 94 = .ok (.iconst 1, 1) := by decide +kernel
theorem dX11_move_95 : decode cX11_move 95 = .ok (.goto 4, 3) := by decide +kernel
theorem dX11_move_98 : decode cX11_move 98 = .ok (.iconst 0, 1) := by decide +kernel
theorem dX11_move_99 : decode cX11_move 99 = .ok (.istore 10, 2) := by decide +kernel
theorem dX11_move_101 : decode cX11_move 101 = .ok (.iload 5, 2) := by decide +kernel
theorem dX11_move_103 : decode cX11_move 103 = .ok (.iconst (-1), 1) := by decide +kernel
theorem dX11_move_104 : decode cX11_move 104 = .ok (.if_icmp .ne 7, 3) := by decide +kernel
theorem dX11_move_107 : decode cX11_move 107 = .ok (.iconst (-1), 1) := by decide +kernel
theorem dX11_move_108 : decode cX11_move 108 = .ok (.goto 5, 3) := by decide +kernel
theorem dX11_move_111 : decode cX11_move 111 = .ok (.iload 6, 2) := by decide +kernel
theorem dX11_move_113 : decode cX11_move 113 = .ok (.istore 11, 2) := by decide +kernel
theorem dX11_move_115 : decode cX11_move 115 = .ok (.iload 5, 2) := by decide +kernel
theorem dX11_move_117 : decode cX11_move 117 = .ok (.iconst (-1), 1) := by decide +kernel
theorem dX11_move_118 : decode cX11_move 118 = .ok (.if_icmp .ne 7, 3) := by decide +kernel
theorem dX11_move_121 : decode cX11_move 121 = .ok (.iconst (-1), 1) := by decide +kernel
theorem dX11_move_122 : decode cX11_move 122 = .ok (.goto 5, 3) := by decide +kernel
theorem dX11_move_125 : decode cX11_move 125 = .ok (.iload 7, 2) := by decide +kernel
theorem dX11_move_127 : decode cX11_move 127 = .ok (.istore 12, 2) := by decide +kernel
theorem dX11_move_129 : decode cX11_move 129 = .ok (.aload 8, 2) := by decide +kernel
theorem dX11_move_131 : decode cX11_move 131 = .ok (.getfield 136, 3) := by decide +kernel
theorem dX11_move_134 : decode cX11_move 134 = .ok (.iload 9, 2) := by decide +kernel
theorem dX11_move_136 : decode cX11_move 136 = .ok (.iaload, 1) := by decide +kernel
theorem dX11_move_137 : decode cX11_move 137 = .ok (.iload 5, 2) := by decide +kernel
theorem dX11_move_139 : decode cX11_move 139 = .ok (.if_icmp .ne 29, 3) := by decide +kernel
theorem dX11_move_142 : decode cX11_move 142 = .ok (.aload 8, 2) := by decide +kernel
theorem dX11_move_144 : decode cX11_move 144 = .ok (.getfield 140, 3) := by decide +kernel
theorem dX11_move_147 : decode cX11_move 147 = .ok (.iload 9, 2) := by decide +kernel
theorem dX11_move_149 : decode cX11_move 149 = .ok (.iaload, 1) := by decide +kernel
theorem dX11_move_150 : decode cX11_move 150 = .ok (.iload 11, 2) := by decide +kernel
theorem dX11_move_152 : decode cX11_move 152 = .ok (.if_icmp .ne 16, 3) := by decide +kernel
theorem dX11_move_155 : decode cX11_move 155 = .ok (.aload 8, 2) := by decide +kernel
theorem dX11_move_157 : decode cX11_move 157 = .ok (.getfield 143, 3) := by decide +kernel
theorem dX11_move_160 : decode cX11_move 160 = .ok (.iload 9, 2) := by decide +kernel
theorem dX11_move_162 : decode cX11_move 162 = .ok (.iaload, 1) := by decide +kernel
theorem dX11_move_163 : decode cX11_move 163 = .ok (.iload 12, 2) := by decide +kernel
theorem dX11_move_165 : decode cX11_move 165 = .ok (.if_icmp .eq 21, 3) := by decide +kernel
theorem dX11_move_168 : decode cX11_move 168 = .ok (.aload 8, 2) := by decide +kernel
theorem dX11_move_170 : decode cX11_move 170 = .ok (.iload 9, 2) := by decide +kernel
theorem dX11_move_172 : decode cX11_move 172 = .ok (.iload 5, 2) := by decide +kernel
theorem dX11_move_174 : decode cX11_move 174 = .ok (.iload 11, 2) := by decide +kernel
theorem dX11_move_176 : decode cX11_move 176 = .ok (.iload 12, 2) := by decide +kernel
theorem dX11_move_178 : decode cX11_move 178 = .ok (.invokevirtual 146, 3) := by decide +kernel
theorem dX11_move_181 : decode cX11_move 181 = .ok (.aload_n 0, 1) := by decide +kernel
theorem dX11_move_182 : decode cX11_move 182 = .ok (.iload_n 1, 1) := by decide +kernel
theorem dX11_move_183 : decode cX11_move 183 = .ok (.invokevirtual 100, 3) := by decide +kernel
theorem dX11_move_186 : decode cX11_move 186 = .ok (.iload 10, 2) := by decide +kernel
theorem dX11_move_188 : decode cX11_move 188 = .ok (.ireturn, 1) := by decide +kernel
theorem dX11_of_0 : decode cX11_of 0 = .ok (.iload_n 1, 1) := by decide +kernel
theorem dX11_of_1 : decode cX11_of 1 = .ok (.invokestatic 78, 3) := by decide +kernel
theorem dX11_of_4 : decode cX11_of 4 = .ok (.ifCond .ne 6, 3) := by decide +kernel
theorem dX11_of_7 : decode cX11_of 7 = .ok (.bipush (-2), 2) := by decide +kernel
theorem dX11_of_9 : decode cX11_of 9 = .ok (.ireturn, 1) := by decide +kernel
theorem dX11_of_10 : decode cX11_of 10 = .ok (.aload_n 0, 1) := by decide +kernel
theorem dX11_of_11 : decode cX11_of 11 = .ok (.getfield 25, 3) := by decide +kernel
theorem dX11_of_14 : decode cX11_of 14 = .ok (.iload_n 1, 1) := by decide +kernel
theorem dX11_of_15 : decode cX11_of 15 = .ok (.aaload, 1) := by decide +kernel
theorem dX11_of_16 : decode cX11_of 16 = .ok (.astore_n 3, 1) := by decide +kernel
theorem dX11_of_17 : decode cX11_of 17 = .ok (.iload_n 2, 1) := by decide +kernel
theorem dX11_of_18 : decode cX11_of 18 = .ok (.tableswitch 59 0 4 #[34, 39, 44, 49, 54], 34) := by decide +kernel
theorem dX11_of_52 : decode cX11_of 52 = .ok (.aload_n 3, 1) := by decide +kernel
theorem dX11_of_53 : decode cX11_of 53 = .ok (.getfield 119, 3) := by decide +kernel
theorem dX11_of_56 : decode cX11_of 56 = .ok (.ireturn, 1) := by decide +kernel
theorem dX11_of_57 : decode cX11_of 57 = .ok (.aload_n 3, 1) := by decide +kernel
theorem dX11_of_58 : decode cX11_of 58 = .ok (.getfield 149, 3) := by decide +kernel
theorem dX11_of_61 : decode cX11_of 61 = .ok (.ireturn, 1) := by decide +kernel
theorem dX11_of_62 : decode cX11_of 62 = .ok (.aload_n 3, 1) := by decide +kernel
theorem dX11_of_63 : decode cX11_of 63 = .ok (.getfield 152, 3) := by decide +kernel
theorem dX11_of_66 : decode cX11_of 66 = .ok (.ireturn, 1) := by decide +kernel
theorem dX11_of_67 : decode cX11_of 67 = .ok (.aload_n 3, 1) := by decide +kernel
theorem dX11_of_68 : decode cX11_of 68 = .ok (.invokevirtual 103, 3) := by decide +kernel
theorem dX11_of_71 : decode cX11_of 71 = .ok (.ireturn, 1) := by decide +kernel
theorem dX11_of_72 : decode cX11_of 72 = .ok (.aload_n 3, 1) := by decide +kernel
theorem dX11_of_73 : decode cX11_of 73 = .ok (.getfield 122, 3) := by decide +kernel
theorem dX11_of_76 : decode cX11_of 76 = .ok (.ireturn, 1) := by decide +kernel
theorem dX11_of_77 : decode cX11_of 77 = .ok (.bipush (-2), 2) := by decide +kernel
theorem dX11_of_79 : decode cX11_of 79 = .ok (.ireturn, 1) := by decide +kernel
theorem dX11_moved_0 : decode cX11_moved 0 = .ok (.iload_n 1, 1) := by decide +kernel
theorem dX11_moved_1 : decode cX11_moved 1 = .ok (.invokestatic 78, 3) := by decide +kernel
theorem dX11_moved_4 : decode cX11_moved 4 = .ok (.ifCond .eq 19, 3) := by decide +kernel
theorem dX11_moved_7 : decode cX11_moved 7 = .ok (.aload_n 0, 1) := by decide +kernel
theorem dX11_moved_8 : decode cX11_moved 8 = .ok (.getfield 25, 3) := by decide +kernel
theorem dX11_moved_11 : decode cX11_moved 11 = .ok (.iload_n 1, 1) := by decide +kernel
theorem dX11_moved_12 : decode cX11_moved 12 = .ok (.aaload, 1) := by decide +kernel
theorem dX11_moved_13 : decode cX11_moved 13 = .ok (.iload_n 2, 1) := by decide +kernel
theorem dX11_moved_14 : decode cX11_moved 14 = .ok (.iload_n 3, 1) := by decide +kernel
theorem dX11_moved_15 : decode cX11_moved 15 = .ok (.iload 4, 2) := by decide +kernel
theorem dX11_moved_17 : decode cX11_moved 17 = .ok (.invokevirtual 125, 3) := by decide +kernel
theorem dX11_moved_20 : decode cX11_moved 20 = .ok (.ifCond .ne 6, 3) := by decide +kernel
theorem dX11_moved_23 : decode cX11_moved 23 = .ok (.bipush (-2), 2) := by decide +kernel
theorem dX11_moved_25 : decode cX11_moved 25 = .ok (.ireturn, 1) := by decide +kernel
theorem dX11_moved_26 : decode cX11_moved 26 = .ok (.aload_n 0, 1) := by decide +kernel
theorem dX11_moved_27 : decode cX11_moved 27 = .ok (.getfield 25, 3) := by decide +kernel
theorem dX11_moved_30 : decode cX11_moved 30 = .ok (.iload_n 1, 1) := by decide +kernel
theorem dX11_moved_31 : decode cX11_moved 31 = .ok (.aaload, 1) := by decide +kernel
theorem dX11_moved_32 : decode cX11_moved 32 = .ok (.astore 6, 2) := by decide +kernel
theorem dX11_moved_34 : decode cX11_moved 34 = .ok (.iload_n 2, 1) := by decide +kernel
theorem dX11_moved_35 : decode cX11_moved 35 = .ok (.iload_n 3, 1) := by decide +kernel
theorem dX11_moved_36 : decode cX11_moved 36 = .ok (.iload 4, 2) := by decide +kernel
theorem dX11_moved_38 : decode cX11_moved 38 = .ok (.invokestatic 132, 3) := by decide +kernel
theorem dX11_moved_41 : decode cX11_moved 41 = .ok (.istore 7, 2) := by decide +kernel
theorem dX11_moved_43 : decode cX11_moved 43 = .ok (.iload 5, 2) := by decide +kernel
theorem dX11_moved_45 : decode cX11_moved 45 = .ok (.tableswitch 54 0 2 #[27, 36, 45], 27) := by decide +kernel
theorem dX11_moved_72 : decode cX11_moved 72 = .ok (.aload 6, 2) := by decide +kernel
theorem dX11_moved_74 : decode cX11_moved 74 = .ok (.getfield 136, 3) := by decide +kernel
theorem dX11_moved_77 : decode cX11_moved 77 = .ok (.iload 7, 2) := by decide +kernel
theorem dX11_moved_79 : decode cX11_moved 79 = .ok (.iaload, 1) := by decide +kernel
theorem dX11_moved_80 : decode cX11_moved 80 = .ok (.ireturn, 1) := by decide +kernel
theorem dX11_moved_81 : decode cX11_moved 81 = .ok (.aload 6, 2) := by decide +kernel
theorem dX11_moved_83 : decode cX11_moved 83 = .ok (.getfield 140, 3) := by decide +kernel
theorem dX11_moved_86 : decode cX11_moved 86 = .ok (.iload 7, 2) := by decide +kernel
theorem dX11_moved_88 : decode cX11_moved 88 = .ok (.iaload, 1) := by decide +kernel
theorem dX11_moved_89 : decode cX11_moved 89 = .ok (.ireturn, 1) := by decide +kernel
theorem dX11_moved_90 : decode cX11_moved 90 = .ok (.aload 6, 2) := by decide +kernel
theorem dX11_moved_92 : decode cX11_moved 92 = .ok (.getfield 143, 3) := by decide +kernel
theorem dX11_moved_95 : decode cX11_moved 95 = .ok (.iload 7, 2) := by decide +kernel
theorem dX11_moved_97 : decode cX11_moved 97 = .ok (.iaload, 1) := by decide +kernel
theorem dX11_moved_98 : decode cX11_moved 98 = .ok (.ireturn, 1) := by decide +kernel
theorem dX11_moved_99 : decode cX11_moved 99 = .ok (.bipush (-2), 2) := by decide +kernel
theorem dX11_moved_101 : decode cX11_moved 101 = .ok (.ireturn, 1) := by decide +kernel
theorem dX11_ask_0 : decode cX11_ask 0 = .ok (.iload_n 1, 1) := by decide +kernel
theorem dX11_ask_1 : decode cX11_ask 1 = .ok (.invokestatic 78, 3) := by decide +kernel
theorem dX11_ask_4 : decode cX11_ask 4 = .ok (.ifCond .ne 6, 3) := by decide +kernel
theorem dX11_ask_7 : decode cX11_ask 7 = .ok (.bipush (-2), 2) := by decide +kernel
theorem dX11_ask_9 : decode cX11_ask 9 = .ok (.ireturn, 1) := by decide +kernel
theorem dX11_ask_10 : decode cX11_ask 10 = .ok (.aload_n 0, 1) := by decide +kernel
theorem dX11_ask_11 : decode cX11_ask 11 = .ok (.getfield 25, 3) := by decide +kernel
theorem dX11_ask_14 : decode cX11_ask 14 = .ok (.iload_n 1, 1) := by decide +kernel
theorem dX11_ask_15 : decode cX11_ask 15 = .ok (.aaload, 1) := by decide +kernel
theorem dX11_ask_16 : decode cX11_ask 16 = .ok (.aload_n 0, 1) := by decide +kernel
theorem dX11_ask_17 : decode cX11_ask 17 = .ok (.getfield 62, 3) := by decide +kernel
theorem dX11_ask_20 : decode cX11_ask 20 = .ok (.aload_n 0, 1) := by decide +kernel
theorem dX11_ask_21 : decode cX11_ask 21 = .ok (.getfield 33, 3) := by decide +kernel
theorem dX11_ask_24 : decode cX11_ask 24 = .ok (.aload_n 0, 1) := by decide +kernel
theorem dX11_ask_25 : decode cX11_ask 25 = .ok (.getfield 33, 3) := by decide +kernel
theorem dX11_ask_28 : decode cX11_ask 28 = .ok (.getfield 113, 3) := by decide +kernel
theorem dX11_ask_31 : decode cX11_ask 31 = .ok (.invokevirtual 155, 3) := by decide +kernel
theorem dX11_ask_34 : decode cX11_ask 34 = .ok (.aload_n 0, 1) := by decide +kernel
theorem dX11_ask_35 : decode cX11_ask 35 = .ok (.getfield 25, 3) := by decide +kernel
theorem dX11_ask_38 : decode cX11_ask 38 = .ok (.iload_n 1, 1) := by decide +kernel
theorem dX11_ask_39 : decode cX11_ask 39 = .ok (.aaload, 1) := by decide +kernel
theorem dX11_ask_40 : decode cX11_ask 40 = .ok (.aload_n 0, 1) := by decide +kernel
theorem dX11_ask_41 : decode cX11_ask 41 = .ok (.getfield 62, 3) := by decide +kernel
theorem dX11_ask_44 : decode cX11_ask 44 = .ok (.invokevirtual 159, 3) := by decide +kernel
theorem dX11_ask_47 : decode cX11_ask 47 = .ok (.ifCond .eq 7, 3) := by decide +kernel
theorem dX11_ask_50 : decode cX11_ask 50 = .ok (.iconst 1, 1) := by decide +kernel
theorem dX11_ask_51 : decode cX11_ask 51 = .ok (.goto 4, 3) := by decide +kernel
theorem dX11_ask_54 : decode cX11_ask 54 = .ok (.iconst 0, 1) := by decide +kernel
theorem dX11_ask_55 : decode cX11_ask 55 = .ok (.ireturn, 1) := by decide +kernel
theorem dX11_behind_0 : decode cX11_behind 0 = .ok (.iload_n 1, 1) := by decide +kernel
theorem dX11_behind_1 : decode cX11_behind 1 = .ok (.invokestatic 78, 3) := by decide +kernel
theorem dX11_behind_4 : decode cX11_behind 4 = .ok (.ifCond .eq 12, 3) := by decide +kernel
theorem dX11_behind_7 : decode cX11_behind 7 = .ok (.iload_n 3, 1) := by decide +kernel
theorem dX11_behind_8 : decode cX11_behind 8 = .ok (.ifCond .lt 8, 3) := by decide +kernel
theorem dX11_behind_11 : decode cX11_behind 11 = .ok (.iload_n 3, 1) := by decide +kernel
theorem dX11_behind_12 : decode cX11_behind 12 = .ok (.iconst 2, 1) := by decide +kernel
theorem dX11_behind_13 : decode cX11_behind 13 = .ok (.if_icmp .le 6, 3) := by decide +kernel
theorem dX11_behind_16 : decode cX11_behind 16 = .ok (.bipush (-2), 2) := by decide +kernel
theorem dX11_behind_18 : decode cX11_behind 18 = .ok (.ireturn, 1) := by decide +kernel
theorem dX11_behind_19 : decode cX11_behind 19 = .ok (.iload_n 2, 1) := by decide +kernel
theorem dX11_behind_20 : decode cX11_behind 20 = .ok (.ifCond .lt 14, 3) := by decide +kernel
theorem dX11_behind_23 : decode cX11_behind 23 = .ok (.iload_n 2, 1) := by decide +kernel
theorem dX11_behind_24 : decode cX11_behind 24 = .ok (.aload_n 0, 1) := by decide +kernel
theorem dX11_behind_25 : decode cX11_behind 25 = .ok (.getfield 33, 3) := by decide +kernel
theorem dX11_behind_28 : decode cX11_behind 28 = .ok (.getfield 113, 3) := by decide +kernel
theorem dX11_behind_31 : decode cX11_behind 31 = .ok (.if_icmp .le 6, 3) := by decide +kernel
theorem dX11_behind_34 : decode cX11_behind 34 = .ok (.bipush (-3), 2) := by decide +kernel
theorem dX11_behind_36 : decode cX11_behind 36 = .ok (.ireturn, 1) := by decide +kernel
theorem dX11_behind_37 : decode cX11_behind 37 = .ok (.aload_n 0, 1) := by decide +kernel
theorem dX11_behind_38 : decode cX11_behind 38 = .ok (.getfield 25, 3) := by decide +kernel
theorem dX11_behind_41 : decode cX11_behind 41 = .ok (.iload_n 1, 1) := by decide +kernel
theorem dX11_behind_42 : decode cX11_behind 42 = .ok (.aaload, 1) := by decide +kernel
theorem dX11_behind_43 : decode cX11_behind 43 = .ok (.aload_n 0, 1) := by decide +kernel
theorem dX11_behind_44 : decode cX11_behind 44 = .ok (.getfield 62, 3) := by decide +kernel
theorem dX11_behind_47 : decode cX11_behind 47 = .ok (.aload_n 0, 1) := by decide +kernel
theorem dX11_behind_48 : decode cX11_behind 48 = .ok (.getfield 33, 3) := by decide +kernel
theorem dX11_behind_51 : decode cX11_behind 51 = .ok (.iload_n 2, 1) := by decide +kernel
theorem dX11_behind_52 : decode cX11_behind 52 = .ok (.invokevirtual 155, 3) := by decide +kernel
theorem dX11_behind_55 : decode cX11_behind 55 = .ok (.aload_n 0, 1) := by decide +kernel
theorem dX11_behind_56 : decode cX11_behind 56 = .ok (.getfield 62, 3) := by decide +kernel
theorem dX11_behind_59 : decode cX11_behind 59 = .ok (.iload_n 3, 1) := by decide +kernel
theorem dX11_behind_60 : decode cX11_behind 60 = .ok (.invokevirtual 163, 3) := by decide +kernel
theorem dX11_behind_63 : decode cX11_behind 63 = .ok (.ireturn, 1) := by decide +kernel
theorem dX11_countTaken_0 : decode cX11_countTaken 0 = .ok (.aload_n 1, 1) := by decide +kernel
theorem dX11_countTaken_1 : decode cX11_countTaken 1 = .ok (.iload_n 2, 1) := by decide +kernel
theorem dX11_countTaken_2 : decode cX11_countTaken 2 = .ok (.aaload, 1) := by decide +kernel
theorem dX11_countTaken_3 : decode cX11_countTaken 3 = .ok (.astore 5, 2) := by decide +kernel
theorem dX11_countTaken_5 : decode cX11_countTaken 5 = .ok (.iload_n 2, 1) := by decide +kernel
theorem dX11_countTaken_6 : decode cX11_countTaken 6 = .ok (.iload 4, 2) := by decide +kernel
theorem dX11_countTaken_8 : decode cX11_countTaken 8 = .ok (.if_icmp .ge 20, 3) := by decide +kernel
theorem dX11_countTaken_11 : decode cX11_countTaken 11 = .ok (.iload_n 2, 1) := by decide +kernel
theorem dX11_countTaken_12 : decode cX11_countTaken 12 = .ok (.iconst 1, 1) := by decide +kernel
theorem dX11_countTaken_13 : decode cX11_countTaken 13 = .ok (.iadd, 1) := by decide +kernel
theorem dX11_countTaken_14 : decode cX11_countTaken 14 = .ok (.aload_n 1, 1) := by decide +kernel
theorem dX11_countTaken_15 : decode cX11_countTaken 15 = .ok (.arraylength, 1) := by decide +kernel
theorem dX11_countTaken_16 : decode cX11_countTaken 16 = .ok (.if_icmp .ge 12, 3) := by decide +kernel
theorem dX11_countTaken_19 : decode cX11_countTaken 19 = .ok (.aload 5, 2) := by decide +kernel
theorem dX11_countTaken_21 : decode cX11_countTaken 21 = .ok (.getfield 347, 3) := by decide +kernel
theorem dX11_countTaken_24 : decode cX11_countTaken 24 = .ok (.iconst (-1), 1) := by decide +kernel
theorem dX11_countTaken_25 : decode cX11_countTaken 25 = .ok (.if_icmp .ne 24, 3) := by decide +kernel
theorem dX11_countTaken_28 : decode cX11_countTaken 28 = .ok (.iload_n 2, 1) := by decide +kernel
theorem dX11_countTaken_29 : decode cX11_countTaken 29 = .ok (.iload 4, 2) := by decide +kernel
theorem dX11_countTaken_31 : decode cX11_countTaken 31 = .ok (.if_icmp .ne 16, 3) := by decide +kernel
theorem dX11_countTaken_34 : decode cX11_countTaken 34 = .ok (.aload_n 0, 1) := by decide +kernel
theorem dX11_countTaken_35 : decode cX11_countTaken 35 = .ok (.aload 5, 2) := by decide +kernel
theorem dX11_countTaken_37 : decode cX11_countTaken 37 = .ok (.invokevirtual 159, 3) := by decide +kernel
theorem dX11_countTaken_40 : decode cX11_countTaken 40 = .ok (.ifCond .eq 7, 3) := by decide +kernel
theorem dX11_countTaken_43 : decode cX11_countTaken 43 = .ok (.iconst 1, 1) := by decide +kernel
theorem dX11_countTaken_44 : decode cX11_countTaken 44 = .ok (.goto 4, 3) := by decide +kernel
theorem dX11_countTaken_47 : decode cX11_countTaken 47 = .ok (.iconst 0, 1) := by decide +kernel
theorem dX11_countTaken_48 : decode cX11_countTaken 48 = .ok (.ireturn, 1) := by decide +kernel
theorem dX11_countTaken_49 : decode cX11_countTaken 49 = .ok (.iconst 0, 1) := by decide +kernel
theorem dX11_countTaken_50 : decode cX11_countTaken 50 = .ok (.istore 6, 2) := by decide +kernel
theorem dX11_countTaken_52 : decode cX11_countTaken 52 = .ok (.iconst 0, 1) := by decide +kernel
theorem dX11_countTaken_53 : decode cX11_countTaken 53 = .ok (.istore 7, 2) := by decide +kernel
theorem dX11_countTaken_55 : decode cX11_countTaken 55 = .ok (.iload 7, 2) := by decide +kernel
theorem dX11_countTaken_57 : decode cX11_countTaken 57 = .ok (.aload_n 0, 1) := by decide +kernel
theorem dX11_countTaken_58 : decode cX11_countTaken 58 = .ok (.getfield 152, 3) := by decide +kernel
theorem dX11_countTaken_61 : decode cX11_countTaken 61 = .ok (.if_icmp .ge 75, 3) := by decide +kernel
theorem dX11_countTaken_64 : decode cX11_countTaken 64 = .ok (.iconst 0, 1) := by decide +kernel
theorem dX11_countTaken_65 : decode cX11_countTaken 65 = .ok (.istore 8, 2) := by decide +kernel
theorem dX11_countTaken_67 : decode cX11_countTaken 67 = .ok (.iload 8, 2) := by decide +kernel
theorem dX11_countTaken_69 : decode cX11_countTaken 69 = .ok (.iload_n 3, 1) := by decide +kernel
theorem dX11_countTaken_70 : decode cX11_countTaken 70 = .ok (.if_icmp .gt 60, 3) := by decide +kernel
theorem dX11_countTaken_73 : decode cX11_countTaken 73 = .ok (.aload_n 1, 1) := by decide +kernel
theorem dX11_countTaken_74 : decode cX11_countTaken 74 = .ok (.iload_n 2, 1) := by decide +kernel
theorem dX11_countTaken_75 : decode cX11_countTaken 75 = .ok (.iconst 1, 1) := by decide +kernel
theorem dX11_countTaken_76 : decode cX11_countTaken 76 = .ok (.iadd, 1) := by decide +kernel
theorem dX11_countTaken_77 : decode cX11_countTaken 77 = .ok (.aaload, 1) := by decide +kernel
theorem dX11_countTaken_78 : decode cX11_countTaken 78 = .ok (.aload 5, 2) := by decide +kernel
theorem dX11_countTaken_80 : decode cX11_countTaken 80 = .ok (.invokevirtual 350, 3) := by decide +kernel
theorem dX11_countTaken_83 : decode cX11_countTaken 83 = .ok (.aload_n 0, 1) := by decide +kernel
theorem dX11_countTaken_84 : decode cX11_countTaken 84 = .ok (.aload_n 1, 1) := by decide +kernel
theorem dX11_countTaken_85 : decode cX11_countTaken 85 = .ok (.iload_n 2, 1) := by decide +kernel
theorem dX11_countTaken_86 : decode cX11_countTaken 86 = .ok (.iconst 1, 1) := by decide +kernel
theorem dX11_countTaken_87 : decode cX11_countTaken 87 = .ok (.iadd, 1) := by decide +kernel
theorem dX11_countTaken_88 : decode cX11_countTaken 88 = .ok (.aaload, 1) := by decide +kernel
theorem dX11_countTaken_89 : decode cX11_countTaken 89 = .ok (.iload 7, 2) := by decide +kernel
theorem dX11_countTaken_91 : decode cX11_countTaken 91 = .ok (.iload 8, 2) := by decide +kernel
theorem dX11_countTaken_93 : decode cX11_countTaken 93 = .ok (.invokevirtual 353, 3) := by decide +kernel
theorem dX11_countTaken_96 : decode cX11_countTaken 96 = .ok (.iload 6, 2) := by decide +kernel
theorem dX11_countTaken_98 : decode cX11_countTaken 98 = .ok (.aload_n 0, 1) := by decide +kernel
theorem dX11_countTaken_99 : decode cX11_countTaken 99 = .ok (.aload_n 1, 1) := by decide +kernel
theorem dX11_countTaken_100 : decode cX11_countTaken 100 = .ok (.iload_n 2, 1) := by decide +kernel
theorem dX11_countTaken_101 : decode cX11_countTaken 101 = .ok (.iconst 1, 1) := by decide +kernel
theorem dX11_countTaken_102 : decode cX11_countTaken 102 = .ok (.iadd, 1) := by decide +kernel
theorem dX11_countTaken_103 : decode cX11_countTaken 103 = .ok (.iload 8, 2) := by decide +kernel
theorem dX11_countTaken_105 : decode cX11_countTaken 105 = .ok (.iload_n 3, 1) := by decide +kernel
theorem dX11_countTaken_106 : decode cX11_countTaken 106 = .ok (.if_icmp .ne 9, 3) := by decide +kernel
theorem dX11_countTaken_109 : decode cX11_countTaken 109 = .ok (.iload_n 3, 1) := by decide +kernel
theorem dX11_countTaken_110 : decode cX11_countTaken 110 = .ok (.iconst 1, 1) := by decide +kernel
theorem dX11_countTaken_111 : decode cX11_countTaken 111 = .ok (.iadd, 1) := by decide +kernel
theorem dX11_countTaken_112 : decode cX11_countTaken 112 = .ok (.goto 4, 3) := by decide +kernel
theorem dX11_countTaken_115 : decode cX11_countTaken 115 = .ok (.iload_n 3, 1) := by decide +kernel
theorem dX11_countTaken_116 : decode cX11_countTaken 116 = .ok (.iload 4, 2) := by decide +kernel
theorem dX11_countTaken_118 : decode cX11_countTaken 118 = .ok (.invokestatic 170, 3) := by decide +kernel
theorem dX11_countTaken_121 : decode cX11_countTaken 121 = .ok (.iadd, 1) := by decide +kernel
theorem dX11_countTaken_122 : decode cX11_countTaken 122 = .ok (.istore 6, 2) := by decide +kernel
theorem dX11_countTaken_124 : decode cX11_countTaken 124 = .ok (.iinc 8 1, 3) := by decide +kernel
theorem dX11_countTaken_127 : decode cX11_countTaken 127 = .ok (.goto (-60), 3) := by decide +kernel
theorem dX11_countTaken_130 : decode cX11_countTaken 130 = .ok (.iinc 7 1, 3) := by decide +kernel
theorem dX11_countTaken_133 : decode cX11_countTaken 133 = .ok (.goto (-78), 3) := by decide +kernel
theorem dX11_countTaken_136 : decode cX11_countTaken 136 = .ok (.iload 6, 2) := by decide +kernel
theorem dX11_countTaken_138 : decode cX11_countTaken 138 = .ok (.ireturn, 1) := by decide +kernel
theorem dX11_many_0 : decode cX11_many 0 = .ok (.iload_n 1, 1) := by decide +kernel
theorem dX11_many_1 : decode cX11_many 1 = .ok (.invokestatic 78, 3) := by decide +kernel
theorem dX11_many_4 : decode cX11_many 4 = .ok (.ifCond .ne 6, 3) := by decide +kernel
theorem dX11_many_7 : decode cX11_many 7 = .ok (.bipush (-2), 2) := by decide +kernel
theorem dX11_many_9 : decode cX11_many 9 = .ok (.ireturn, 1) := by decide +kernel
theorem dX11_many_10 : decode cX11_many 10 = .ok (.iload_n 2, 1) := by decide +kernel
theorem dX11_many_11 : decode cX11_many 11 = .ok (.ifCond .lt 8, 3) := by decide +kernel
theorem dX11_many_14 : decode cX11_many 14 = .ok (.iload_n 2, 1) := by decide +kernel
theorem dX11_many_15 : decode cX11_many 15 = .ok (.iconst 5, 1) := by decide +kernel
theorem dX11_many_16 : decode cX11_many 16 = .ok (.if_icmp .le 6, 3) := by decide +kernel
theorem dX11_many_19 : decode cX11_many 19 = .ok (.bipush (-3), 2) := by decide +kernel
theorem dX11_many_21 : decode cX11_many 21 = .ok (.ireturn, 1) := by decide +kernel
theorem dX11_many_22 : decode cX11_many 22 = .ok (.aload_n 0, 1) := by decide +kernel
theorem dX11_many_23 : decode cX11_many 23 = .ok (.getfield 66, 3) := by decide +kernel
theorem dX11_many_26 : decode cX11_many 26 = .ok (.iconst 0, 1) := by decide +kernel
theorem dX11_many_27 : decode cX11_many 27 = .ok (.aaload, 1) := by decide +kernel
theorem dX11_many_28 : decode cX11_many 28 = .ok (.invokevirtual 167, 3) := by decide +kernel
theorem dX11_many_31 : decode cX11_many 31 = .ok (.aload_n 0, 1) := by decide +kernel
theorem dX11_many_32 : decode cX11_many 32 = .ok (.getfield 25, 3) := by decide +kernel
theorem dX11_many_35 : decode cX11_many 35 = .ok (.iload_n 1, 1) := by decide +kernel
theorem dX11_many_36 : decode cX11_many 36 = .ok (.aaload, 1) := by decide +kernel
theorem dX11_many_37 : decode cX11_many 37 = .ok (.aload_n 0, 1) := by decide +kernel
theorem dX11_many_38 : decode cX11_many 38 = .ok (.getfield 66, 3) := by decide +kernel
theorem dX11_many_41 : decode cX11_many 41 = .ok (.iconst 0, 1) := by decide +kernel
theorem dX11_many_42 : decode cX11_many 42 = .ok (.iconst 0, 1) := by decide +kernel
theorem dX11_many_43 : decode cX11_many 43 = .ok (.iload_n 2, 1) := by decide +kernel
theorem dX11_many_44 : decode cX11_many 44 = .ok (.invokestatic 170, 3) := by decide +kernel
theorem dX11_many_47 : decode cX11_many 47 = .ok (.ireturn, 1) := by decide +kernel
theorem dX11_bitsOf_0 : decode cX11_bitsOf 0 = .ok (.fload_n 0, 1) := by decide +kernel
theorem dX11_bitsOf_1 : decode cX11_bitsOf 1 = .ok (.fconst 0, 1) := by decide +kernel
theorem dX11_bitsOf_2 : decode cX11_bitsOf 2 = .ok (.fcmp .l, 1) := by decide +kernel
theorem dX11_bitsOf_3 : decode cX11_bitsOf 3 = .ok (.ifCond .gt 5, 3) := by decide +kernel
theorem dX11_bitsOf_6 : decode cX11_bitsOf 6 = .ok (.iconst 0, 1) := by decide +kernel
theorem dX11_bitsOf_7 : decode cX11_bitsOf 7 = .ok (.ireturn, 1) := by decide +kernel
theorem dX11_bitsOf_8 : decode cX11_bitsOf 8 = .ok (.fload_n 0, 1) := by decide +kernel
theorem dX11_bitsOf_9 : decode cX11_bitsOf 9 = .ok (.fstore_n 1, 1) := by decide +kernel
theorem dX11_bitsOf_10 : decode cX11_bitsOf 10 = .ok (.bipush 127, 2) := by decide +kernel
theorem dX11_bitsOf_12 : decode cX11_bitsOf 12 = .ok (.istore_n 2, 1) := by decide +kernel
theorem dX11_bitsOf_13 : decode cX11_bitsOf 13 = .ok (.iconst 0, 1) := by decide +kernel
theorem dX11_bitsOf_14 : decode cX11_bitsOf 14 = .ok (.istore_n 3, 1) := by decide +kernel
theorem dX11_bitsOf_15 : decode cX11_bitsOf 15 = .ok (.iload_n 3, 1) := by decide +kernel
theorem dX11_bitsOf_16 : decode cX11_bitsOf 16 = .ok (.bipush 30, 2) := by decide +kernel
theorem dX11_bitsOf_18 : decode cX11_bitsOf 18 = .ok (.if_icmp .ge 22, 3) := by decide +kernel
theorem dX11_bitsOf_21 : decode cX11_bitsOf 21 = .ok (.fload_n 1, 1) := by decide +kernel
theorem dX11_bitsOf_22 : decode cX11_bitsOf 22 = .ok (.fconst 1, 1) := by decide +kernel
theorem dX11_bitsOf_23 : decode cX11_bitsOf 23 = .ok (.fcmp .g, 1) := by decide +kernel
theorem dX11_bitsOf_24 : decode cX11_bitsOf 24 = .ok (.ifCond .ge 16, 3) := by decide +kernel
theorem dX11_bitsOf_27 : decode cX11_bitsOf 27 = .ok (.fload_n 1, 1) := by decide +kernel
theorem dX11_bitsOf_28 : decode cX11_bitsOf 28 = .ok (.fconst 2, 1) := by decide +kernel
theorem dX11_bitsOf_29 : decode cX11_bitsOf 29 = .ok (.fmul, 1) := by decide +kernel
theorem dX11_bitsOf_30 : decode cX11_bitsOf 30 = .ok (.fstore_n 1, 1) := by decide +kernel
theorem dX11_bitsOf_31 : decode cX11_bitsOf 31 = .ok (.iinc 2 (-1), 3) := by decide +kernel
theorem dX11_bitsOf_34 : decode cX11_bitsOf 34 = .ok (.iinc 3 1, 3) := by decide +kernel
theorem dX11_bitsOf_37 : decode cX11_bitsOf 37 = .ok (.goto (-22), 3) := by decide +kernel
theorem dX11_bitsOf_40 : decode cX11_bitsOf 40 = .ok (.iload_n 2, 1) := by decide +kernel
theorem dX11_bitsOf_41 : decode cX11_bitsOf 41 = .ok (.bipush 23, 2) := by decide +kernel
theorem dX11_bitsOf_43 : decode cX11_bitsOf 43 = .ok (.ishl, 1) := by decide +kernel
theorem dX11_bitsOf_44 : decode cX11_bitsOf 44 = .ok (.fload_n 1, 1) := by decide +kernel
theorem dX11_bitsOf_45 : decode cX11_bitsOf 45 = .ok (.fconst 1, 1) := by decide +kernel
theorem dX11_bitsOf_46 : decode cX11_bitsOf 46 = .ok (.fsub, 1) := by decide +kernel
theorem dX11_bitsOf_47 : decode cX11_bitsOf 47 = .ok (.ldc_w 357, 3) := by decide +kernel
theorem dX11_bitsOf_50 : decode cX11_bitsOf 50 = .ok (.fmul, 1) := by decide +kernel
theorem dX11_bitsOf_51 : decode cX11_bitsOf 51 = .ok (.f2i, 1) := by decide +kernel
theorem dX11_bitsOf_52 : decode cX11_bitsOf 52 = .ok (.ior, 1) := by decide +kernel
theorem dX11_bitsOf_53 : decode cX11_bitsOf 53 = .ok (.ireturn, 1) := by decide +kernel
theorem dX11_share_0 : decode cX11_share 0 = .ok (.aload_n 0, 1) := by decide +kernel
theorem dX11_share_1 : decode cX11_share 1 = .ok (.iload_n 1, 1) := by decide +kernel
theorem dX11_share_2 : decode cX11_share 2 = .ok (.iload_n 2, 1) := by decide +kernel
theorem dX11_share_3 : decode cX11_share 3 = .ok (.invokevirtual 174, 3) := by decide +kernel
theorem dX11_share_6 : decode cX11_share 6 = .ok (.istore_n 3, 1) := by decide +kernel
theorem dX11_share_7 : decode cX11_share 7 = .ok (.iload_n 3, 1) := by decide +kernel
theorem dX11_share_8 : decode cX11_share 8 = .ok (.ifCond .ge 5, 3) := by decide +kernel
theorem dX11_share_11 : decode cX11_share 11 = .ok (.iload_n 3, 1) := by decide +kernel
theorem dX11_share_12 : decode cX11_share 12 = .ok (.ireturn, 1) := by decide +kernel
theorem dX11_share_13 : decode cX11_share 13 = .ok (.getstatic 178, 3) := by decide +kernel
theorem dX11_share_16 : decode cX11_share 16 = .ok (.iload_n 2, 1) := by decide +kernel
theorem dX11_share_17 : decode cX11_share 17 = .ok (.iaload, 1) := by decide +kernel
theorem dX11_share_18 : decode cX11_share 18 = .ok (.istore 4, 2) := by decide +kernel
theorem dX11_share_20 : decode cX11_share 20 = .ok (.iconst 0, 1) := by decide +kernel
theorem dX11_share_21 : decode cX11_share 21 = .ok (.istore 5, 2) := by decide +kernel
theorem dX11_share_23 : decode cX11_share 23 = .ok (.iload 5, 2) := by decide +kernel
theorem dX11_share_25 : decode cX11_share 25 = .ok (.iload_n 2, 1) := by decide +kernel
theorem dX11_share_26 : decode cX11_share 26 = .ok (.if_icmp .ge 23, 3) := by decide +kernel
theorem dX11_share_29 : decode cX11_share 29 = .ok (.iload 4, 2) := by decide +kernel
theorem dX11_share_31 : decode cX11_share 31 = .ok (.aload_n 0, 1) := by decide +kernel
theorem dX11_share_32 : decode cX11_share 32 = .ok (.getfield 25, 3) := by decide +kernel
theorem dX11_share_35 : decode cX11_share 35 = .ok (.iload_n 1, 1) := by decide +kernel
theorem dX11_share_36 : decode cX11_share 36 = .ok (.aaload, 1) := by decide +kernel
theorem dX11_share_37 : decode cX11_share 37 = .ok (.getfield 152, 3) := by decide +kernel
theorem dX11_share_40 : decode cX11_share 40 = .ok (.imul, 1) := by decide +kernel
theorem dX11_share_41 : decode cX11_share 41 = .ok (.istore 4, 2) := by decide +kernel
theorem dX11_share_43 : decode cX11_share 43 = .ok (.iinc 5 1, 3) := by decide +kernel
theorem dX11_share_46 : decode cX11_share 46 = .ok (.goto (-23), 3) := by decide +kernel
theorem dX11_share_49 : decode cX11_share 49 = .ok (.iload_n 3, 1) := by decide +kernel
theorem dX11_share_50 : decode cX11_share 50 = .ok (.i2f, 1) := by decide +kernel
theorem dX11_share_51 : decode cX11_share 51 = .ok (.iload 4, 2) := by decide +kernel
theorem dX11_share_53 : decode cX11_share 53 = .ok (.i2f, 1) := by decide +kernel
theorem dX11_share_54 : decode cX11_share 54 = .ok (.fdiv, 1) := by decide +kernel
theorem dX11_share_55 : decode cX11_share 55 = .ok (.invokestatic 181, 3) := by decide +kernel
theorem dX11_share_58 : decode cX11_share 58 = .ok (.ireturn, 1) := by decide +kernel
theorem dX11_compareMachines_0 : decode cX11_compareMachines 0 = .ok (.aload_n 0, 1) := by decide +kernel
theorem dX11_compareMachines_1 : decode cX11_compareMachines 1 = .ok (.getfield 306, 3) := by decide +kernel
theorem dX11_compareMachines_4 : decode cX11_compareMachines 4 = .ok (.ifCond .eq 4, 3) := by decide +kernel
theorem dX11_compareMachines_7 : decode cX11_compareMachines 7 = .ok (.return_, 1) := by decide +kernel
theorem dX11_compareMachines_8 : decode cX11_compareMachines 8 = .ok (.aload_n 0, 1) := by decide +kernel
theorem dX11_compareMachines_9 : decode cX11_compareMachines 9 = .ok (.iconst 1, 1) := by decide +kernel
theorem dX11_compareMachines_10 : decode cX11_compareMachines 10 = .ok (.putfield 306, 3) := by decide +kernel
theorem dX11_compareMachines_13 : decode cX11_compareMachines 13 = .ok (.aload_n 0, 1) := by decide +kernel
theorem dX11_compareMachines_14 : decode cX11_compareMachines 14 = .ok (.getfield 25, 3) := by decide +kernel
theorem dX11_compareMachines_17 : decode cX11_compareMachines 17 = .ok (.iconst 0, 1) := by decide +kernel
theorem dX11_compareMachines_18 : decode cX11_compareMachines 18 = .ok (.aaload, 1) := by decide +kernel
theorem dX11_compareMachines_19 : decode cX11_compareMachines 19 = .ok (.getfield 152, 3) := by decide +kernel
theorem dX11_compareMachines_22 : decode cX11_compareMachines 22 = .ok (.aload_n 0, 1) := by decide +kernel
theorem dX11_compareMachines_23 : decode cX11_compareMachines 23 = .ok (.getfield 25, 3) := by decide +kernel
theorem dX11_compareMachines_26 : decode cX11_compareMachines 26 = .ok (.iconst 1, 1) := by decide +kernel
theorem dX11_compareMachines_27 : decode cX11_compareMachines 27 = .ok (.aaload, 1) := by decide +kernel
theorem dX11_compareMachines_28 : decode cX11_compareMachines 28 = .ok (.getfield 152, 3) := by decide +kernel
theorem dX11_compareMachines_31 : decode cX11_compareMachines 31 = .ok (.invokestatic 330, 3) := by decide +kernel
theorem dX11_compareMachines_34 : decode cX11_compareMachines 34 = .ok (.istore_n 1, 1) := by decide +kernel
theorem dX11_compareMachines_35 : decode cX11_compareMachines 35 = .ok (.aload_n 0, 1) := by decide +kernel
theorem dX11_compareMachines_36 : decode cX11_compareMachines 36 = .ok (.aload_n 0, 1) := by decide +kernel
theorem dX11_compareMachines_37 : decode cX11_compareMachines 37 = .ok (.getfield 43, 3) := by decide +kernel
theorem dX11_compareMachines_40 : decode cX11_compareMachines 40 = .ok (.aload_n 0, 1) := by decide +kernel
theorem dX11_compareMachines_41 : decode cX11_compareMachines 41 = .ok (.getfield 25, 3) := by decide +kernel
theorem dX11_compareMachines_44 : decode cX11_compareMachines 44 = .ok (.iconst 0, 1) := by decide +kernel
theorem dX11_compareMachines_45 : decode cX11_compareMachines 45 = .ok (.aaload, 1) := by decide +kernel
theorem dX11_compareMachines_46 : decode cX11_compareMachines 46 = .ok (.aload_n 0, 1) := by decide +kernel
theorem dX11_compareMachines_47 : decode cX11_compareMachines 47 = .ok (.getfield 25, 3) := by decide +kernel
theorem dX11_compareMachines_50 : decode cX11_compareMachines 50 = .ok (.iconst 1, 1) := by decide +kernel
theorem dX11_compareMachines_51 : decode cX11_compareMachines 51 = .ok (.aaload, 1) := by decide +kernel
theorem dX11_compareMachines_52 : decode cX11_compareMachines 52 = .ok (.iload_n 1, 1) := by decide +kernel
theorem dX11_compareMachines_53 : decode cX11_compareMachines 53 = .ok (.aload_n 0, 1) := by decide +kernel
theorem dX11_compareMachines_54 : decode cX11_compareMachines 54 = .ok (.getfield 56, 3) := by decide +kernel
theorem dX11_compareMachines_57 : decode cX11_compareMachines 57 = .ok (.invokevirtual 335, 3) := by decide +kernel
theorem dX11_compareMachines_60 : decode cX11_compareMachines 60 = .ok (.ifCond .ne 7, 3) := by decide +kernel
theorem dX11_compareMachines_63 : decode cX11_compareMachines 63 = .ok (.iconst 1, 1) := by decide +kernel
theorem dX11_compareMachines_64 : decode cX11_compareMachines 64 = .ok (.goto 4, 3) := by decide +kernel
theorem dX11_compareMachines_67 : decode cX11_compareMachines 67 = .ok (.iconst 0, 1) := by decide +kernel
theorem dX11_compareMachines_68 : decode cX11_compareMachines 68 = .ok (.putfield 188, 3) := by decide +kernel
theorem dX11_compareMachines_71 : decode cX11_compareMachines 71 = .ok (.aload_n 0, 1) := by decide +kernel
theorem dX11_compareMachines_72 : decode cX11_compareMachines 72 = .ok (.aload_n 0, 1) := by decide +kernel
theorem dX11_compareMachines_73 : decode cX11_compareMachines 73 = .ok (.getfield 43, 3) := by decide +kernel
theorem dX11_compareMachines_76 : decode cX11_compareMachines 76 = .ok (.getfield 339, 3) := by decide +kernel
theorem dX11_compareMachines_79 : decode cX11_compareMachines 79 = .ok (.putfield 196, 3) := by decide +kernel
theorem dX11_compareMachines_82 : decode cX11_compareMachines 82 = .ok (.return_, 1) := by decide +kernel
theorem dX11_differ_0 : decode cX11_differ 0 = .ok (.aload_n 0, 1) := by decide +kernel
theorem dX11_differ_1 : decode cX11_differ 1 = .ok (.invokevirtual 185, 3) := by decide +kernel
theorem dX11_differ_4 : decode cX11_differ 4 = .ok (.aload_n 0, 1) := by decide +kernel
theorem dX11_differ_5 : decode cX11_differ 5 = .ok (.getfield 188, 3) := by decide +kernel
theorem dX11_differ_8 : decode cX11_differ 8 = .ok (.ifCond .eq 7, 3) := by decide +kernel
theorem dX11_differ_11 : decode cX11_differ 11 = .ok (.iconst (-1), 1) := by decide +kernel
theorem dX11_differ_12 : decode cX11_differ 12 = .ok (.goto 10, 3) := by decide +kernel
theorem dX11_differ_15 : decode cX11_differ 15 = .ok (.aload_n 0, 1) := by decide +kernel
theorem dX11_differ_16 : decode cX11_differ 16 = .ok (.getfield 56, 3) := by decide +kernel
theorem dX11_differ_19 : decode cX11_differ 19 = .ok (.getfield 113, 3) := by decide +kernel
theorem dX11_differ_22 : decode cX11_differ 22 = .ok (.ireturn, 1) := by decide +kernel
theorem dX11_letterOf_0 : decode cX11_letterOf 0 = .ok (.iload_n 1, 1) := by decide +kernel
theorem dX11_letterOf_1 : decode cX11_letterOf 1 = .ok (.ifCond .lt 11, 3) := by decide +kernel
theorem dX11_letterOf_4 : decode cX11_letterOf 4 = .ok (.iload_n 1, 1) := by decide +kernel
theorem dX11_letterOf_5 : decode cX11_letterOf 5 = .ok (.aload_n 0, 1) := by decide +kernel
theorem dX11_letterOf_6 : decode cX11_letterOf 6 = .ok (.getfield 113, 3) := by decide +kernel
theorem dX11_letterOf_9 : decode cX11_letterOf 9 = .ok (.if_icmp .lt 6, 3) := by decide +kernel
theorem dX11_letterOf_12 : decode cX11_letterOf 12 = .ok (.bipush (-2), 2) := by decide +kernel
theorem dX11_letterOf_14 : decode cX11_letterOf 14 = .ok (.ireturn, 1) := by decide +kernel
theorem dX11_letterOf_15 : decode cX11_letterOf 15 = .ok (.iload_n 2, 1) := by decide +kernel
theorem dX11_letterOf_16 : decode cX11_letterOf 16 = .ok (.ifCond .ne 10, 3) := by decide +kernel
theorem dX11_letterOf_19 : decode cX11_letterOf 19 = .ok (.aload_n 0, 1) := by decide +kernel
theorem dX11_letterOf_20 : decode cX11_letterOf 20 = .ok (.getfield 342, 3) := by decide +kernel
theorem dX11_letterOf_23 : decode cX11_letterOf 23 = .ok (.iload_n 1, 1) := by decide +kernel
theorem dX11_letterOf_24 : decode cX11_letterOf 24 = .ok (.iaload, 1) := by decide +kernel
theorem dX11_letterOf_25 : decode cX11_letterOf 25 = .ok (.ireturn, 1) := by decide +kernel
theorem dX11_letterOf_26 : decode cX11_letterOf 26 = .ok (.iload_n 2, 1) := by decide +kernel
theorem dX11_letterOf_27 : decode cX11_letterOf 27 = .ok (.iconst 1, 1) := by decide +kernel
theorem dX11_letterOf_28 : decode cX11_letterOf 28 = .ok (.if_icmp .ne 12, 3) := by decide +kernel
theorem dX11_letterOf_31 : decode cX11_letterOf 31 = .ok (.aload_n 0, 1) := by decide +kernel
theorem dX11_letterOf_32 : decode cX11_letterOf 32 = .ok (.getfield 344, 3) := by decide +kernel
theorem dX11_letterOf_35 : decode cX11_letterOf 35 = .ok (.iload_n 1, 1) := by decide +kernel
theorem dX11_letterOf_36 : decode cX11_letterOf 36 = .ok (.iaload, 1) := by decide +kernel
theorem dX11_letterOf_37 : decode cX11_letterOf 37 = .ok (.goto 5, 3) := by decide +kernel
theorem dX11_letterOf_40 : decode cX11_letterOf 40 = .ok (.bipush (-2), 2) := by decide +kernel
theorem dX11_letterOf_42 : decode cX11_letterOf 42 = .ok (.ireturn, 1) := by decide +kernel
theorem dX11_differs_0 : decode cX11_differs 0 = .ok (.aload_n 0, 1) := by decide +kernel
theorem dX11_differs_1 : decode cX11_differs 1 = .ok (.invokevirtual 185, 3) := by decide +kernel
theorem dX11_differs_4 : decode cX11_differs 4 = .ok (.aload_n 0, 1) := by decide +kernel
theorem dX11_differs_5 : decode cX11_differs 5 = .ok (.getfield 56, 3) := by decide +kernel
theorem dX11_differs_8 : decode cX11_differs 8 = .ok (.iload_n 1, 1) := by decide +kernel
theorem dX11_differs_9 : decode cX11_differs 9 = .ok (.iload_n 2, 1) := by decide +kernel
theorem dX11_differs_10 : decode cX11_differs 10 = .ok (.invokestatic 192, 3) := by decide +kernel
theorem dX11_differs_13 : decode cX11_differs 13 = .ok (.ireturn, 1) := by decide +kernel
theorem dX11_couples_0 : decode cX11_couples 0 = .ok (.aload_n 0, 1) := by decide +kernel
theorem dX11_couples_1 : decode cX11_couples 1 = .ok (.invokevirtual 185, 3) := by decide +kernel
theorem dX11_couples_4 : decode cX11_couples 4 = .ok (.aload_n 0, 1) := by decide +kernel
theorem dX11_couples_5 : decode cX11_couples 5 = .ok (.getfield 196, 3) := by decide +kernel
theorem dX11_couples_8 : decode cX11_couples 8 = .ok (.ireturn, 1) := by decide +kernel
theorem dX11_lengthOrLetterOf_0 : decode cX11_lengthOrLetterOf 0 = .ok (.iload_n 1, 1) := by decide +kernel
theorem dX11_lengthOrLetterOf_1 : decode cX11_lengthOrLetterOf 1 = .ok (.iconst (-1), 1) := by decide +kernel
theorem dX11_lengthOrLetterOf_2 : decode cX11_lengthOrLetterOf 2 = .ok (.if_icmp .ne 17, 3) := by decide +kernel
theorem dX11_lengthOrLetterOf_5 : decode cX11_lengthOrLetterOf 5 = .ok (.iload_n 2, 1) := by decide +kernel
theorem dX11_lengthOrLetterOf_6 : decode cX11_lengthOrLetterOf 6 = .ok (.ifCond .ne 10, 3) := by decide +kernel
theorem dX11_lengthOrLetterOf_9 : decode cX11_lengthOrLetterOf 9 = .ok (.aload_n 0, 1) := by decide +kernel
theorem dX11_lengthOrLetterOf_10 : decode cX11_lengthOrLetterOf 10 = .ok (.getfield 113, 3) := by decide +kernel
theorem dX11_lengthOrLetterOf_13 : decode cX11_lengthOrLetterOf 13 = .ok (.goto 5, 3) := by decide +kernel
theorem dX11_lengthOrLetterOf_16 : decode cX11_lengthOrLetterOf 16 = .ok (.bipush (-2), 2) := by decide +kernel
theorem dX11_lengthOrLetterOf_18 : decode cX11_lengthOrLetterOf 18 = .ok (.ireturn, 1) := by decide +kernel
theorem dX11_lengthOrLetterOf_19 : decode cX11_lengthOrLetterOf 19 = .ok (.aload_n 0, 1) := by decide +kernel
theorem dX11_lengthOrLetterOf_20 : decode cX11_lengthOrLetterOf 20 = .ok (.iload_n 1, 1) := by decide +kernel
theorem dX11_lengthOrLetterOf_21 : decode cX11_lengthOrLetterOf 21 = .ok (.iload_n 2, 1) := by decide +kernel
theorem dX11_lengthOrLetterOf_22 : decode cX11_lengthOrLetterOf 22 = .ok (.invokestatic 192, 3) := by decide +kernel
theorem dX11_lengthOrLetterOf_25 : decode cX11_lengthOrLetterOf 25 = .ok (.ireturn, 1) := by decide +kernel
theorem dX11_letter_0 : decode cX11_letter 0 = .ok (.iload_n 2, 1) := by decide +kernel
theorem dX11_letter_1 : decode cX11_letter 1 = .ok (.iconst 2, 1) := by decide +kernel
theorem dX11_letter_2 : decode cX11_letter 2 = .ok (.if_icmp .ne 28, 3) := by decide +kernel
theorem dX11_letter_5 : decode cX11_letter 5 = .ok (.iload_n 1, 1) := by decide +kernel
theorem dX11_letter_6 : decode cX11_letter 6 = .ok (.ifCond .lt 24, 3) := by decide +kernel
theorem dX11_letter_9 : decode cX11_letter 9 = .ok (.iload_n 1, 1) := by decide +kernel
theorem dX11_letter_10 : decode cX11_letter 10 = .ok (.aload_n 0, 1) := by decide +kernel
theorem dX11_letter_11 : decode cX11_letter 11 = .ok (.getfield 33, 3) := by decide +kernel
theorem dX11_letter_14 : decode cX11_letter 14 = .ok (.getfield 113, 3) := by decide +kernel
theorem dX11_letter_17 : decode cX11_letter 17 = .ok (.if_icmp .ge 13, 3) := by decide +kernel
theorem dX11_letter_20 : decode cX11_letter 20 = .ok (.aload_n 0, 1) := by decide +kernel
theorem dX11_letter_21 : decode cX11_letter 21 = .ok (.getfield 33, 3) := by decide +kernel
theorem dX11_letter_24 : decode cX11_letter 24 = .ok (.getfield 199, 3) := by decide +kernel
theorem dX11_letter_27 : decode cX11_letter 27 = .ok (.iload_n 1, 1) := by decide +kernel
theorem dX11_letter_28 : decode cX11_letter 28 = .ok (.iaload, 1) := by decide +kernel
theorem dX11_letter_29 : decode cX11_letter 29 = .ok (.ireturn, 1) := by decide +kernel
theorem dX11_letter_30 : decode cX11_letter 30 = .ok (.aload_n 0, 1) := by decide +kernel
theorem dX11_letter_31 : decode cX11_letter 31 = .ok (.getfield 33, 3) := by decide +kernel
theorem dX11_letter_34 : decode cX11_letter 34 = .ok (.iload_n 1, 1) := by decide +kernel
theorem dX11_letter_35 : decode cX11_letter 35 = .ok (.iload_n 2, 1) := by decide +kernel
theorem dX11_letter_36 : decode cX11_letter 36 = .ok (.invokestatic 202, 3) := by decide +kernel
theorem dX11_letter_39 : decode cX11_letter 39 = .ok (.ireturn, 1) := by decide +kernel
theorem dX11_isWordTooLong_0 : decode cX11_isWordTooLong 0 = .ok (.aload_n 0, 1) := by decide +kernel
theorem dX11_isWordTooLong_1 : decode cX11_isWordTooLong 1 = .ok (.getfield 33, 3) := by decide +kernel
theorem dX11_isWordTooLong_4 : decode cX11_isWordTooLong 4 = .ok (.getfield 113, 3) := by decide +kernel
theorem dX11_isWordTooLong_7 : decode cX11_isWordTooLong 7 = .ok (.bipush 6, 2) := by decide +kernel
theorem dX11_isWordTooLong_9 : decode cX11_isWordTooLong 9 = .ok (.if_icmp .gt 14, 3) := by decide +kernel
theorem dX11_isWordTooLong_12 : decode cX11_isWordTooLong 12 = .ok (.aload_n 0, 1) := by decide +kernel
theorem dX11_isWordTooLong_13 : decode cX11_isWordTooLong 13 = .ok (.getfield 33, 3) := by decide +kernel
theorem dX11_isWordTooLong_16 : decode cX11_isWordTooLong 16 = .ok (.getfield 263, 3) := by decide +kernel
theorem dX11_isWordTooLong_19 : decode cX11_isWordTooLong 19 = .ok (.iconst 4, 1) := by decide +kernel
theorem dX11_isWordTooLong_20 : decode cX11_isWordTooLong 20 = .ok (.if_icmp .le 7, 3) := by decide +kernel
theorem dX11_isWordTooLong_23 : decode cX11_isWordTooLong 23 = .ok (.iconst 1, 1) := by decide +kernel
theorem dX11_isWordTooLong_24 : decode cX11_isWordTooLong 24 = .ok (.goto 4, 3) := by decide +kernel
theorem dX11_isWordTooLong_27 : decode cX11_isWordTooLong 27 = .ok (.iconst 0, 1) := by decide +kernel
theorem dX11_isWordTooLong_28 : decode cX11_isWordTooLong 28 = .ok (.ireturn, 1) := by decide +kernel
theorem dX11_remembered_0 : decode cX11_remembered 0 = .ok (.aload_n 0, 1) := by decide +kernel
theorem dX11_remembered_1 : decode cX11_remembered 1 = .ok (.invokevirtual 205, 3) := by decide +kernel
theorem dX11_remembered_4 : decode cX11_remembered 4 = .ok (.ifCond .eq 6, 3) := by decide +kernel
theorem dX11_remembered_7 : decode cX11_remembered 7 = .ok (.bipush (-4), 2) := by decide +kernel
theorem dX11_remembered_9 : decode cX11_remembered 9 = .ok (.ireturn, 1) := by decide +kernel
theorem dX11_remembered_10 : decode cX11_remembered 10 = .ok (.aload_n 0, 1) := by decide +kernel
theorem dX11_remembered_11 : decode cX11_remembered 11 = .ok (.getfield 52, 3) := by decide +kernel
theorem dX11_remembered_14 : decode cX11_remembered 14 = .ok (.aload_n 0, 1) := by decide +kernel
theorem dX11_remembered_15 : decode cX11_remembered 15 = .ok (.getfield 33, 3) := by decide +kernel
theorem dX11_remembered_18 : decode cX11_remembered 18 = .ok (.invokevirtual 209, 3) := by decide +kernel
theorem dX11_remembered_21 : decode cX11_remembered 21 = .ok (.aload_n 0, 1) := by decide +kernel
theorem dX11_remembered_22 : decode cX11_remembered 22 = .ok (.getfield 52, 3) := by decide +kernel
theorem dX11_remembered_25 : decode cX11_remembered 25 = .ok (.getfield 212, 3) := by decide +kernel
theorem dX11_remembered_28 : decode cX11_remembered 28 = .ok (.invokevirtual 216, 3) := by decide +kernel
theorem dX11_remembered_31 : decode cX11_remembered 31 = .ok (.ireturn, 1) := by decide +kernel
theorem dX11_alike_0 : decode cX11_alike 0 = .ok (.aload_n 0, 1) := by decide +kernel
theorem dX11_alike_1 : decode cX11_alike 1 = .ok (.getfield 52, 3) := by decide +kernel
theorem dX11_alike_4 : decode cX11_alike 4 = .ok (.iload_n 1, 1) := by decide +kernel
theorem dX11_alike_5 : decode cX11_alike 5 = .ok (.invokevirtual 221, 3) := by decide +kernel
theorem dX11_alike_8 : decode cX11_alike 8 = .ok (.ifCond .ne 6, 3) := by decide +kernel
theorem dX11_alike_11 : decode cX11_alike 11 = .ok (.bipush (-2), 2) := by decide +kernel
theorem dX11_alike_13 : decode cX11_alike 13 = .ok (.ireturn, 1) := by decide +kernel
theorem dX11_alike_14 : decode cX11_alike 14 = .ok (.aload_n 0, 1) := by decide +kernel
theorem dX11_alike_15 : decode cX11_alike 15 = .ok (.invokevirtual 205, 3) := by decide +kernel
theorem dX11_alike_18 : decode cX11_alike 18 = .ok (.ifCond .eq 6, 3) := by decide +kernel
theorem dX11_alike_21 : decode cX11_alike 21 = .ok (.bipush (-4), 2) := by decide +kernel
theorem dX11_alike_23 : decode cX11_alike 23 = .ok (.ireturn, 1) := by decide +kernel
theorem dX11_alike_24 : decode cX11_alike 24 = .ok (.aload_n 0, 1) := by decide +kernel
theorem dX11_alike_25 : decode cX11_alike 25 = .ok (.getfield 52, 3) := by decide +kernel
theorem dX11_alike_28 : decode cX11_alike 28 = .ok (.invokevirtual 224, 3) := by decide +kernel
theorem dX11_alike_31 : decode cX11_alike 31 = .ok (.aload_n 0, 1) := by decide +kernel
theorem dX11_alike_32 : decode cX11_alike 32 = .ok (.getfield 52, 3) := by decide +kernel
theorem dX11_alike_35 : decode cX11_alike 35 = .ok (.aload_n 0, 1) := by decide +kernel
theorem dX11_alike_36 : decode cX11_alike 36 = .ok (.getfield 33, 3) := by decide +kernel
theorem dX11_alike_39 : decode cX11_alike 39 = .ok (.invokevirtual 209, 3) := by decide +kernel
theorem dX11_alike_42 : decode cX11_alike 42 = .ok (.aload_n 0, 1) := by decide +kernel
theorem dX11_alike_43 : decode cX11_alike 43 = .ok (.getfield 52, 3) := by decide +kernel
theorem dX11_alike_46 : decode cX11_alike 46 = .ok (.getfield 212, 3) := by decide +kernel
theorem dX11_alike_49 : decode cX11_alike 49 = .ok (.aload_n 0, 1) := by decide +kernel
theorem dX11_alike_50 : decode cX11_alike 50 = .ok (.getfield 52, 3) := by decide +kernel
theorem dX11_alike_53 : decode cX11_alike 53 = .ok (.getfield 227, 3) := by decide +kernel
theorem dX11_alike_56 : decode cX11_alike 56 = .ok (.iload_n 1, 1) := by decide +kernel
theorem dX11_alike_57 : decode cX11_alike 57 = .ok (.aaload, 1) := by decide +kernel
theorem dX11_alike_58 : decode cX11_alike 58 = .ok (.invokevirtual 231, 3) := by decide +kernel
theorem dX11_alike_61 : decode cX11_alike 61 = .ok (.ireturn, 1) := by decide +kernel
theorem dX11_begin_0 : decode cX11_begin 0 = .ok (.aload_n 0, 1) := by decide +kernel
theorem dX11_begin_1 : decode cX11_begin 1 = .ok (.getfield 52, 3) := by decide +kernel
theorem dX11_begin_4 : decode cX11_begin 4 = .ok (.getfield 235, 3) := by decide +kernel
theorem dX11_begin_7 : decode cX11_begin 7 = .ok (.aload_n 0, 1) := by decide +kernel
theorem dX11_begin_8 : decode cX11_begin 8 = .ok (.getfield 52, 3) := by decide +kernel
theorem dX11_begin_11 : decode cX11_begin 11 = .ok (.getfield 238, 3) := by decide +kernel
theorem dX11_begin_14 : decode cX11_begin 14 = .ok (.getfield 242, 3) := by decide +kernel
theorem dX11_begin_17 : decode cX11_begin 17 = .ok (.iadd, 1) := by decide +kernel
theorem dX11_begin_18 : decode cX11_begin 18 = .ok (.istore_n 1, 1) := by decide +kernel
theorem dX11_begin_19 : decode cX11_begin 19 = .ok (.aload_n 0, 1) := by decide +kernel
theorem dX11_begin_20 : decode cX11_begin 20 = .ok (.getfield 52, 3) := by decide +kernel
theorem dX11_begin_23 : decode cX11_begin 23 = .ok (.invokevirtual 247, 3) := by decide +kernel
theorem dX11_begin_26 : decode cX11_begin 26 = .ok (.iload_n 1, 1) := by decide +kernel
theorem dX11_begin_27 : decode cX11_begin 27 = .ok (.ireturn, 1) := by decide +kernel
theorem dX11_step_0 : decode cX11_step 0 = .ok (.aload_n 0, 1) := by decide +kernel
theorem dX11_step_1 : decode cX11_step 1 = .ok (.getfield 52, 3) := by decide +kernel
theorem dX11_step_4 : decode cX11_step 4 = .ok (.invokevirtual 250, 3) := by decide +kernel
theorem dX11_step_7 : decode cX11_step 7 = .ok (.aload_n 0, 1) := by decide +kernel
theorem dX11_step_8 : decode cX11_step 8 = .ok (.getfield 52, 3) := by decide +kernel
theorem dX11_step_11 : decode cX11_step 11 = .ok (.invokevirtual 253, 3) := by decide +kernel
theorem dX11_step_14 : decode cX11_step 14 = .ok (.ireturn, 1) := by decide +kernel
theorem dX11_learn_0 : decode cX11_learn 0 = .ok (.iconst 0, 1) := by decide +kernel
theorem dX11_learn_1 : decode cX11_learn 1 = .ok (.istore_n 1, 1) := by decide +kernel
theorem dX11_learn_2 : decode cX11_learn 2 = .ok (.iconst 0, 1) := by decide +kernel
theorem dX11_learn_3 : decode cX11_learn 3 = .ok (.istore_n 2, 1) := by decide +kernel
theorem dX11_learn_4 : decode cX11_learn 4 = .ok (.iload_n 2, 1) := by decide +kernel
theorem dX11_learn_5 : decode cX11_learn 5 = .ok (.bipush 40, 2) := by decide +kernel
theorem dX11_learn_7 : decode cX11_learn 7 = .ok (.if_icmp .ge 41, 3) := by decide +kernel
theorem dX11_learn_10 : decode cX11_learn 10 = .ok (.aload_n 0, 1) := by decide +kernel
theorem dX11_learn_11 : decode cX11_learn 11 = .ok (.getfield 52, 3) := by decide +kernel
theorem dX11_learn_14 : decode cX11_learn 14 = .ok (.invokevirtual 250, 3) := by decide +kernel
theorem dX11_learn_17 : decode cX11_learn 17 = .ok (.aload_n 0, 1) := by decide +kernel
theorem dX11_learn_18 : decode cX11_learn 18 = .ok (.getfield 52, 3) := by decide +kernel
theorem dX11_learn_21 : decode cX11_learn 21 = .ok (.invokevirtual 253, 3) := by decide +kernel
theorem dX11_learn_24 : decode cX11_learn 24 = .ok (.istore_n 3, 1) := by decide +kernel
theorem dX11_learn_25 : decode cX11_learn 25 = .ok (.iload_n 3, 1) := by decide +kernel
theorem dX11_learn_26 : decode cX11_learn 26 = .ok (.ifCond .gt 13, 3) := by decide +kernel
theorem dX11_learn_29 : decode cX11_learn 29 = .ok (.iload_n 3, 1) := by decide +kernel
theorem dX11_learn_30 : decode cX11_learn 30 = .ok (.ifCond .ne 7, 3) := by decide +kernel
theorem dX11_learn_33 : decode cX11_learn 33 = .ok (.iload_n 1, 1) := by decide +kernel
theorem dX11_learn_34 : decode cX11_learn 34 = .ok (.goto 4, 3) := by decide +kernel
theorem dX11_learn_37 : decode cX11_learn 37 = .ok (.iload_n 3, 1) := by decide +kernel
theorem dX11_learn_38 : decode cX11_learn 38 = .ok (.ireturn, 1) := by decide +kernel
theorem dX11_learn_39 : decode cX11_learn 39 = .ok (.iinc 1 1, 3) := by decide +kernel
theorem dX11_learn_42 : decode cX11_learn 42 = .ok (.iinc 2 1, 3) := by decide +kernel
theorem dX11_learn_45 : decode cX11_learn 45 = .ok (.goto (-41), 3) := by decide +kernel
theorem dX11_learn_48 : decode cX11_learn 48 = .ok (.iload_n 1, 1) := by decide +kernel
theorem dX11_learn_49 : decode cX11_learn 49 = .ok (.ireturn, 1) := by decide +kernel
theorem dX11_brief_0 : decode cX11_brief 0 = .ok (.aload_n 0, 1) := by decide +kernel
theorem dX11_brief_1 : decode cX11_brief 1 = .ok (.getfield 52, 3) := by decide +kernel
theorem dX11_brief_4 : decode cX11_brief 4 = .ok (.iload_n 1, 1) := by decide +kernel
theorem dX11_brief_5 : decode cX11_brief 5 = .ok (.invokevirtual 221, 3) := by decide +kernel
theorem dX11_brief_8 : decode cX11_brief 8 = .ok (.ifCond .eq 20, 3) := by decide +kernel
theorem dX11_brief_11 : decode cX11_brief 11 = .ok (.aload_n 0, 1) := by decide +kernel
theorem dX11_brief_12 : decode cX11_brief 12 = .ok (.getfield 52, 3) := by decide +kernel
theorem dX11_brief_15 : decode cX11_brief 15 = .ok (.getfield 256, 3) := by decide +kernel
theorem dX11_brief_18 : decode cX11_brief 18 = .ok (.iload_n 1, 1) := by decide +kernel
theorem dX11_brief_19 : decode cX11_brief 19 = .ok (.aaload, 1) := by decide +kernel
theorem dX11_brief_20 : decode cX11_brief 20 = .ok (.iload_n 2, 1) := by decide +kernel
theorem dX11_brief_21 : decode cX11_brief 21 = .ok (.iload_n 3, 1) := by decide +kernel
theorem dX11_brief_22 : decode cX11_brief 22 = .ok (.invokestatic 202, 3) := by decide +kernel
theorem dX11_brief_25 : decode cX11_brief 25 = .ok (.goto 5, 3) := by decide +kernel
theorem dX11_brief_28 : decode cX11_brief 28 = .ok (.bipush (-2), 2) := by decide +kernel
theorem dX11_brief_30 : decode cX11_brief 30 = .ok (.ireturn, 1) := by decide +kernel
theorem dX11_test_0 : decode cX11_test 0 = .ok (.aload_n 0, 1) := by decide +kernel
theorem dX11_test_1 : decode cX11_test 1 = .ok (.getfield 52, 3) := by decide +kernel
theorem dX11_test_4 : decode cX11_test 4 = .ok (.getfield 238, 3) := by decide +kernel
theorem dX11_test_7 : decode cX11_test 7 = .ok (.astore 4, 2) := by decide +kernel
theorem dX11_test_9 : decode cX11_test 9 = .ok (.iload_n 1, 1) := by decide +kernel
theorem dX11_test_10 : decode cX11_test 10 = .ok (.ifCond .lt 27, 3) := by decide +kernel
theorem dX11_test_13 : decode cX11_test 13 = .ok (.iload_n 1, 1) := by decide +kernel
theorem dX11_test_14 : decode cX11_test 14 = .ok (.aload 4, 2) := by decide +kernel
theorem dX11_test_16 : decode cX11_test 16 = .ok (.getfield 242, 3) := by decide +kernel
theorem dX11_test_19 : decode cX11_test 19 = .ok (.if_icmp .ge 18, 3) := by decide +kernel
theorem dX11_test_22 : decode cX11_test 22 = .ok (.aload 4, 2) := by decide +kernel
theorem dX11_test_24 : decode cX11_test 24 = .ok (.getfield 260, 3) := by decide +kernel
theorem dX11_test_27 : decode cX11_test 27 = .ok (.iload_n 1, 1) := by decide +kernel
theorem dX11_test_28 : decode cX11_test 28 = .ok (.aaload, 1) := by decide +kernel
theorem dX11_test_29 : decode cX11_test 29 = .ok (.iload_n 2, 1) := by decide +kernel
theorem dX11_test_30 : decode cX11_test 30 = .ok (.iload_n 3, 1) := by decide +kernel
theorem dX11_test_31 : decode cX11_test 31 = .ok (.invokestatic 202, 3) := by decide +kernel
theorem dX11_test_34 : decode cX11_test 34 = .ok (.goto 5, 3) := by decide +kernel
theorem dX11_test_37 : decode cX11_test 37 = .ok (.bipush (-2), 2) := by decide +kernel
theorem dX11_test_39 : decode cX11_test 39 = .ok (.ireturn, 1) := by decide +kernel
theorem dX11_registers_0 : decode cX11_registers 0 = .ok (.aload_n 0, 1) := by decide +kernel
theorem dX11_registers_1 : decode cX11_registers 1 = .ok (.getfield 52, 3) := by decide +kernel
theorem dX11_registers_4 : decode cX11_registers 4 = .ok (.iload_n 1, 1) := by decide +kernel
theorem dX11_registers_5 : decode cX11_registers 5 = .ok (.invokevirtual 221, 3) := by decide +kernel
theorem dX11_registers_8 : decode cX11_registers 8 = .ok (.ifCond .ne 6, 3) := by decide +kernel
theorem dX11_registers_11 : decode cX11_registers 11 = .ok (.bipush (-2), 2) := by decide +kernel
theorem dX11_registers_13 : decode cX11_registers 13 = .ok (.ireturn, 1) := by decide +kernel
theorem dX11_registers_14 : decode cX11_registers 14 = .ok (.aload_n 0, 1) := by decide +kernel
theorem dX11_registers_15 : decode cX11_registers 15 = .ok (.getfield 52, 3) := by decide +kernel
theorem dX11_registers_18 : decode cX11_registers 18 = .ok (.invokevirtual 224, 3) := by decide +kernel
theorem dX11_registers_21 : decode cX11_registers 21 = .ok (.aload_n 0, 1) := by decide +kernel
theorem dX11_registers_22 : decode cX11_registers 22 = .ok (.getfield 52, 3) := by decide +kernel
theorem dX11_registers_25 : decode cX11_registers 25 = .ok (.getfield 227, 3) := by decide +kernel
theorem dX11_registers_28 : decode cX11_registers 28 = .ok (.iload_n 1, 1) := by decide +kernel
theorem dX11_registers_29 : decode cX11_registers 29 = .ok (.aaload, 1) := by decide +kernel
theorem dX11_registers_30 : decode cX11_registers 30 = .ok (.invokevirtual 216, 3) := by decide +kernel
theorem dX11_registers_33 : decode cX11_registers 33 = .ok (.ireturn, 1) := by decide +kernel
theorem dX11_goes_0 : decode cX11_goes 0 = .ok (.aload_n 0, 1) := by decide +kernel
theorem dX11_goes_1 : decode cX11_goes 1 = .ok (.getfield 52, 3) := by decide +kernel
theorem dX11_goes_4 : decode cX11_goes 4 = .ok (.iload_n 1, 1) := by decide +kernel
theorem dX11_goes_5 : decode cX11_goes 5 = .ok (.invokevirtual 221, 3) := by decide +kernel
theorem dX11_goes_8 : decode cX11_goes 8 = .ok (.ifCond .eq 20, 3) := by decide +kernel
theorem dX11_goes_11 : decode cX11_goes 11 = .ok (.iload_n 2, 1) := by decide +kernel
theorem dX11_goes_12 : decode cX11_goes 12 = .ok (.ifCond .lt 16, 3) := by decide +kernel
theorem dX11_goes_15 : decode cX11_goes 15 = .ok (.iload_n 2, 1) := by decide +kernel
theorem dX11_goes_16 : decode cX11_goes 16 = .ok (.aload_n 0, 1) := by decide +kernel
theorem dX11_goes_17 : decode cX11_goes 17 = .ok (.getfield 25, 3) := by decide +kernel
theorem dX11_goes_20 : decode cX11_goes 20 = .ok (.iconst 0, 1) := by decide +kernel
theorem dX11_goes_21 : decode cX11_goes 21 = .ok (.aaload, 1) := by decide +kernel
theorem dX11_goes_22 : decode cX11_goes 22 = .ok (.getfield 152, 3) := by decide +kernel
theorem dX11_goes_25 : decode cX11_goes 25 = .ok (.if_icmp .lt 6, 3) := by decide +kernel
theorem dX11_goes_28 : decode cX11_goes 28 = .ok (.bipush (-2), 2) := by decide +kernel
theorem dX11_goes_30 : decode cX11_goes 30 = .ok (.ireturn, 1) := by decide +kernel
theorem dX11_goes_31 : decode cX11_goes 31 = .ok (.iload_n 3, 1) := by decide +kernel
theorem dX11_goes_32 : decode cX11_goes 32 = .ok (.ifCond .lt 19, 3) := by decide +kernel
theorem dX11_goes_35 : decode cX11_goes 35 = .ok (.iload_n 3, 1) := by decide +kernel
theorem dX11_goes_36 : decode cX11_goes 36 = .ok (.aload_n 0, 1) := by decide +kernel
theorem dX11_goes_37 : decode cX11_goes 37 = .ok (.getfield 52, 3) := by decide +kernel
theorem dX11_goes_40 : decode cX11_goes 40 = .ok (.getfield 256, 3) := by decide +kernel
theorem dX11_goes_43 : decode cX11_goes 43 = .ok (.iload_n 1, 1) := by decide +kernel
theorem dX11_goes_44 : decode cX11_goes 44 = .ok (.aaload, 1) := by decide +kernel
theorem dX11_goes_45 : decode cX11_goes 45 = .ok (.getfield 263, 3) := by decide +kernel
theorem dX11_goes_48 : decode cX11_goes 48 = .ok (.if_icmp .le 6, 3) := by decide +kernel
theorem dX11_goes_51 : decode cX11_goes 51 = .ok (.bipush (-3), 2) := by decide +kernel
theorem dX11_goes_53 : decode cX11_goes 53 = .ok (.ireturn, 1) := by decide +kernel
theorem dX11_goes_54 : decode cX11_goes 54 = .ok (.aload_n 0, 1) := by decide +kernel
theorem dX11_goes_55 : decode cX11_goes 55 = .ok (.getfield 52, 3) := by decide +kernel
theorem dX11_goes_58 : decode cX11_goes 58 = .ok (.invokevirtual 224, 3) := by decide +kernel
theorem dX11_goes_61 : decode cX11_goes 61 = .ok (.aload_n 0, 1) := by decide +kernel
theorem dX11_goes_62 : decode cX11_goes 62 = .ok (.getfield 52, 3) := by decide +kernel
theorem dX11_goes_65 : decode cX11_goes 65 = .ok (.iload_n 1, 1) := by decide +kernel
theorem dX11_goes_66 : decode cX11_goes 66 = .ok (.iload_n 2, 1) := by decide +kernel
theorem dX11_goes_67 : decode cX11_goes 67 = .ok (.iload_n 3, 1) := by decide +kernel
theorem dX11_goes_68 : decode cX11_goes 68 = .ok (.invokevirtual 266, 3) := by decide +kernel
theorem dX11_goes_71 : decode cX11_goes 71 = .ok (.aload_n 0, 1) := by decide +kernel
theorem dX11_goes_72 : decode cX11_goes 72 = .ok (.getfield 52, 3) := by decide +kernel
theorem dX11_goes_75 : decode cX11_goes 75 = .ok (.invokevirtual 270, 3) := by decide +kernel
theorem dX11_goes_78 : decode cX11_goes 78 = .ok (.ireturn, 1) := by decide +kernel
theorem dX11_stands_0 : decode cX11_stands 0 = .ok (.aload_n 0, 1) := by decide +kernel
theorem dX11_stands_1 : decode cX11_stands 1 = .ok (.getfield 52, 3) := by decide +kernel
theorem dX11_stands_4 : decode cX11_stands 4 = .ok (.invokevirtual 250, 3) := by decide +kernel
theorem dX11_stands_7 : decode cX11_stands 7 = .ok (.aload_n 0, 1) := by decide +kernel
theorem dX11_stands_8 : decode cX11_stands 8 = .ok (.getfield 52, 3) := by decide +kernel
theorem dX11_stands_11 : decode cX11_stands 11 = .ok (.invokevirtual 273, 3) := by decide +kernel
theorem dX11_stands_14 : decode cX11_stands 14 = .ok (.ifCond .ne 5, 3) := by decide +kernel
theorem dX11_stands_17 : decode cX11_stands 17 = .ok (.iconst 0, 1) := by decide +kernel
theorem dX11_stands_18 : decode cX11_stands 18 = .ok (.ireturn, 1) := by decide +kernel
theorem dX11_stands_19 : decode cX11_stands 19 = .ok (.aload_n 0, 1) := by decide +kernel
theorem dX11_stands_20 : decode cX11_stands 20 = .ok (.getfield 52, 3) := by decide +kernel
theorem dX11_stands_23 : decode cX11_stands 23 = .ok (.getfield 276, 3) := by decide +kernel
theorem dX11_stands_26 : decode cX11_stands 26 = .ok (.iconst 3, 1) := by decide +kernel
theorem dX11_stands_27 : decode cX11_stands 27 = .ok (.if_icmp .ne 7, 3) := by decide +kernel
theorem dX11_stands_30 : decode cX11_stands 30 = .ok (.iconst 1, 1) := by decide +kernel
theorem dX11_stands_31 : decode cX11_stands 31 = .ok (.goto 4, 3) := by decide +kernel
theorem dX11_stands_34 : decode cX11_stands 34 = .ok (.iconst 2, 1) := by decide +kernel
theorem dX11_stands_35 : decode cX11_stands 35 = .ok (.ireturn, 1) := by decide +kernel
theorem dX11_guess_0 : decode cX11_guess 0 = .ok (.aload_n 0, 1) := by decide +kernel
theorem dX11_guess_1 : decode cX11_guess 1 = .ok (.getfield 52, 3) := by decide +kernel
theorem dX11_guess_4 : decode cX11_guess 4 = .ok (.invokevirtual 250, 3) := by decide +kernel
theorem dX11_guess_7 : decode cX11_guess 7 = .ok (.aload_n 0, 1) := by decide +kernel
theorem dX11_guess_8 : decode cX11_guess 8 = .ok (.getfield 52, 3) := by decide +kernel
theorem dX11_guess_11 : decode cX11_guess 11 = .ok (.invokevirtual 273, 3) := by decide +kernel
theorem dX11_guess_14 : decode cX11_guess 14 = .ok (.ifCond .ne 6, 3) := by decide +kernel
theorem dX11_guess_17 : decode cX11_guess 17 = .ok (.bipush (-5), 2) := by decide +kernel
theorem dX11_guess_19 : decode cX11_guess 19 = .ok (.ireturn, 1) := by decide +kernel
theorem dX11_guess_20 : decode cX11_guess 20 = .ok (.aload_n 0, 1) := by decide +kernel
theorem dX11_guess_21 : decode cX11_guess 21 = .ok (.getfield 52, 3) := by decide +kernel
theorem dX11_guess_24 : decode cX11_guess 24 = .ok (.getfield 279, 3) := by decide +kernel
theorem dX11_guess_27 : decode cX11_guess 27 = .ok (.aload_n 0, 1) := by decide +kernel
theorem dX11_guess_28 : decode cX11_guess 28 = .ok (.getfield 62, 3) := by decide +kernel
theorem dX11_guess_31 : decode cX11_guess 31 = .ok (.aload_n 0, 1) := by decide +kernel
theorem dX11_guess_32 : decode cX11_guess 32 = .ok (.getfield 33, 3) := by decide +kernel
theorem dX11_guess_35 : decode cX11_guess 35 = .ok (.aload_n 0, 1) := by decide +kernel
theorem dX11_guess_36 : decode cX11_guess 36 = .ok (.getfield 33, 3) := by decide +kernel
theorem dX11_guess_39 : decode cX11_guess 39 = .ok (.getfield 113, 3) := by decide +kernel
theorem dX11_guess_42 : decode cX11_guess 42 = .ok (.invokevirtual 283, 3) := by decide +kernel
theorem dX11_guess_45 : decode cX11_guess 45 = .ok (.aload_n 0, 1) := by decide +kernel
theorem dX11_guess_46 : decode cX11_guess 46 = .ok (.getfield 52, 3) := by decide +kernel
theorem dX11_guess_49 : decode cX11_guess 49 = .ok (.getfield 279, 3) := by decide +kernel
theorem dX11_guess_52 : decode cX11_guess 52 = .ok (.aload_n 0, 1) := by decide +kernel
theorem dX11_guess_53 : decode cX11_guess 53 = .ok (.getfield 62, 3) := by decide +kernel
theorem dX11_guess_56 : decode cX11_guess 56 = .ok (.invokevirtual 286, 3) := by decide +kernel
theorem dX11_guess_59 : decode cX11_guess 59 = .ok (.ifCond .eq 7, 3) := by decide +kernel
theorem dX11_guess_62 : decode cX11_guess 62 = .ok (.iconst 1, 1) := by decide +kernel
theorem dX11_guess_63 : decode cX11_guess 63 = .ok (.goto 4, 3) := by decide +kernel
theorem dX11_guess_66 : decode cX11_guess 66 = .ok (.iconst 0, 1) := by decide +kernel
theorem dX11_guess_67 : decode cX11_guess 67 = .ok (.ireturn, 1) := by decide +kernel
theorem dX11_guessed_0 : decode cX11_guessed 0 = .ok (.iload_n 1, 1) := by decide +kernel
theorem dX11_guessed_1 : decode cX11_guessed 1 = .ok (.ifCond .lt 14, 3) := by decide +kernel
theorem dX11_guessed_4 : decode cX11_guessed 4 = .ok (.iload_n 1, 1) := by decide +kernel
theorem dX11_guessed_5 : decode cX11_guessed 5 = .ok (.aload_n 0, 1) := by decide +kernel
theorem dX11_guessed_6 : decode cX11_guessed 6 = .ok (.getfield 33, 3) := by decide +kernel
theorem dX11_guessed_9 : decode cX11_guessed 9 = .ok (.getfield 113, 3) := by decide +kernel
theorem dX11_guessed_12 : decode cX11_guessed 12 = .ok (.if_icmp .le 6, 3) := by decide +kernel
theorem dX11_guessed_15 : decode cX11_guessed 15 = .ok (.bipush (-3), 2) := by decide +kernel
theorem dX11_guessed_17 : decode cX11_guessed 17 = .ok (.ireturn, 1) := by decide +kernel
theorem dX11_guessed_18 : decode cX11_guessed 18 = .ok (.iload_n 2, 1) := by decide +kernel
theorem dX11_guessed_19 : decode cX11_guessed 19 = .ok (.ifCond .lt 8, 3) := by decide +kernel
theorem dX11_guessed_22 : decode cX11_guessed 22 = .ok (.iload_n 2, 1) := by decide +kernel
theorem dX11_guessed_23 : decode cX11_guessed 23 = .ok (.iconst 2, 1) := by decide +kernel
theorem dX11_guessed_24 : decode cX11_guessed 24 = .ok (.if_icmp .le 6, 3) := by decide +kernel
theorem dX11_guessed_27 : decode cX11_guessed 27 = .ok (.bipush (-2), 2) := by decide +kernel
theorem dX11_guessed_29 : decode cX11_guessed 29 = .ok (.ireturn, 1) := by decide +kernel
theorem dX11_guessed_30 : decode cX11_guessed 30 = .ok (.aload_n 0, 1) := by decide +kernel
theorem dX11_guessed_31 : decode cX11_guessed 31 = .ok (.getfield 52, 3) := by decide +kernel
theorem dX11_guessed_34 : decode cX11_guessed 34 = .ok (.invokevirtual 250, 3) := by decide +kernel
theorem dX11_guessed_37 : decode cX11_guessed 37 = .ok (.aload_n 0, 1) := by decide +kernel
theorem dX11_guessed_38 : decode cX11_guessed 38 = .ok (.getfield 52, 3) := by decide +kernel
theorem dX11_guessed_41 : decode cX11_guessed 41 = .ok (.invokevirtual 273, 3) := by decide +kernel
theorem dX11_guessed_44 : decode cX11_guessed 44 = .ok (.ifCond .ne 6, 3) := by decide +kernel
theorem dX11_guessed_47 : decode cX11_guessed 47 = .ok (.bipush (-5), 2) := by decide +kernel
theorem dX11_guessed_49 : decode cX11_guessed 49 = .ok (.ireturn, 1) := by decide +kernel
theorem dX11_guessed_50 : decode cX11_guessed 50 = .ok (.aload_n 0, 1) := by decide +kernel
theorem dX11_guessed_51 : decode cX11_guessed 51 = .ok (.getfield 52, 3) := by decide +kernel
theorem dX11_guessed_54 : decode cX11_guessed 54 = .ok (.getfield 279, 3) := by decide +kernel
theorem dX11_guessed_57 : decode cX11_guessed 57 = .ok (.aload_n 0, 1) := by decide +kernel
theorem dX11_guessed_58 : decode cX11_guessed 58 = .ok (.getfield 62, 3) := by decide +kernel
theorem dX11_guessed_61 : decode cX11_guessed 61 = .ok (.aload_n 0, 1) := by decide +kernel
theorem dX11_guessed_62 : decode cX11_guessed 62 = .ok (.getfield 33, 3) := by decide +kernel
theorem dX11_guessed_65 : decode cX11_guessed 65 = .ok (.iload_n 1, 1) := by decide +kernel
theorem dX11_guessed_66 : decode cX11_guessed 66 = .ok (.invokevirtual 283, 3) := by decide +kernel
theorem dX11_guessed_69 : decode cX11_guessed 69 = .ok (.aload_n 0, 1) := by decide +kernel
theorem dX11_guessed_70 : decode cX11_guessed 70 = .ok (.getfield 62, 3) := by decide +kernel
theorem dX11_guessed_73 : decode cX11_guessed 73 = .ok (.iload_n 2, 1) := by decide +kernel
theorem dX11_guessed_74 : decode cX11_guessed 74 = .ok (.invokevirtual 163, 3) := by decide +kernel
theorem dX11_guessed_77 : decode cX11_guessed 77 = .ok (.ireturn, 1) := by decide +kernel
theorem dX11_refutes_0 : decode cX11_refutes 0 = .ok (.aload_n 0, 1) := by decide +kernel
theorem dX11_refutes_1 : decode cX11_refutes 1 = .ok (.getfield 52, 3) := by decide +kernel
theorem dX11_refutes_4 : decode cX11_refutes 4 = .ok (.invokevirtual 250, 3) := by decide +kernel
theorem dX11_refutes_7 : decode cX11_refutes 7 = .ok (.aload_n 0, 1) := by decide +kernel
theorem dX11_refutes_8 : decode cX11_refutes 8 = .ok (.getfield 52, 3) := by decide +kernel
theorem dX11_refutes_11 : decode cX11_refutes 11 = .ok (.invokevirtual 273, 3) := by decide +kernel
theorem dX11_refutes_14 : decode cX11_refutes 14 = .ok (.ifCond .ne 6, 3) := by decide +kernel
theorem dX11_refutes_17 : decode cX11_refutes 17 = .ok (.bipush (-5), 2) := by decide +kernel
theorem dX11_refutes_19 : decode cX11_refutes 19 = .ok (.ireturn, 1) := by decide +kernel
theorem dX11_refutes_20 : decode cX11_refutes 20 = .ok (.iload_n 1, 1) := by decide +kernel
theorem dX11_refutes_21 : decode cX11_refutes 21 = .ok (.iconst (-1), 1) := by decide +kernel
theorem dX11_refutes_22 : decode cX11_refutes 22 = .ok (.if_icmp .ne 19, 3) := by decide +kernel
theorem dX11_refutes_25 : decode cX11_refutes 25 = .ok (.iload_n 2, 1) := by decide +kernel
theorem dX11_refutes_26 : decode cX11_refutes 26 = .ok (.ifCond .ne 15, 3) := by decide +kernel
theorem dX11_refutes_29 : decode cX11_refutes 29 = .ok (.aload_n 0, 1) := by decide +kernel
theorem dX11_refutes_30 : decode cX11_refutes 30 = .ok (.getfield 52, 3) := by decide +kernel
theorem dX11_refutes_33 : decode cX11_refutes 33 = .ok (.getfield 276, 3) := by decide +kernel
theorem dX11_refutes_36 : decode cX11_refutes 36 = .ok (.ifCond .ne 5, 3) := by decide +kernel
theorem dX11_refutes_39 : decode cX11_refutes 39 = .ok (.iconst (-1), 1) := by decide +kernel
theorem dX11_refutes_40 : decode cX11_refutes 40 = .ok (.ireturn, 1) := by decide +kernel
theorem dX11_refutes_41 : decode cX11_refutes 41 = .ok (.aload_n 0, 1) := by decide +kernel
theorem dX11_refutes_42 : decode cX11_refutes 42 = .ok (.getfield 52, 3) := by decide +kernel
theorem dX11_refutes_45 : decode cX11_refutes 45 = .ok (.getfield 287, 3) := by decide +kernel
theorem dX11_refutes_48 : decode cX11_refutes 48 = .ok (.iload_n 1, 1) := by decide +kernel
theorem dX11_refutes_49 : decode cX11_refutes 49 = .ok (.iload_n 2, 1) := by decide +kernel
theorem dX11_refutes_50 : decode cX11_refutes 50 = .ok (.invokestatic 202, 3) := by decide +kernel
theorem dX11_refutes_53 : decode cX11_refutes 53 = .ok (.ireturn, 1) := by decide +kernel
theorem dX11_splits_0 : decode cX11_splits 0 = .ok (.aload_n 0, 1) := by decide +kernel
theorem dX11_splits_1 : decode cX11_splits 1 = .ok (.getfield 52, 3) := by decide +kernel
theorem dX11_splits_4 : decode cX11_splits 4 = .ok (.invokevirtual 250, 3) := by decide +kernel
theorem dX11_splits_7 : decode cX11_splits 7 = .ok (.aload_n 0, 1) := by decide +kernel
theorem dX11_splits_8 : decode cX11_splits 8 = .ok (.getfield 52, 3) := by decide +kernel
theorem dX11_splits_11 : decode cX11_splits 11 = .ok (.invokevirtual 273, 3) := by decide +kernel
theorem dX11_splits_14 : decode cX11_splits 14 = .ok (.ifCond .eq 13, 3) := by decide +kernel
theorem dX11_splits_17 : decode cX11_splits 17 = .ok (.aload_n 0, 1) := by decide +kernel
theorem dX11_splits_18 : decode cX11_splits 18 = .ok (.getfield 52, 3) := by decide +kernel
theorem dX11_splits_21 : decode cX11_splits 21 = .ok (.getfield 290, 3) := by decide +kernel
theorem dX11_splits_24 : decode cX11_splits 24 = .ok (.goto 5, 3) := by decide +kernel
theorem dX11_splits_27 : decode cX11_splits 27 = .ok (.bipush (-5), 2) := by decide +kernel
theorem dX11_splits_29 : decode cX11_splits 29 = .ok (.ireturn, 1) := by decide +kernel
theorem dX11_spare_0 : decode cX11_spare 0 = .ok (.aload_n 0, 1) := by decide +kernel
theorem dX11_spare_1 : decode cX11_spare 1 = .ok (.getfield 52, 3) := by decide +kernel
theorem dX11_spare_4 : decode cX11_spare 4 = .ok (.invokevirtual 250, 3) := by decide +kernel
theorem dX11_spare_7 : decode cX11_spare 7 = .ok (.aload_n 0, 1) := by decide +kernel
theorem dX11_spare_8 : decode cX11_spare 8 = .ok (.getfield 52, 3) := by decide +kernel
theorem dX11_spare_11 : decode cX11_spare 11 = .ok (.invokevirtual 273, 3) := by decide +kernel
theorem dX11_spare_14 : decode cX11_spare 14 = .ok (.ifCond .eq 23, 3) := by decide +kernel
theorem dX11_spare_17 : decode cX11_spare 17 = .ok (.aload_n 0, 1) := by decide +kernel
theorem dX11_spare_18 : decode cX11_spare 18 = .ok (.getfield 25, 3) := by decide +kernel
theorem dX11_spare_21 : decode cX11_spare 21 = .ok (.iconst 0, 1) := by decide +kernel
theorem dX11_spare_22 : decode cX11_spare 22 = .ok (.aaload, 1) := by decide +kernel
theorem dX11_spare_23 : decode cX11_spare 23 = .ok (.getfield 149, 3) := by decide +kernel
theorem dX11_spare_26 : decode cX11_spare 26 = .ok (.aload_n 0, 1) := by decide +kernel
theorem dX11_spare_27 : decode cX11_spare 27 = .ok (.getfield 52, 3) := by decide +kernel
theorem dX11_spare_30 : decode cX11_spare 30 = .ok (.invokevirtual 293, 3) := by decide +kernel
theorem dX11_spare_33 : decode cX11_spare 33 = .ok (.isub, 1) := by decide +kernel
theorem dX11_spare_34 : decode cX11_spare 34 = .ok (.goto 5, 3) := by decide +kernel
theorem dX11_spare_37 : decode cX11_spare 37 = .ok (.bipush (-5), 2) := by decide +kernel
theorem dX11_spare_39 : decode cX11_spare 39 = .ok (.ireturn, 1) := by decide +kernel
theorem dX11_lettersOf_0 : decode cX11_lettersOf 0 = .ok (.iconst 0, 1) := by decide +kernel
theorem dX11_lettersOf_1 : decode cX11_lettersOf 1 = .ok (.istore_n 2, 1) := by decide +kernel
theorem dX11_lettersOf_2 : decode cX11_lettersOf 2 = .ok (.iconst 0, 1) := by decide +kernel
theorem dX11_lettersOf_3 : decode cX11_lettersOf 3 = .ok (.istore_n 3, 1) := by decide +kernel
theorem dX11_lettersOf_4 : decode cX11_lettersOf 4 = .ok (.iload_n 3, 1) := by decide +kernel
theorem dX11_lettersOf_5 : decode cX11_lettersOf 5 = .ok (.iload_n 1, 1) := by decide +kernel
theorem dX11_lettersOf_6 : decode cX11_lettersOf 6 = .ok (.if_icmp .ge 24, 3) := by decide +kernel
theorem dX11_lettersOf_9 : decode cX11_lettersOf 9 = .ok (.iload_n 3, 1) := by decide +kernel
theorem dX11_lettersOf_10 : decode cX11_lettersOf 10 = .ok (.aload_n 0, 1) := by decide +kernel
theorem dX11_lettersOf_11 : decode cX11_lettersOf 11 = .ok (.arraylength, 1) := by decide +kernel
theorem dX11_lettersOf_12 : decode cX11_lettersOf 12 = .ok (.if_icmp .ge 18, 3) := by decide +kernel
theorem dX11_lettersOf_15 : decode cX11_lettersOf 15 = .ok (.iload_n 2, 1) := by decide +kernel
theorem dX11_lettersOf_16 : decode cX11_lettersOf 16 = .ok (.aload_n 0, 1) := by decide +kernel
theorem dX11_lettersOf_17 : decode cX11_lettersOf 17 = .ok (.iload_n 3, 1) := by decide +kernel
theorem dX11_lettersOf_18 : decode cX11_lettersOf 18 = .ok (.aaload, 1) := by decide +kernel
theorem dX11_lettersOf_19 : decode cX11_lettersOf 19 = .ok (.getfield 113, 3) := by decide +kernel
theorem dX11_lettersOf_22 : decode cX11_lettersOf 22 = .ok (.iadd, 1) := by decide +kernel
theorem dX11_lettersOf_23 : decode cX11_lettersOf 23 = .ok (.istore_n 2, 1) := by decide +kernel
theorem dX11_lettersOf_24 : decode cX11_lettersOf 24 = .ok (.iinc 3 1, 3) := by decide +kernel
theorem dX11_lettersOf_27 : decode cX11_lettersOf 27 = .ok (.goto (-23), 3) := by decide +kernel
theorem dX11_lettersOf_30 : decode cX11_lettersOf 30 = .ok (.iload_n 2, 1) := by decide +kernel
theorem dX11_lettersOf_31 : decode cX11_lettersOf 31 = .ok (.ireturn, 1) := by decide +kernel
theorem dX11_count_0 : decode cX11_count 0 = .ok (.iload_n 1, 1) := by decide +kernel
theorem dX11_count_1 : decode cX11_count 1 = .ok (.tableswitch 128 0 6 #[43, 51, 62, 80, 104, 112, 120], 43) := by decide +kernel
theorem dX11_count_44 : decode cX11_count 44 = .ok (.aload_n 0, 1) := by decide +kernel
theorem dX11_count_45 : decode cX11_count 45 = .ok (.getfield 52, 3) := by decide +kernel
theorem dX11_count_48 : decode cX11_count 48 = .ok (.getfield 235, 3) := by decide +kernel
theorem dX11_count_51 : decode cX11_count 51 = .ok (.ireturn, 1) := by decide +kernel
theorem dX11_count_52 : decode cX11_count 52 = .ok (.aload_n 0, 1) := by decide +kernel
theorem dX11_count_53 : decode cX11_count 53 = .ok (.getfield 52, 3) := by decide +kernel
theorem dX11_count_56 : decode cX11_count 56 = .ok (.getfield 238, 3) := by decide +kernel
theorem dX11_count_59 : decode cX11_count 59 = .ok (.getfield 242, 3) := by decide +kernel
theorem dX11_count_62 : decode cX11_count 62 = .ok (.ireturn, 1) := by decide +kernel
theorem dX11_count_63 : decode cX11_count 63 = .ok (.aload_n 0, 1) := by decide +kernel
theorem dX11_count_64 : decode cX11_count 64 = .ok (.getfield 52, 3) := by decide +kernel
theorem dX11_count_67 : decode cX11_count 67 = .ok (.getfield 256, 3) := by decide +kernel
theorem dX11_count_70 : decode cX11_count 70 = .ok (.aload_n 0, 1) := by decide +kernel
theorem dX11_count_71 : decode cX11_count 71 = .ok (.getfield 52, 3) := by decide +kernel
theorem dX11_count_74 : decode cX11_count 74 = .ok (.getfield 235, 3) := by decide +kernel
theorem dX11_count_77 : decode cX11_count 77 = .ok (.invokestatic 296, 3) := by decide +kernel
theorem dX11_count_80 : decode cX11_count 80 = .ok (.ireturn, 1) := by decide +kernel
theorem dX11_count_81 : decode cX11_count 81 = .ok (.aload_n 0, 1) := by decide +kernel
theorem dX11_count_82 : decode cX11_count 82 = .ok (.getfield 52, 3) := by decide +kernel
theorem dX11_count_85 : decode cX11_count 85 = .ok (.getfield 238, 3) := by decide +kernel
theorem dX11_count_88 : decode cX11_count 88 = .ok (.getfield 260, 3) := by decide +kernel
theorem dX11_count_91 : decode cX11_count 91 = .ok (.aload_n 0, 1) := by decide +kernel
theorem dX11_count_92 : decode cX11_count 92 = .ok (.getfield 52, 3) := by decide +kernel
theorem dX11_count_95 : decode cX11_count 95 = .ok (.getfield 238, 3) := by decide +kernel
theorem dX11_count_98 : decode cX11_count 98 = .ok (.getfield 242, 3) := by decide +kernel
theorem dX11_count_101 : decode cX11_count 101 = .ok (.invokestatic 296, 3) := by decide +kernel
theorem dX11_count_104 : decode cX11_count 104 = .ok (.ireturn, 1) := by decide +kernel
theorem dX11_count_105 : decode cX11_count 105 = .ok (.aload_n 0, 1) := by decide +kernel
theorem dX11_count_106 : decode cX11_count 106 = .ok (.getfield 52, 3) := by decide +kernel
theorem dX11_count_109 : decode cX11_count 109 = .ok (.invokevirtual 300, 3) := by decide +kernel
theorem dX11_count_112 : decode cX11_count 112 = .ok (.ireturn, 1) := by decide +kernel
theorem dX11_count_113 : decode cX11_count 113 = .ok (.aload_n 0, 1) := by decide +kernel
theorem dX11_count_114 : decode cX11_count 114 = .ok (.getfield 10, 3) := by decide +kernel
theorem dX11_count_117 : decode cX11_count 117 = .ok (.getfield 70, 3) := by decide +kernel
theorem dX11_count_120 : decode cX11_count 120 = .ok (.ireturn, 1) := by decide +kernel
theorem dX11_count_121 : decode cX11_count 121 = .ok (.aload_n 0, 1) := by decide +kernel
theorem dX11_count_122 : decode cX11_count 122 = .ok (.getfield 52, 3) := by decide +kernel
theorem dX11_count_125 : decode cX11_count 125 = .ok (.invokevirtual 303, 3) := by decide +kernel
theorem dX11_count_128 : decode cX11_count 128 = .ok (.ireturn, 1) := by decide +kernel
theorem dX11_count_129 : decode cX11_count 129 = .ok (.iconst (-1), 1) := by decide +kernel
theorem dX11_count_130 : decode cX11_count 130 = .ok (.ireturn, 1) := by decide +kernel
def f_X11_feed (x1 : Int32) (x2 : Int32) (x3 : Int32) (x4 : Int32) (x5 : Int32) (D : Dm) : Option (Int32 × Dm) := if ((D 1 1) + 20) ≤ 500 then (bV (f_X7_put x1 D) fun D2 => bV (f_X7_put x2 D2) fun D4 => bV (f_X7_put x3 D4) fun D6 => bV (f_X7_put x4 D6) fun D8 => bV (f_X7_put x5 D8) fun D10 => some ((D10 1 1), D10)) else (some ((-4), D))
def f_X11_isMachine (x0 : Int32) (D : Dm) : Option (Int32 × Dm) := if x0 < 0 then (some (0, D)) else (if 2 ≤ x0 then (some (0, D)) else (some (1, D)))
def f_X11_noteChange (x1 : Int32) (D : Dm) : Option Dm := lt (ud D 0 10 0) fun D1 => if x1 = 0 then (bV (f_X3_startAnew D1) fun D4 => some D4) else (some D1)
def f_X11_machine (x1 : Int32) (x2 : Int32) (D : Dm) : Option (Int32 × Dm) := bI (f_X11_isMachine x1 D) fun y3 D1 => if y3 = 0 then (some ((-2), D1)) else (if x2 < 0 then (some ((-3), D1)) else (if x2 ≤ (D1 1 1) then (bV (f_X7_open x2 D1) fun D7 => bV (f_X5_read D7) fun D9 => if (D9 1 6) = 0 then (gd (inB x1 2) (bV (f_X4_copy (ar_8 (Int32.toNatClampNeg x1)) 4 D9) fun D13 => bV (f_X11_noteChange x1 D13) fun D15 => gd (inB x1 2) (bI (f_X4_countMoves (ar_8 (Int32.toNatClampNeg x1)) D15) fun y20 D18 => some (y20, D18)))) else (some (((-30) - (D9 1 6)), D9))) else (some ((-3), D1))))
def f_X11_readWord_57 (k9 : Int32 → Dm → Option Dm) (x1 : Int32) (x3 : Int32) (D : Dm) : Option Dm := bI (f_X7_readNumber 0 99 D) fun y3 D1 => bV (f_X10_add 21 x3 y3 D1) fun D4 => lt (x1 + 1) fun y6 => k9 y6 D4
def f_X11_readWord_9_b (k9 : Int32 → Dm → Option Dm) (x1 : Int32) (D : Dm) : Option Dm := if 12 < x1 then (some D) else (bI (f_X7_hasMore D) fun y4 D2 => if y4 = 0 then (some D2) else (lt (D2 1 4) fun y6 => bI (f_X7_readSymbol 2 D2) fun y10 D8 => if x1 = 12 then (bV (f_X7_refuse 3 y6 D8) fun D12 => f_X11_readWord_57 k9 x1 y10 D12) else (f_X11_readWord_57 k9 x1 y10 D8)))
def f_X11_readWord_9 : Nat → Int32 → Dm → Option Dm
  | 0, _, _ => none
  | n + 1, x1, D => f_X11_readWord_9_b (f_X11_readWord_9 n) x1 D
def f_X11_readWord  (D : Dm) : Option Dm := bV (f_X10_clear 21 D) fun D1 => f_X11_readWord_9 FU 0 D1
def f_X11_word (x1 : Int32) (D : Dm) : Option (Int32 × Dm) := if x1 < 0 then (some ((-3), D)) else (if x1 ≤ (D 1 1) then (bV (f_X7_open x1 D) fun D3 => bV (f_X11_readWord D3) fun D5 => if (D5 1 6) = 0 then (bV (f_X10_copy 17 21 D5) fun D8 => some ((D8 17 3), D8)) else (some (((-30) - (D5 1 6)), D5))) else (some ((-3), D)))
def f_X11_fault (x1 : Int32) (D : Dm) : Option (Int32 × Dm) := if x1 = 0 then (some ((D 1 6), D)) else (if x1 = 1 then (some ((D 1 7), D)) else (some ((-1), D)))
def f_X11_accept_39 (x1 : Int32) (x2 : Int32) (x3 : Int32) (D : Dm) : Option (Int32 × Dm) := gd (inB x1 2) (lt (((D (ar_8 (Int32.toNatClampNeg x1)) 3) >>> (x2 &&& 31)) &&& 1) fun y2 => if y2 = x3 then (some (y2, D)) else (lt (ud D (ar_8 (Int32.toNatClampNeg x1)) 3 ((D (ar_8 (Int32.toNatClampNeg x1)) 3) ^^^ (1 <<< (x2 &&& 31)))) fun D5 => bV (f_X11_noteChange x1 D5) fun D7 => some (y2, D7)))
def f_X11_accept (x1 : Int32) (x2 : Int32) (x3 : Int32) (D : Dm) : Option (Int32 × Dm) := bI (f_X11_isMachine x1 D) fun y3 D1 => if y3 = 0 then (some ((-2), D1)) else (if x2 < 0 then (some ((-2), D1)) else (gd (inB x1 2) (if x2 < (D1 (ar_8 (Int32.toNatClampNeg x1)) 0) then (if x3 = 0 then (f_X11_accept_39 x1 x2 x3 D1) else (if x3 = 1 then (f_X11_accept_39 x1 x2 x3 D1) else (some ((-3), D1)))) else (some ((-2), D1)))))
def f_X11_move_168 (x1 : Int32) (x5 : Int32) (r8 : Nat) (x9 : Int32) (x10 : Int32) (x11 : Int32) (x12 : Int32) (D : Dm) : Option (Int32 × Dm) := bV (f_X4_put r8 x9 x5 x11 x12 D) fun D1 => bV (f_X11_noteChange x1 D1) fun D3 => some (x10, D3)
def f_X11_move_127 (x1 : Int32) (x5 : Int32) (r8 : Nat) (x9 : Int32) (x10 : Int32) (x11 : Int32) (xs0 : Int32) (D : Dm) : Option (Int32 × Dm) := gd (inB x9 30) (if (D (r8 + 1) (Int32.toNatClampNeg x9)) = x5 then (gd (inB x9 30) (if (D (r8 + 2) (Int32.toNatClampNeg x9)) = x11 then (gd (inB x9 30) (if (D (r8 + 3) (Int32.toNatClampNeg x9)) = xs0 then (some (x10, D)) else (f_X11_move_168 x1 x5 r8 x9 x10 x11 xs0 D))) else (f_X11_move_168 x1 x5 r8 x9 x10 x11 xs0 D))) else (f_X11_move_168 x1 x5 r8 x9 x10 x11 xs0 D))
def f_X11_move_113 (x1 : Int32) (x5 : Int32) (x7 : Int32) (r8 : Nat) (x9 : Int32) (x10 : Int32) (xs0 : Int32) (D : Dm) : Option (Int32 × Dm) := if x5 = (-1) then (f_X11_move_127 x1 x5 r8 x9 x10 xs0 (-1) D) else (f_X11_move_127 x1 x5 r8 x9 x10 xs0 x7 D)
def f_X11_move_99 (x1 : Int32) (x5 : Int32) (x6 : Int32) (x7 : Int32) (r8 : Nat) (x9 : Int32) (xs0 : Int32) (D : Dm) : Option (Int32 × Dm) := if x5 = (-1) then (f_X11_move_113 x1 x5 x7 r8 x9 xs0 (-1) D) else (f_X11_move_113 x1 x5 x7 r8 x9 xs0 x6 D)
def f_X11_move (x1 : Int32) (x2 : Int32) (x3 : Int32) (x4 : Int32) (x5 : Int32) (x6 : Int32) (x7 : Int32) (D : Dm) : Option (Int32 × Dm) := bI (f_X11_isMachine x1 D) fun y3 D1 => if y3 = 0 then (some ((-2), D1)) else (gd (inB x1 2) (bI (f_X4_hasPlace (ar_8 (Int32.toNatClampNeg x1)) x2 x3 x4 D1) fun y8 D6 => if y8 = 0 then (some ((-2), D6)) else (gd (inB x1 2) (if x5 < (-1) then (some ((-3), D6)) else (if (D6 (ar_8 (Int32.toNatClampNeg x1)) 0) ≤ x5 then (some ((-3), D6)) else (bI (f_X4_isRegisterOrNone (ar_8 (Int32.toNatClampNeg x1)) x6 D6) fun y15 D13 => if y15 = 0 then (some ((-3), D13)) else (bI (f_X4_isRegisterOrNone (ar_8 (Int32.toNatClampNeg x1)) x7 D13) fun y19 D17 => if y19 = 0 then (some ((-3), D17)) else (bI (f_X4_slot x2 x3 x4 D17) fun y23 D21 => gd (inB y23 30) (if (D21 ((ar_8 (Int32.toNatClampNeg x1)) + 1) (Int32.toNatClampNeg y23)) = (-1) then (f_X11_move_99 x1 x5 x6 x7 (ar_8 (Int32.toNatClampNeg x1)) y23 0 D21) else (f_X11_move_99 x1 x5 x6 x7 (ar_8 (Int32.toNatClampNeg x1)) y23 1 D21))))))))))
def f_X11_of (x1 : Int32) (x2 : Int32) (D : Dm) : Option (Int32 × Dm) := bI (f_X11_isMachine x1 D) fun y3 D1 => if y3 = 0 then (some ((-2), D1)) else (gd (inB x1 2) (if x2 = 0 then (some ((D1 (ar_8 (Int32.toNatClampNeg x1)) 0), D1)) else (if x2 = 1 then (some ((D1 (ar_8 (Int32.toNatClampNeg x1)) 1), D1)) else (if x2 = 2 then (some ((D1 (ar_8 (Int32.toNatClampNeg x1)) 2), D1)) else (if x2 = 3 then (bI (f_X4_countMoves (ar_8 (Int32.toNatClampNeg x1)) D1) fun y12 D10 => some (y12, D10)) else (if x2 = 4 then (some ((D1 (ar_8 (Int32.toNatClampNeg x1)) 3), D1)) else (some ((-2), D1))))))))
def f_X11_moved (x1 : Int32) (x2 : Int32) (x3 : Int32) (x4 : Int32) (x5 : Int32) (D : Dm) : Option (Int32 × Dm) := bI (f_X11_isMachine x1 D) fun y3 D1 => if y3 = 0 then (some ((-2), D1)) else (gd (inB x1 2) (bI (f_X4_hasPlace (ar_8 (Int32.toNatClampNeg x1)) x2 x3 x4 D1) fun y8 D6 => if y8 = 0 then (some ((-2), D6)) else (gd (inB x1 2) (bI (f_X4_slot x2 x3 x4 D6) fun y13 D11 => if x5 = 0 then (gd (inB y13 30) (some ((D11 ((ar_8 (Int32.toNatClampNeg x1)) + 1) (Int32.toNatClampNeg y13)), D11))) else (if x5 = 1 then (gd (inB y13 30) (some ((D11 ((ar_8 (Int32.toNatClampNeg x1)) + 2) (Int32.toNatClampNeg y13)), D11))) else (if x5 = 2 then (gd (inB y13 30) (some ((D11 ((ar_8 (Int32.toNatClampNeg x1)) + 3) (Int32.toNatClampNeg y13)), D11))) else (some ((-2), D11))))))))
def f_X11_ask (x1 : Int32) (D : Dm) : Option (Int32 × Dm) := bI (f_X11_isMachine x1 D) fun y3 D1 => if y3 = 0 then (some ((-2), D1)) else (gd (inB x1 2) (bV (f_X9_walk_m (ar_8 (Int32.toNatClampNeg x1)) 266 17 (D1 17 3) D1) fun D6 => gd (inB x1 2) (bI (f_X4_takes (ar_8 (Int32.toNatClampNeg x1)) 266 D6) fun y11 D9 => if y11 = 0 then (some (0, D9)) else (some (1, D9)))))
def f_X11_behind (x1 : Int32) (x2 : Int32) (x3 : Int32) (D : Dm) : Option (Int32 × Dm) := bI (f_X11_isMachine x1 D) fun y3 D1 => if y3 = 0 then (some ((-2), D1)) else (if x3 < 0 then (some ((-2), D1)) else (if x3 ≤ 2 then (if x2 < 0 then (some ((-3), D1)) else (if x2 ≤ (D1 17 3) then (gd (inB x1 2) (bV (f_X9_walk_m (ar_8 (Int32.toNatClampNeg x1)) 266 17 x2 D1) fun D10 => bI (f_X1_told 266 x3 D10) fun y14 D12 => some (y14, D12))) else (some ((-3), D1)))) else (some ((-2), D1))))
def f_X11_countTaken_28 (self : Nat → Int32 → Int32 → Int32 → Dm → Option (Int32 × Dm)) (r0 : Nat) (x2 : Int32) (x4 : Int32) (r5 : Nat) (D : Dm) : Option (Int32 × Dm) := if x2 = x4 then (bI (f_X4_takes r0 r5 D) fun y4 D2 => if y4 = 0 then (some (0, D2)) else (some (1, D2))) else (some (0, D))
def f_X11_countTaken_116 (self : Nat → Int32 → Int32 → Int32 → Dm → Option (Int32 × Dm)) (k55 : Nat → Int32 → Int32 → Int32 → Nat → Int32 → Int32 → Dm → Option (Int32 × Dm)) (k67 : Nat → Int32 → Int32 → Int32 → Nat → Int32 → Int32 → Int32 → Dm → Option (Int32 × Dm)) (r0 : Nat) (x2 : Int32) (x3 : Int32) (x4 : Int32) (r5 : Nat) (x7 : Int32) (x8 : Int32) (xs0 : Int32) (xs1 : Int32) (rs3 : Nat) (xs4 : Int32) (D : Dm) : Option (Int32 × Dm) := bI (self rs3 xs1 xs0 x4 D) fun y3 D1 => lt (xs4 + y3) fun y4 => lt (x8 + 1) fun y6 => k67 r0 x2 x3 x4 r5 y4 x7 y6 D1
def f_X11_countTaken_67_b (self : Nat → Int32 → Int32 → Int32 → Dm → Option (Int32 × Dm)) (k55 : Nat → Int32 → Int32 → Int32 → Nat → Int32 → Int32 → Dm → Option (Int32 × Dm)) (k67 : Nat → Int32 → Int32 → Int32 → Nat → Int32 → Int32 → Int32 → Dm → Option (Int32 × Dm)) (r0 : Nat) (x2 : Int32) (x3 : Int32) (x4 : Int32) (r5 : Nat) (x6 : Int32) (x7 : Int32) (x8 : Int32) (D : Dm) : Option (Int32 × Dm) := if x3 < x8 then (lt (x7 + 1) fun y2 => k55 r0 x2 x3 x4 r5 x6 y2 D) else (gd (inB (x2 + 1) 6) (bV (f_X1_copy (ar_268 (Int32.toNatClampNeg (x2 + 1))) r5 D) fun D5 => gd (inB (x2 + 1) 6) (bV (f_X4_advance r0 (ar_268 (Int32.toNatClampNeg (x2 + 1))) x7 x8 D5) fun D8 => if x8 = x3 then (f_X11_countTaken_116 self k55 k67 r0 x2 x3 x4 r5 x7 x8 (x3 + 1) (x2 + 1) r0 x6 D8) else (f_X11_countTaken_116 self k55 k67 r0 x2 x3 x4 r5 x7 x8 x3 (x2 + 1) r0 x6 D8))))
def f_X11_countTaken_67 (self : Nat → Int32 → Int32 → Int32 → Dm → Option (Int32 × Dm)) (k55 : Nat → Int32 → Int32 → Int32 → Nat → Int32 → Int32 → Dm → Option (Int32 × Dm)) : Nat → Nat → Int32 → Int32 → Int32 → Nat → Int32 → Int32 → Int32 → Dm → Option (Int32 × Dm)
  | 0, _, _, _, _, _, _, _, _, _ => none
  | n + 1, r0, x2, x3, x4, r5, x6, x7, x8, D => f_X11_countTaken_67_b self k55 (f_X11_countTaken_67 self k55 n) r0 x2 x3 x4 r5 x6 x7 x8 D
def f_X11_countTaken_55_b (self : Nat → Int32 → Int32 → Int32 → Dm → Option (Int32 × Dm)) (k55 : Nat → Int32 → Int32 → Int32 → Nat → Int32 → Int32 → Dm → Option (Int32 × Dm)) (r0 : Nat) (x2 : Int32) (x3 : Int32) (x4 : Int32) (r5 : Nat) (x6 : Int32) (x7 : Int32) (D : Dm) : Option (Int32 × Dm) := if (D r0 2) ≤ x7 then (some (x6, D)) else (f_X11_countTaken_67 self k55 FU r0 x2 x3 x4 r5 x6 x7 0 D)
def f_X11_countTaken_55 (self : Nat → Int32 → Int32 → Int32 → Dm → Option (Int32 × Dm)) : Nat → Nat → Int32 → Int32 → Int32 → Nat → Int32 → Int32 → Dm → Option (Int32 × Dm)
  | 0, _, _, _, _, _, _, _, _ => none
  | n + 1, r0, x2, x3, x4, r5, x6, x7, D => f_X11_countTaken_55_b self (f_X11_countTaken_55 self n) r0 x2 x3 x4 r5 x6 x7 D
def f_X11_countTaken_e (self : Nat → Int32 → Int32 → Int32 → Dm → Option (Int32 × Dm)) (r0 : Nat) (x2 : Int32) (x3 : Int32) (x4 : Int32) (D : Dm) : Option (Int32 × Dm) := gd (inB x2 6) (if x4 ≤ x2 then (f_X11_countTaken_28 self r0 x2 x4 (ar_268 (Int32.toNatClampNeg x2)) D) else (if 6 ≤ (x2 + 1) then (f_X11_countTaken_28 self r0 x2 x4 (ar_268 (Int32.toNatClampNeg x2)) D) else (if (D (ar_268 (Int32.toNatClampNeg x2)) 0) = (-1) then (f_X11_countTaken_28 self r0 x2 x4 (ar_268 (Int32.toNatClampNeg x2)) D) else (f_X11_countTaken_55 self FU r0 x2 x3 x4 (ar_268 (Int32.toNatClampNeg x2)) 0 0 D))))
def f_X11_countTaken : Nat → Nat → Int32 → Int32 → Int32 → Dm → Option (Int32 × Dm)
  | 0, _, _, _, _, _ => none
  | n + 1, r0, x2, x3, x4, D => f_X11_countTaken_e (f_X11_countTaken n) r0 x2 x3 x4 D
def f_X11_many (x1 : Int32) (x2 : Int32) (D : Dm) : Option (Int32 × Dm) := bI (f_X11_isMachine x1 D) fun y3 D1 => if y3 = 0 then (some ((-2), D1)) else (if x2 < 0 then (some ((-3), D1)) else (if x2 ≤ 5 then (bV (f_X1_start 269 D1) fun D8 => gd (inB x1 2) (bI (f_X11_countTaken RF (ar_8 (Int32.toNatClampNeg x1)) 0 0 x2 D8) fun y13 D11 => some (y13, D11))) else (some ((-3), D1))))
def f_X11_bitsOf_40 (x1 : UInt32) (x2 : Int32) (D : Dm) : Option (Int32 × Dm) := gd (nanB (FP.fsub x1 (FP.fconst1))) (gd (nanB (FP.fmul (FP.fsub x1 (FP.fconst1)) 1258291200)) (some (((x2 <<< (23 &&& 31)) ||| (FP.f2i (FP.fmul (FP.fsub x1 (FP.fconst1)) 1258291200))), D)))
def f_X11_bitsOf_15_b (k15 : UInt32 → Int32 → Int32 → Dm → Option (Int32 × Dm)) (x1 : UInt32) (x2 : Int32) (x3 : Int32) (D : Dm) : Option (Int32 × Dm) := if 30 ≤ x3 then (f_X11_bitsOf_40 x1 x2 D) else (if 0 ≤ (Op.cmpValue (FP.fcmp x1 (FP.fconst1)) .g) then (f_X11_bitsOf_40 x1 x2 D) else (gd (nanB (FP.fmul x1 (FP.fconst2))) (lt (FP.fmul x1 (FP.fconst2)) fun y4 => lt (x2 + (-1)) fun y6 => lt (x3 + 1) fun y8 => k15 y4 y6 y8 D)))
def f_X11_bitsOf_15 : Nat → UInt32 → Int32 → Int32 → Dm → Option (Int32 × Dm)
  | 0, _, _, _, _ => none
  | n + 1, x1, x2, x3, D => f_X11_bitsOf_15_b (f_X11_bitsOf_15 n) x1 x2 x3 D
def f_X11_bitsOf (x0 : UInt32) (D : Dm) : Option (Int32 × Dm) := if 0 < (Op.cmpValue (FP.fcmp x0 (FP.fconst0)) .l) then (f_X11_bitsOf_15 FU x0 127 0 D) else (some (0, D))
def f_X11_share_23_b (k23 : Int32 → Int32 → Int32 → Int32 → Int32 → Dm → Option (Int32 × Dm)) (x1 : Int32) (x2 : Int32) (x3 : Int32) (x4 : Int32) (x5 : Int32) (D : Dm) : Option (Int32 × Dm) := if x2 ≤ x5 then (gd (nanB (FP.fdiv (FP.i2f x3) (FP.i2f x4))) (bI (f_X11_bitsOf (FP.fdiv (FP.i2f x3) (FP.i2f x4)) D) fun y5 D3 => some (y5, D3))) else (gd (inB x1 2) (lt (x4 * (D (ar_8 (Int32.toNatClampNeg x1)) 2)) fun y7 => lt (x5 + 1) fun y9 => k23 x1 x2 x3 y7 y9 D))
def f_X11_share_23 : Nat → Int32 → Int32 → Int32 → Int32 → Int32 → Dm → Option (Int32 × Dm)
  | 0, _, _, _, _, _, _ => none
  | n + 1, x1, x2, x3, x4, x5, D => f_X11_share_23_b (f_X11_share_23 n) x1 x2 x3 x4 x5 D
def f_X11_share (x1 : Int32) (x2 : Int32) (D : Dm) : Option (Int32 × Dm) := bI (f_X11_many x1 x2 D) fun y3 D1 => if 0 ≤ y3 then (gd (inB x2 6) (lt (tab1 (Int32.toNatClampNeg x2)) fun y6 => f_X11_share_23 FU x1 x2 y3 y6 0 D1)) else (some (y3, D1))
def f_X11_compareMachines_68 (xs0 : Int32) (D : Dm) : Option Dm := gd (zbB xs0) (lt (ud D 0 11 xs0) fun D2 => lt (ud D2 0 12 (D2 25 14)) fun D4 => some D4)
def f_X11_compareMachines  (D : Dm) : Option Dm := if (D 0 10) = 0 then (lt (ud D 0 10 1) fun D2 => lt (mxI (D2 9 2) (D2 13 2)) fun y6 => bI (f_X8_find_m y6 262 D2) fun y12 D10 => if y12 = 0 then (f_X11_compareMachines_68 1 D10) else (f_X11_compareMachines_68 0 D10)) else (some D)
def f_X11_differ  (D : Dm) : Option (Int32 × Dm) := bV (f_X11_compareMachines D) fun D1 => if (D1 0 11) = 0 then (some ((D1 262 3), D1)) else (some ((-1), D1))
def f_X11_letterOf (r0 : Nat) (x1 : Int32) (x2 : Int32) (D : Dm) : Option (Int32 × Dm) := if x1 < 0 then (some ((-2), D)) else (if x1 < (D r0 3) then (if x2 = 0 then (gd (inB x1 20) (some ((D (r0 + 1) (Int32.toNatClampNeg x1)), D))) else (if x2 = 1 then (gd (inB x1 20) (some ((D (r0 + 2) (Int32.toNatClampNeg x1)), D))) else (some ((-2), D)))) else (some ((-2), D)))
def f_X11_differs (x1 : Int32) (x2 : Int32) (D : Dm) : Option (Int32 × Dm) := bV (f_X11_compareMachines D) fun D1 => bI (f_X11_letterOf 262 x1 x2 D1) fun y5 D3 => some (y5, D3)
def f_X11_couples  (D : Dm) : Option (Int32 × Dm) := bV (f_X11_compareMachines D) fun D1 => some ((D1 0 12), D1)
def f_X11_lengthOrLetterOf (r0 : Nat) (x1 : Int32) (x2 : Int32) (D : Dm) : Option (Int32 × Dm) := if x1 = (-1) then (if x2 = 0 then (some ((D r0 3), D)) else (some ((-2), D))) else (bI (f_X11_letterOf r0 x1 x2 D) fun y4 D2 => some (y4, D2))
def f_X11_letter_30 (x1 : Int32) (x2 : Int32) (D : Dm) : Option (Int32 × Dm) := bI (f_X11_lengthOrLetterOf 17 x1 x2 D) fun y3 D1 => some (y3, D1)
def f_X11_letter (x1 : Int32) (x2 : Int32) (D : Dm) : Option (Int32 × Dm) := if x2 = 2 then (if x1 < 0 then (f_X11_letter_30 x1 x2 D) else (if (D 17 3) ≤ x1 then (f_X11_letter_30 x1 x2 D) else (gd (inB x1 20) (some ((D 20 (Int32.toNatClampNeg x1)), D))))) else (f_X11_letter_30 x1 x2 D)
def f_X11_isWordTooLong_23  (D : Dm) : Option (Int32 × Dm) := some (1, D)
def f_X11_isWordTooLong  (D : Dm) : Option (Int32 × Dm) := if 6 < (D 17 3) then (f_X11_isWordTooLong_23 D) else (if (D 17 4) ≤ 4 then (some (0, D)) else (f_X11_isWordTooLong_23 D))
def f_X11_remembered  (D : Dm) : Option (Int32 × Dm) := bI (f_X11_isWordTooLong D) fun y3 D1 => if y3 = 0 then (bV (f_X3_lookAt 17 D1) fun D5 => bI (f_X6_keptBits 46 D5) fun y9 D7 => some (y9, D7)) else (some ((-4), D1))
def f_X11_alike (x1 : Int32) (D : Dm) : Option (Int32 × Dm) := bI (f_X3_isShort x1 D) fun y3 D1 => if y3 = 0 then (some ((-2), D1)) else (bI (f_X11_isWordTooLong D1) fun y7 D5 => if y7 = 0 then (bV (f_X3_lookAtShortWords D5) fun D9 => bV (f_X3_lookAt 17 D9) fun D11 => gd (inB x1 10) (bI (f_X6_tellWay 46 (ar_45 (Int32.toNatClampNeg x1)) D11) fun y16 D14 => some (y16, D14))) else (some ((-4), D5)))
def f_X11_begin  (D : Dm) : Option (Int32 × Dm) := lt ((D 43 4) + (D 76 2)) fun y1 => bV (f_X3_startAnew D) fun D3 => some (y1, D3)
def f_X11_step  (D : Dm) : Option (Int32 × Dm) := bV (f_X3_decide D) fun D1 => bI (f_X3_makeStep D1) fun y5 D3 => some (y5, D3)
def f_X11_learn_4_b (k4 : Int32 → Int32 → Dm → Option (Int32 × Dm)) (x1 : Int32) (x2 : Int32) (D : Dm) : Option (Int32 × Dm) := if 40 ≤ x2 then (some (x1, D)) else (bV (f_X3_decide D) fun D2 => bI (f_X3_makeStep D2) fun y6 D4 => if 0 < y6 then (lt (x1 + 1) fun y8 => lt (x2 + 1) fun y10 => k4 y8 y10 D4) else (if y6 = 0 then (some (x1, D4)) else (some (y6, D4))))
def f_X11_learn_4 : Nat → Int32 → Int32 → Dm → Option (Int32 × Dm)
  | 0, _, _, _ => none
  | n + 1, x1, x2, D => f_X11_learn_4_b (f_X11_learn_4 n) x1 x2 D
def f_X11_learn  (D : Dm) : Option (Int32 × Dm) := f_X11_learn_4 FU 0 0 D
def f_X11_brief (x1 : Int32) (x2 : Int32) (x3 : Int32) (D : Dm) : Option (Int32 × Dm) := bI (f_X3_isShort x1 D) fun y3 D1 => if y3 = 0 then (some ((-2), D1)) else (gd (inB x1 10) (bI (f_X11_lengthOrLetterOf (ar_44 (Int32.toNatClampNeg x1)) x2 x3 D1) fun y8 D6 => some (y8, D6)))
def f_X11_test (x1 : Int32) (x2 : Int32) (x3 : Int32) (D : Dm) : Option (Int32 × Dm) := if x1 < 0 then (some ((-2), D)) else (if (D 76 2) ≤ x1 then (some ((-2), D)) else (gd (inB x1 10) (bI (f_X11_lengthOrLetterOf (ar_77 (Int32.toNatClampNeg x1)) x2 x3 D) fun y6 D4 => some (y6, D4))))
def f_X11_registers (x1 : Int32) (D : Dm) : Option (Int32 × Dm) := bI (f_X3_isShort x1 D) fun y3 D1 => if y3 = 0 then (some ((-2), D1)) else (bV (f_X3_lookAtShortWords D1) fun D5 => gd (inB x1 10) (bI (f_X6_keptBits (ar_45 (Int32.toNatClampNeg x1)) D5) fun y10 D8 => some (y10, D8)))
def f_X11_goes (x1 : Int32) (x2 : Int32) (x3 : Int32) (D : Dm) : Option (Int32 × Dm) := bI (f_X3_isShort x1 D) fun y3 D1 => if y3 = 0 then (some ((-2), D1)) else (if x2 < 0 then (some ((-2), D1)) else (if x2 < (D1 9 2) then (if x3 < 0 then (some ((-3), D1)) else (gd (inB x1 10) (if x3 ≤ (D1 (ar_44 (Int32.toNatClampNeg x1)) 4) then (bV (f_X3_lookAtShortWords D1) fun D11 => bV (f_X3_lookAtLonger x1 x2 x3 D11) fun D13 => bI (f_X3_firstAlike D13) fun y17 D15 => some (y17, D15)) else (some ((-3), D1))))) else (some ((-2), D1))))
def f_X11_stands  (D : Dm) : Option (Int32 × Dm) := bV (f_X3_decide D) fun D1 => bI (f_X3_isStanding D1) fun y5 D3 => if y5 = 0 then (some (0, D3)) else (if (D3 43 13) = 3 then (some (1, D3)) else (some (2, D3)))
def f_X11_guess  (D : Dm) : Option (Int32 × Dm) := bV (f_X3_decide D) fun D1 => bI (f_X3_isStanding D1) fun y5 D3 => if y5 = 0 then (some ((-5), D3)) else (bV (f_X9_walk_h 266 17 (D3 17 3) D3) fun D7 => bI (f_X2_takes 266 D7) fun y11 D9 => if y11 = 0 then (some (0, D9)) else (some (1, D9)))
def f_X11_guessed (x1 : Int32) (x2 : Int32) (D : Dm) : Option (Int32 × Dm) := if x1 < 0 then (some ((-3), D)) else (if x1 ≤ (D 17 3) then (if x2 < 0 then (some ((-2), D)) else (if x2 ≤ 2 then (bV (f_X3_decide D) fun D5 => bI (f_X3_isStanding D5) fun y9 D7 => if y9 = 0 then (some ((-5), D7)) else (bV (f_X9_walk_h 266 17 x1 D7) fun D11 => bI (f_X1_told 266 x2 D11) fun y15 D13 => some (y15, D13))) else (some ((-2), D)))) else (some ((-3), D)))
def f_X11_refutes_41 (x1 : Int32) (x2 : Int32) (D : Dm) : Option (Int32 × Dm) := bI (f_X11_lengthOrLetterOf 60 x1 x2 D) fun y3 D1 => some (y3, D1)
def f_X11_refutes (x1 : Int32) (x2 : Int32) (D : Dm) : Option (Int32 × Dm) := bV (f_X3_decide D) fun D1 => bI (f_X3_isStanding D1) fun y5 D3 => if y5 = 0 then (some ((-5), D3)) else (if x1 = (-1) then (if x2 = 0 then (if (D3 43 13) = 0 then (some ((-1), D3)) else (f_X11_refutes_41 x1 x2 D3)) else (f_X11_refutes_41 x1 x2 D3)) else (f_X11_refutes_41 x1 x2 D3))
def f_X11_splits  (D : Dm) : Option (Int32 × Dm) := bV (f_X3_decide D) fun D1 => bI (f_X3_isStanding D1) fun y5 D3 => if y5 = 0 then (some ((-5), D3)) else (some ((D3 43 14), D3))
def f_X11_spare  (D : Dm) : Option (Int32 × Dm) := bV (f_X3_decide D) fun D1 => bI (f_X3_isStanding D1) fun y5 D3 => if y5 = 0 then (some ((-5), D3)) else (bI (f_X3_mostKept D3) fun y10 D8 => some (((D3 9 1) - y10), D8))
def f_X11_lettersOf_s_4_b (k4 : Int32 → Int32 → Int32 → Dm → Option (Int32 × Dm)) (x1 : Int32) (x2 : Int32) (x3 : Int32) (D : Dm) : Option (Int32 × Dm) := if x1 ≤ x3 then (some (x2, D)) else (if 10 ≤ x3 then (some (x2, D)) else (gd (inB x3 10) (lt (x2 + (D (ar_44 (Int32.toNatClampNeg x3)) 3)) fun y4 => lt (x3 + 1) fun y6 => k4 x1 y4 y6 D)))
def f_X11_lettersOf_s_4 : Nat → Int32 → Int32 → Int32 → Dm → Option (Int32 × Dm)
  | 0, _, _, _, _ => none
  | n + 1, x1, x2, x3, D => f_X11_lettersOf_s_4_b (f_X11_lettersOf_s_4 n) x1 x2 x3 D
def f_X11_lettersOf_s (x1 : Int32) (D : Dm) : Option (Int32 × Dm) := f_X11_lettersOf_s_4 FU x1 0 0 D
def f_X11_lettersOf_t_4_b (k4 : Int32 → Int32 → Int32 → Dm → Option (Int32 × Dm)) (x1 : Int32) (x2 : Int32) (x3 : Int32) (D : Dm) : Option (Int32 × Dm) := if x1 ≤ x3 then (some (x2, D)) else (if 10 ≤ x3 then (some (x2, D)) else (gd (inB x3 10) (lt (x2 + (D (ar_77 (Int32.toNatClampNeg x3)) 3)) fun y4 => lt (x3 + 1) fun y6 => k4 x1 y4 y6 D)))
def f_X11_lettersOf_t_4 : Nat → Int32 → Int32 → Int32 → Dm → Option (Int32 × Dm)
  | 0, _, _, _, _ => none
  | n + 1, x1, x2, x3, D => f_X11_lettersOf_t_4_b (f_X11_lettersOf_t_4 n) x1 x2 x3 D
def f_X11_lettersOf_t (x1 : Int32) (D : Dm) : Option (Int32 × Dm) := f_X11_lettersOf_t_4 FU x1 0 0 D
def f_X11_count (x1 : Int32) (D : Dm) : Option (Int32 × Dm) := if x1 = 0 then (some ((D 43 4), D)) else (if x1 = 1 then (some ((D 76 2), D)) else (if x1 = 2 then (bI (f_X11_lettersOf_s (D 43 4) D) fun y6 D4 => some (y6, D4)) else (if x1 = 3 then (bI (f_X11_lettersOf_t (D 76 2) D) fun y10 D8 => some (y10, D8)) else (if x1 = 4 then (bI (f_X3_countLongWords D) fun y14 D12 => some (y14, D12)) else (if x1 = 5 then (some ((D 1 1), D)) else (if x1 = 6 then (bI (f_X3_countTakenShorts D) fun y19 D17 => some (y19, D17)) else (some ((-1), D))))))))
set_option maxHeartbeats 4000000 in
theorem w_X11_feed {G : va_G} {tA : Nat → ClassId} {z : Nat} {E : Ex} {p : Program} {l : Launch} {e : Env} {s : State} {m : MethodId} {args : Array Value} {below : List Frame} {meth : Method} {c : Code} {r : Int32} {D' : Dm} (O : Ok G tA z E cX11_feed RX11 6 p s m args c) (hr : meth.sig.returnType = some .int) (hlk : meth.locks = false) (x1 : Int32) (x2 : Int32) (x3 : Int32) (x4 : Int32) (x5 : Int32) (D : Dm) (h : f_X11_feed x1 x2 x3 x4 x5 D = some (r, D')) : BI G tA z E p l e (rmC 2 0 0) s m args below meth c LAY D r D' 6 0 [(0, .ref (z + 0)), (1, .int x1), (2, .int x2), (3, .int x3), (4, .int x4), (5, .int x5)] [] := by
  obtain ⟨hx, hb, -, hown, hts, -⟩ := id O
  unfold f_X11_feed at h
  intro H locs ls hH hl
  refine lv_aload_n hx hb dX11_feed_0 rfl (lv_at hl 0 rfl) ?_
  refine h_getr O hH ly_0 rfl fl_X11_10 dX11_feed_1 ?_
  refine h_geti O hH ly_1 rfl fl_X11_70 dX11_feed_4 ?_
  refine lv_bipush (v := 20) hx hb dX11_feed_7 (by decide) ?_
  refine lv_iadd hx hb dX11_feed_9 ?_
  refine lv_sipush (v := 500) hx hb dX11_feed_10 (by decide) ?_
  refine lv_icmp_le (tgt := 19) hx hb dX11_feed_13 (by decide) (fun c1 => ?_) (fun c1 => ?_)
  · have h := it_pos h c1
    refine lv_aload_n hx hb dX11_feed_19 rfl (lv_at hl 0 rfl) ?_
    refine h_getr O hH ly_0 rfl fl_X11_10 dX11_feed_20 ?_
    refine lv_iload_n hx hb dX11_feed_23 rfl (lv_at hl 1 rfl) ?_
    obtain ⟨D2, hc3, h⟩ := bV_some h
    refine h_callVv (As := [.int x1]) (rest := []) O hH (c_X7_put hc3) ml_X11_74 ly_1 rfl rfl hl.1 rfl ⟨Nat.le_of_ble_eq_true rfl, Nat.le_of_ble_eq_true rfl⟩ (Nat.le_of_ble_eq_true rfl) dX11_feed_24 (fun H locs hH => ?_)
    refine lv_aload_n hx hb dX11_feed_27 rfl (lv_at hl 0 rfl) ?_
    refine h_getr O hH ly_0 rfl fl_X11_10 dX11_feed_28 ?_
    refine lv_iload_n hx hb dX11_feed_31 rfl (lv_at hl 2 rfl) ?_
    obtain ⟨D4, hc5, h⟩ := bV_some h
    refine h_callVv (As := [.int x2]) (rest := []) O hH (c_X7_put hc5) ml_X11_74 ly_1 rfl rfl hl.1 rfl ⟨Nat.le_of_ble_eq_true rfl, Nat.le_of_ble_eq_true rfl⟩ (Nat.le_of_ble_eq_true rfl) dX11_feed_32 (fun H locs hH => ?_)
    refine lv_aload_n hx hb dX11_feed_35 rfl (lv_at hl 0 rfl) ?_
    refine h_getr O hH ly_0 rfl fl_X11_10 dX11_feed_36 ?_
    refine lv_iload_n hx hb dX11_feed_39 rfl (lv_at hl 3 rfl) ?_
    obtain ⟨D6, hc7, h⟩ := bV_some h
    refine h_callVv (As := [.int x3]) (rest := []) O hH (c_X7_put hc7) ml_X11_74 ly_1 rfl rfl hl.1 rfl ⟨Nat.le_of_ble_eq_true rfl, Nat.le_of_ble_eq_true rfl⟩ (Nat.le_of_ble_eq_true rfl) dX11_feed_40 (fun H locs hH => ?_)
    refine lv_aload_n hx hb dX11_feed_43 rfl (lv_at hl 0 rfl) ?_
    refine h_getr O hH ly_0 rfl fl_X11_10 dX11_feed_44 ?_
    refine lv_iload hx hb dX11_feed_47 (lv_at hl 4 rfl) ?_
    obtain ⟨D8, hc9, h⟩ := bV_some h
    refine h_callVv (As := [.int x4]) (rest := []) O hH (c_X7_put hc9) ml_X11_74 ly_1 rfl rfl hl.1 rfl ⟨Nat.le_of_ble_eq_true rfl, Nat.le_of_ble_eq_true rfl⟩ (Nat.le_of_ble_eq_true rfl) dX11_feed_49 (fun H locs hH => ?_)
    refine lv_aload_n hx hb dX11_feed_52 rfl (lv_at hl 0 rfl) ?_
    refine h_getr O hH ly_0 rfl fl_X11_10 dX11_feed_53 ?_
    refine lv_iload hx hb dX11_feed_56 (lv_at hl 5 rfl) ?_
    obtain ⟨D10, hc11, h⟩ := bV_some h
    refine h_callVv (As := [.int x5]) (rest := []) O hH (c_X7_put hc11) ml_X11_74 ly_1 rfl rfl hl.1 rfl ⟨Nat.le_of_ble_eq_true rfl, Nat.le_of_ble_eq_true rfl⟩ (Nat.le_of_ble_eq_true rfl) dX11_feed_58 (fun H locs hH => ?_)
    refine lv_aload_n hx hb dX11_feed_61 rfl (lv_at hl 0 rfl) ?_
    refine h_getr O hH ly_0 rfl fl_X11_10 dX11_feed_62 ?_
    refine h_geti O hH ly_1 rfl fl_X11_70 dX11_feed_65 ?_
    obtain ⟨rfl, rfl⟩ := ret_i h
    exact h_iret O hr hlk hH dX11_feed_68
  · have h := it_neg h c1
    refine lv_bipush (v := (-4)) hx hb dX11_feed_16 (by decide) ?_
    obtain ⟨rfl, rfl⟩ := ret_i h
    exact h_iret O hr hlk hH dX11_feed_18
set_option maxHeartbeats 4000000 in
theorem c_X11_feed {l : Launch} {G : va_G} {tA : Nat → ClassId} {z : Nat} {E : Ex} {x1 : Int32} {x2 : Int32} {x3 : Int32} {x4 : Int32} {x5 : Int32} {D D' : Dm} {r : Int32} (h : f_X11_feed x1 x2 x3 x4 x5 D = some (r, D')) : CtI l yX11_feed cX11_feed 6 (some .int) G tA z E 2 0 0 [.ref (z + 0), .int x1, .int x2, .int x3, .int x4, .int x5] LAY D r LAY D' :=
  ct_BI (by decide +kernel) (Nat.le_of_ble_eq_true rfl) (fun _ _ _ _ _ _ _ _ O hr hlk => w_X11_feed O hr hlk _ _ _ _ _ _ h)
set_option maxHeartbeats 4000000 in
theorem w_X11_isMachine {G : va_G} {tA : Nat → ClassId} {z : Nat} {E : Ex} {p : Program} {l : Launch} {e : Env} {s : State} {m : MethodId} {args : Array Value} {below : List Frame} {meth : Method} {c : Code} {r : Int32} {D' : Dm} (O : Ok G tA z E cX11_isMachine RX11 1 p s m args c) (hr : meth.sig.returnType = some .boolean) (hlk : meth.locks = false) (x0 : Int32) (D : Dm) (h : f_X11_isMachine x0 D = some (r, D')) : BI G tA z E p l e (rmC 1 0 0) s m args below meth c LAY D r D' 1 0 [(0, .int x0)] [] := by
  obtain ⟨hx, hb, -, hown, hts, -⟩ := id O
  unfold f_X11_isMachine at h
  intro H locs ls hH hl
  refine lv_iload_n hx hb dX11_isMachine_0 rfl (lv_at hl 0 rfl) ?_
  refine lv_if_lt (tgt := 13) hx hb dX11_isMachine_1 (by decide) (fun c1 => ?_) (fun c1 => ?_)
  · have h := it_pos h c1
    refine lv_iconst (v := 0) hx hb dX11_isMachine_13 (by decide) ?_
    obtain ⟨rfl, rfl⟩ := ret_i h
    exact h_zret O hr hlk zb_0 hH dX11_isMachine_14
  · have h := it_neg h c1
    refine lv_iload_n hx hb dX11_isMachine_4 rfl (lv_at hl 0 rfl) ?_
    refine lv_iconst (v := 2) hx hb dX11_isMachine_5 (by decide) ?_
    refine lv_icmp_ge (tgt := 13) hx hb dX11_isMachine_6 (by decide) (fun c2 => ?_) (fun c2 => ?_)
    · have h := it_pos h c2
      refine lv_iconst (v := 0) hx hb dX11_isMachine_13 (by decide) ?_
      obtain ⟨rfl, rfl⟩ := ret_i h
      exact h_zret O hr hlk zb_0 hH dX11_isMachine_14
    · have h := it_neg h c2
      refine lv_iconst (v := 1) hx hb dX11_isMachine_9 (by decide) ?_
      refine lv_goto (tgt := 14) hx hb dX11_isMachine_10 (by decide) ?_
      obtain ⟨rfl, rfl⟩ := ret_i h
      exact h_zret O hr hlk zb_1 hH dX11_isMachine_14
set_option maxHeartbeats 4000000 in
theorem c_X11_isMachine {l : Launch} {G : va_G} {tA : Nat → ClassId} {z : Nat} {E : Ex} {x0 : Int32} {D D' : Dm} {r : Int32} (h : f_X11_isMachine x0 D = some (r, D')) : CtI l yX11_isMachine cX11_isMachine 1 (some .boolean) G tA z E 1 0 0 [.int x0] LAY D r LAY D' :=
  ct_BI (by decide +kernel) (Nat.le_of_ble_eq_true rfl) (fun _ _ _ _ _ _ _ _ O hr hlk => w_X11_isMachine O hr hlk _ _ h)
set_option maxHeartbeats 4000000 in
theorem w_X11_noteChange {G : va_G} {tA : Nat → ClassId} {z : Nat} {E : Ex} {p : Program} {l : Launch} {e : Env} {s : State} {m : MethodId} {args : Array Value} {below : List Frame} {meth : Method} {c : Code} {D' : Dm} (O : Ok G tA z E cX11_noteChange RX11 2 p s m args c) (hr : meth.sig.returnType = none) (hlk : meth.locks = false) (x1 : Int32) (D : Dm) (h : f_X11_noteChange x1 D = some D') : BV G tA z E p l e (rmC 2 0 0) s m args below meth c LAY D D' 2 0 [(0, .ref (z + 0)), (1, .int x1)] [] := by
  obtain ⟨hx, hb, -, hown, hts, -⟩ := id O
  unfold f_X11_noteChange at h
  intro H locs ls hH hl
  refine lv_aload_n hx hb dX11_noteChange_0 rfl (lv_at hl 0 rfl) ?_
  refine lv_iconst (v := 0) hx hb dX11_noteChange_1 (by decide) ?_
  obtain ⟨D1, e2, h⟩ := lt_some h
  refine h_putz O hH ly_0 rfl fl_X11_306 zb_0 e2 dX11_noteChange_2 (fun H locs hH => ?_)
  refine lv_iload_n hx hb dX11_noteChange_5 rfl (lv_at hl 1 rfl) ?_
  refine lv_if_ne (tgt := 16) hx hb dX11_noteChange_6 (by decide) (fun c3 => ?_) (fun c3 => ?_)
  · have h := it_neg h c3
    obtain rfl := ret_v h
    exact h_vret O hr hlk hH dX11_noteChange_16
  · have h := it_pos h c3
    refine lv_aload_n hx hb dX11_noteChange_9 rfl (lv_at hl 0 rfl) ?_
    refine h_getr O hH ly_0 rfl fl_X11_52 dX11_noteChange_10 ?_
    obtain ⟨D4, hc5, h⟩ := bV_some h
    refine h_callVv (As := []) (rest := []) O hH (c_X3_startAnew hc5) ml_X11_247 ly_43 rfl rfl hl.1 rfl ⟨Nat.le_of_ble_eq_true rfl, Nat.le_of_ble_eq_true rfl⟩ (Nat.le_of_ble_eq_true rfl) dX11_noteChange_13 (fun H locs hH => ?_)
    obtain rfl := ret_v h
    exact h_vret O hr hlk hH dX11_noteChange_16
set_option maxHeartbeats 4000000 in
theorem c_X11_noteChange {l : Launch} {G : va_G} {tA : Nat → ClassId} {z : Nat} {E : Ex} {x1 : Int32} {D D' : Dm} (h : f_X11_noteChange x1 D = some D') : CtV l yX11_noteChange cX11_noteChange 2 G tA z E 2 0 0 [.ref (z + 0), .int x1] LAY D LAY D' :=
  ct_BV (by decide +kernel) (Nat.le_of_ble_eq_true rfl) (fun _ _ _ _ _ _ _ _ O hr hlk => w_X11_noteChange O hr hlk _ _ h)
set_option maxHeartbeats 4000000 in
theorem w_X11_machine {G : va_G} {tA : Nat → ClassId} {z : Nat} {E : Ex} {p : Program} {l : Launch} {e : Env} {s : State} {m : MethodId} {args : Array Value} {below : List Frame} {meth : Method} {c : Code} {r : Int32} {D' : Dm} (O : Ok G tA z E cX11_machine RX11 3 p s m args c) (hr : meth.sig.returnType = some .int) (hlk : meth.locks = false) (x1 : Int32) (x2 : Int32) (D : Dm) (h : f_X11_machine x1 x2 D = some (r, D')) : BI G tA z E p l e (rmC 10 0 0) s m args below meth c LAY D r D' 3 0 [(0, .ref (z + 0)), (1, .int x1), (2, .int x2)] [] := by
  obtain ⟨hx, hb, -, hown, hts, -⟩ := id O
  unfold f_X11_machine at h
  intro H locs ls hH hl
  refine lv_iload_n hx hb dX11_machine_0 rfl (lv_at hl 1 rfl) ?_
  obtain ⟨y3, D1, hc2, h⟩ := bI_some h
  refine h_callSi (As := [.int x1]) (rest := []) O hH (c_X11_isMachine hc2) ml_X11_78 rfl hl.1 rfl ⟨Nat.le_of_ble_eq_true rfl, Nat.le_of_ble_eq_true rfl⟩ (Nat.le_of_ble_eq_true rfl) dX11_machine_1 (fun H locs hH => ?_)
  refine lv_if_ne (tgt := 10) hx hb dX11_machine_4 (by decide) (fun c4 => ?_) (fun c4 => ?_)
  · have h := it_neg h c4
    refine lv_iload_n hx hb dX11_machine_10 rfl (lv_at hl 2 rfl) ?_
    refine lv_if_lt (tgt := 25) hx hb dX11_machine_11 (by decide) (fun c5 => ?_) (fun c5 => ?_)
    · have h := it_pos h c5
      refine lv_bipush (v := (-3)) hx hb dX11_machine_25 (by decide) ?_
      obtain ⟨rfl, rfl⟩ := ret_i h
      exact h_iret O hr hlk hH dX11_machine_27
    · have h := it_neg h c5
      refine lv_iload_n hx hb dX11_machine_14 rfl (lv_at hl 2 rfl) ?_
      refine lv_aload_n hx hb dX11_machine_15 rfl (lv_at hl 0 rfl) ?_
      refine h_getr O hH ly_0 rfl fl_X11_10 dX11_machine_16 ?_
      refine h_geti O hH ly_1 rfl fl_X11_70 dX11_machine_19 ?_
      refine lv_icmp_le (tgt := 28) hx hb dX11_machine_22 (by decide) (fun c6 => ?_) (fun c6 => ?_)
      · have h := it_pos h c6
        refine lv_aload_n hx hb dX11_machine_28 rfl (lv_at hl 0 rfl) ?_
        refine h_getr O hH ly_0 rfl fl_X11_10 dX11_machine_29 ?_
        refine lv_iload_n hx hb dX11_machine_32 rfl (lv_at hl 2 rfl) ?_
        obtain ⟨D7, hc8, h⟩ := bV_some h
        refine h_callVv (As := [.int x2]) (rest := []) O hH (c_X7_open hc8) ml_X11_82 ly_1 rfl rfl hl.1 rfl ⟨Nat.le_of_ble_eq_true rfl, Nat.le_of_ble_eq_true rfl⟩ (Nat.le_of_ble_eq_true rfl) dX11_machine_33 (fun H locs hH => ?_)
        refine lv_aload_n hx hb dX11_machine_36 rfl (lv_at hl 0 rfl) ?_
        refine h_getr O hH ly_0 rfl fl_X11_19 dX11_machine_37 ?_
        refine lv_aload_n hx hb dX11_machine_40 rfl (lv_at hl 0 rfl) ?_
        refine h_getr O hH ly_0 rfl fl_X11_10 dX11_machine_41 ?_
        obtain ⟨D9, hc10, h⟩ := bV_some h
        refine h_callVv (As := [.ref (z + 1)]) (rest := []) O hH (c_X5_read hc10) ml_X11_85 ly_3 rfl rfl hl.1 rfl ⟨Nat.le_of_ble_eq_true rfl, Nat.le_of_ble_eq_true rfl⟩ (Nat.le_of_ble_eq_true rfl) dX11_machine_44 (fun H locs hH => ?_)
        refine lv_aload_n hx hb dX11_machine_47 rfl (lv_at hl 0 rfl) ?_
        refine h_getr O hH ly_0 rfl fl_X11_10 dX11_machine_48 ?_
        refine h_geti O hH ly_1 rfl fl_X11_89 dX11_machine_51 ?_
        refine lv_if_eq (tgt := 68) hx hb dX11_machine_54 (by decide) (fun c11 => ?_) (fun c11 => ?_)
        · have h := it_pos h c11
          refine lv_aload_n hx hb dX11_machine_68 rfl (lv_at hl 0 rfl) ?_
          refine h_getr O hH ly_0 rfl fl_X11_25 dX11_machine_69 ?_
          refine lv_iload_n hx hb dX11_machine_72 rfl (lv_at hl 1 rfl) ?_
          obtain ⟨g12, h⟩ := gd_some h
          refine h_aald O hH ly_8 rfl g12 (ar_8_r g12) dX11_machine_73 ?_
          refine lv_aload_n hx hb dX11_machine_74 rfl (lv_at hl 0 rfl) ?_
          refine h_getr O hH ly_0 rfl fl_X11_19 dX11_machine_75 ?_
          refine h_getr O hH ly_3 rfl fl_X11_92 dX11_machine_78 ?_
          obtain ⟨D13, hc14, h⟩ := bV_some h
          refine h_callVv (As := [.ref (z + 4)]) (rest := []) O hH (c_X4_copy (ar_8_c g12) ic_4 hc14) ml_X11_96 (ar_8_c g12).1 rfl rfl hl.1 rfl ⟨Nat.le_of_ble_eq_true rfl, Nat.le_of_ble_eq_true rfl⟩ (Nat.le_of_ble_eq_true rfl) dX11_machine_81 (fun H locs hH => ?_)
          refine lv_aload_n hx hb dX11_machine_84 rfl (lv_at hl 0 rfl) ?_
          refine lv_iload_n hx hb dX11_machine_85 rfl (lv_at hl 1 rfl) ?_
          obtain ⟨D15, hc16, h⟩ := bV_some h
          refine h_callVv (As := [.int x1]) (rest := []) O hH (c_X11_noteChange hc16) ml_X11_100 ly_0 rfl rfl hl.1 rfl ⟨Nat.le_of_ble_eq_true rfl, Nat.le_of_ble_eq_true rfl⟩ (Nat.le_of_ble_eq_true rfl) dX11_machine_86 (fun H locs hH => ?_)
          refine lv_aload_n hx hb dX11_machine_89 rfl (lv_at hl 0 rfl) ?_
          refine h_getr O hH ly_0 rfl fl_X11_25 dX11_machine_90 ?_
          refine lv_iload_n hx hb dX11_machine_93 rfl (lv_at hl 1 rfl) ?_
          obtain ⟨g17, h⟩ := gd_some h
          refine h_aald O hH ly_8 rfl g17 (ar_8_r g17) dX11_machine_94 ?_
          obtain ⟨y20, D18, hc19, h⟩ := bI_some h
          refine h_callVi (As := []) (rest := []) O hH (c_X4_countMoves (ar_8_c g17) hc19) ml_X11_103 (ar_8_c g17).1 rfl rfl hl.1 rfl ⟨Nat.le_of_ble_eq_true rfl, Nat.le_of_ble_eq_true rfl⟩ (Nat.le_of_ble_eq_true rfl) dX11_machine_95 (fun H locs hH => ?_)
          obtain ⟨rfl, rfl⟩ := ret_i h
          exact h_iret O hr hlk hH dX11_machine_98
        · have h := it_neg h c11
          refine lv_bipush (v := (-30)) hx hb dX11_machine_57 (by decide) ?_
          refine lv_aload_n hx hb dX11_machine_59 rfl (lv_at hl 0 rfl) ?_
          refine h_getr O hH ly_0 rfl fl_X11_10 dX11_machine_60 ?_
          refine h_geti O hH ly_1 rfl fl_X11_89 dX11_machine_63 ?_
          refine lv_isub hx hb dX11_machine_66 ?_
          obtain ⟨rfl, rfl⟩ := ret_i h
          exact h_iret O hr hlk hH dX11_machine_67
      · have h := it_neg h c6
        refine lv_bipush (v := (-3)) hx hb dX11_machine_25 (by decide) ?_
        obtain ⟨rfl, rfl⟩ := ret_i h
        exact h_iret O hr hlk hH dX11_machine_27
  · have h := it_pos h c4
    refine lv_bipush (v := (-2)) hx hb dX11_machine_7 (by decide) ?_
    obtain ⟨rfl, rfl⟩ := ret_i h
    exact h_iret O hr hlk hH dX11_machine_9
set_option maxHeartbeats 4000000 in
theorem c_X11_machine {l : Launch} {G : va_G} {tA : Nat → ClassId} {z : Nat} {E : Ex} {x1 : Int32} {x2 : Int32} {D D' : Dm} {r : Int32} (h : f_X11_machine x1 x2 D = some (r, D')) : CtI l yX11_machine cX11_machine 3 (some .int) G tA z E 10 0 0 [.ref (z + 0), .int x1, .int x2] LAY D r LAY D' :=
  ct_BI (by decide +kernel) (Nat.le_of_ble_eq_true rfl) (fun _ _ _ _ _ _ _ _ O hr hlk => w_X11_machine O hr hlk _ _ _ h)
set_option maxHeartbeats 4000000 in
theorem w_X11_readWord_57 {G : va_G} {tA : Nat → ClassId} {z : Nat} {E : Ex} {p : Program} {l : Launch} {e : Env} {s : State} {m : MethodId} {args : Array Value} {below : List Frame} {meth : Method} {c : Code} {D' : Dm} (O : Ok G tA z E cX11_readWord RX11 5 p s m args c) (hr : meth.sig.returnType = none) (hlk : meth.locks = false) {k9 : Int32 → Dm → Option Dm} (hk9 : ∀ (x1 : Int32) (D : Dm), k9 x1 D = some D' → BV G tA z E p l e (rmC 7 0 0) s m args below meth c LAY D D' 5 9 [(0, .ref (z + 0)), (1, .int x1)] []) (x1 : Int32) (x3 : Int32) (D : Dm) (h : f_X11_readWord_57 k9 x1 x3 D = some D') : BV G tA z E p l e (rmC 7 0 0) s m args below meth c LAY D D' 5 57 [(0, .ref (z + 0)), (1, .int x1), (3, .int x3)] [] := by
  obtain ⟨hx, hb, -, hown, hts, -⟩ := id O
  unfold f_X11_readWord_57 at h
  intro H locs ls hH hl
  refine lv_aload_n hx hb dX11_readWord_57 rfl (lv_at hl 0 rfl) ?_
  refine h_getr O hH ly_0 rfl fl_X11_10 dX11_readWord_58 ?_
  refine lv_iconst (v := 0) hx hb dX11_readWord_61 (by decide) ?_
  refine lv_bipush (v := 99) hx hb dX11_readWord_62 (by decide) ?_
  obtain ⟨y3, D1, hc2, h⟩ := bI_some h
  refine h_callVi (As := [.int 0, .int 99]) (rest := []) O hH (c_X7_readNumber hc2) ml_X11_324 ly_1 rfl rfl hl.1 rfl ⟨Nat.le_of_ble_eq_true rfl, Nat.le_of_ble_eq_true rfl⟩ (Nat.le_of_ble_eq_true rfl) dX11_readWord_64 (fun H locs hH => ?_)
  refine lv_istore (lv' := [(4, .int y3), (0, .ref (z + 0)), (1, .int x1), (3, .int x3)]) hx hb dX11_readWord_67 hl (by decide) rfl (fun ls hl => ?_)
  refine lv_aload_n hx hb dX11_readWord_69 rfl (lv_at hl 1 rfl) ?_
  refine h_getr O hH ly_0 rfl fl_X11_37 dX11_readWord_70 ?_
  refine lv_iload_n hx hb dX11_readWord_73 rfl (lv_at hl 3 rfl) ?_
  refine lv_iload hx hb dX11_readWord_74 (lv_at hl 0 rfl) ?_
  obtain ⟨D4, hc5, h⟩ := bV_some h
  refine h_callVv (As := [.int x3, .int y3]) (rest := []) O hH (c_X10_add ic_21 hc5) ml_X11_327 ly_21 rfl rfl hl.1 rfl ⟨Nat.le_of_ble_eq_true rfl, Nat.le_of_ble_eq_true rfl⟩ (Nat.le_of_ble_eq_true rfl) dX11_readWord_76 (fun H locs hH => ?_)
  obtain ⟨y6, e7, h⟩ := lt_some h
  refine lv_iinc (v := y6) (lv' := [(1, .int y6), (4, .int y3), (0, .ref (z + 0)), (3, .int x3)]) hx hb dX11_readWord_79 hl (k := 2) rfl (by rw [e7]; rfl) (by decide) rfl (fun ls hl => ?_)
  refine lv_goto (tgt := 9) hx hb dX11_readWord_82 (by decide) ?_
  exact hk9 _ _ h _ _ _ hH (lv_sub hl [2, 0] rfl)
set_option maxHeartbeats 4000000 in
theorem w_X11_readWord_9_b {G : va_G} {tA : Nat → ClassId} {z : Nat} {E : Ex} {p : Program} {l : Launch} {e : Env} {s : State} {m : MethodId} {args : Array Value} {below : List Frame} {meth : Method} {c : Code} {D' : Dm} (O : Ok G tA z E cX11_readWord RX11 5 p s m args c) (hr : meth.sig.returnType = none) (hlk : meth.locks = false) {k9 : Int32 → Dm → Option Dm} (hk9 : ∀ (x1 : Int32) (D : Dm), k9 x1 D = some D' → BV G tA z E p l e (rmC 7 0 0) s m args below meth c LAY D D' 5 9 [(0, .ref (z + 0)), (1, .int x1)] []) (x1 : Int32) (D : Dm) (h : f_X11_readWord_9_b k9 x1 D = some D') : BV G tA z E p l e (rmC 7 0 0) s m args below meth c LAY D D' 5 9 [(0, .ref (z + 0)), (1, .int x1)] [] := by
  obtain ⟨hx, hb, -, hown, hts, -⟩ := id O
  unfold f_X11_readWord_9_b at h
  intro H locs ls hH hl
  refine lv_iload_n hx hb dX11_readWord_9 rfl (lv_at hl 1 rfl) ?_
  refine lv_bipush (v := 12) hx hb dX11_readWord_10 (by decide) ?_
  refine lv_icmp_gt (tgt := 85) hx hb dX11_readWord_12 (by decide) (fun c1 => ?_) (fun c1 => ?_)
  · have h := it_pos h c1
    obtain rfl := ret_v h
    exact h_vret O hr hlk hH dX11_readWord_85
  · have h := it_neg h c1
    refine lv_aload_n hx hb dX11_readWord_15 rfl (lv_at hl 0 rfl) ?_
    refine h_getr O hH ly_0 rfl fl_X11_10 dX11_readWord_16 ?_
    obtain ⟨y4, D2, hc3, h⟩ := bI_some h
    refine h_callVi (As := []) (rest := []) O hH (c_X7_hasMore hc3) ml_X11_312 ly_1 rfl rfl hl.1 rfl ⟨Nat.le_of_ble_eq_true rfl, Nat.le_of_ble_eq_true rfl⟩ (Nat.le_of_ble_eq_true rfl) dX11_readWord_19 (fun H locs hH => ?_)
    refine lv_if_eq (tgt := 85) hx hb dX11_readWord_22 (by decide) (fun c5 => ?_) (fun c5 => ?_)
    · have h := it_pos h c5
      obtain rfl := ret_v h
      exact h_vret O hr hlk hH dX11_readWord_85
    · have h := it_neg h c5
      refine lv_aload_n hx hb dX11_readWord_25 rfl (lv_at hl 0 rfl) ?_
      refine h_getr O hH ly_0 rfl fl_X11_10 dX11_readWord_26 ?_
      refine h_geti O hH ly_1 rfl fl_X11_315 dX11_readWord_29 ?_
      refine lv_topi (fun y6 e7 => ?_)
      have h := lt_at e7 h
      refine lv_istore_n (lv' := [(2, .int y6), (0, .ref (z + 0)), (1, .int x1)]) hx hb dX11_readWord_32 rfl hl (by decide) rfl (fun ls hl => ?_)
      refine lv_aload_n hx hb dX11_readWord_33 rfl (lv_at hl 1 rfl) ?_
      refine h_getr O hH ly_0 rfl fl_X11_10 dX11_readWord_34 ?_
      refine lv_iconst (v := 2) hx hb dX11_readWord_37 (by decide) ?_
      obtain ⟨y10, D8, hc9, h⟩ := bI_some h
      refine h_callVi (As := [.int 2]) (rest := []) O hH (c_X7_readSymbol hc9) ml_X11_317 ly_1 rfl rfl hl.1 rfl ⟨Nat.le_of_ble_eq_true rfl, Nat.le_of_ble_eq_true rfl⟩ (Nat.le_of_ble_eq_true rfl) dX11_readWord_38 (fun H locs hH => ?_)
      refine lv_istore_n (lv' := [(3, .int y10), (2, .int y6), (0, .ref (z + 0)), (1, .int x1)]) hx hb dX11_readWord_41 rfl hl (by decide) rfl (fun ls hl => ?_)
      refine lv_iload_n hx hb dX11_readWord_42 rfl (lv_at hl 3 rfl) ?_
      refine lv_bipush (v := 12) hx hb dX11_readWord_43 (by decide) ?_
      refine lv_icmp_ne (tgt := 57) hx hb dX11_readWord_45 (by decide) (fun c11 => ?_) (fun c11 => ?_)
      · have h := it_neg h c11
        exact w_X11_readWord_57 O hr hlk hk9 _ _ _ h _ _ _ hH (lv_sub hl [2, 3, 0] rfl)
      · have h := it_pos h c11
        refine lv_aload_n hx hb dX11_readWord_48 rfl (lv_at hl 2 rfl) ?_
        refine h_getr O hH ly_0 rfl fl_X11_10 dX11_readWord_49 ?_
        refine lv_iconst (v := 3) hx hb dX11_readWord_52 (by decide) ?_
        refine lv_iload_n hx hb dX11_readWord_53 rfl (lv_at hl 1 rfl) ?_
        obtain ⟨D12, hc13, h⟩ := bV_some h
        refine h_callVv (As := [.int 3, .int y6]) (rest := []) O hH (c_X7_refuse hc13) ml_X11_320 ly_1 rfl rfl hl.1 rfl ⟨Nat.le_of_ble_eq_true rfl, Nat.le_of_ble_eq_true rfl⟩ (Nat.le_of_ble_eq_true rfl) dX11_readWord_54 (fun H locs hH => ?_)
        exact w_X11_readWord_57 O hr hlk hk9 _ _ _ h _ _ _ hH (lv_sub hl [2, 3, 0] rfl)
set_option maxHeartbeats 4000000 in
theorem w_X11_readWord_9 {G : va_G} {tA : Nat → ClassId} {z : Nat} {E : Ex} {p : Program} {l : Launch} {e : Env} {s : State} {m : MethodId} {args : Array Value} {below : List Frame} {meth : Method} {c : Code} {D' : Dm} (O : Ok G tA z E cX11_readWord RX11 5 p s m args c) (hr : meth.sig.returnType = none) (hlk : meth.locks = false) : ∀ (n : Nat) (x1 : Int32) (D : Dm) (h : f_X11_readWord_9 n x1 D = some D'), BV G tA z E p l e (rmC 7 0 0) s m args below meth c LAY D D' 5 9 [(0, .ref (z + 0)), (1, .int x1)] [] := by
  intro n
  induction n with
  | zero => intro x1 D h; exact no_some h
  | succ n ih => intro x1 D h; exact w_X11_readWord_9_b O hr hlk (fun x1 D h => ih x1 D h) x1 D h
set_option maxHeartbeats 4000000 in
theorem w_X11_readWord {G : va_G} {tA : Nat → ClassId} {z : Nat} {E : Ex} {p : Program} {l : Launch} {e : Env} {s : State} {m : MethodId} {args : Array Value} {below : List Frame} {meth : Method} {c : Code} {D' : Dm} (O : Ok G tA z E cX11_readWord RX11 5 p s m args c) (hr : meth.sig.returnType = none) (hlk : meth.locks = false)  (D : Dm) (h : f_X11_readWord  D = some D') : BV G tA z E p l e (rmC 7 0 0) s m args below meth c LAY D D' 5 0 [(0, .ref (z + 0))] [] := by
  obtain ⟨hx, hb, -, hown, hts, -⟩ := id O
  unfold f_X11_readWord at h
  intro H locs ls hH hl
  refine lv_aload_n hx hb dX11_readWord_0 rfl (lv_at hl 0 rfl) ?_
  refine h_getr O hH ly_0 rfl fl_X11_37 dX11_readWord_1 ?_
  obtain ⟨D1, hc2, h⟩ := bV_some h
  refine h_callVv (As := []) (rest := []) O hH (c_X10_clear ic_21 hc2) ml_X11_309 ly_21 rfl rfl hl.1 rfl ⟨Nat.le_of_ble_eq_true rfl, Nat.le_of_ble_eq_true rfl⟩ (Nat.le_of_ble_eq_true rfl) dX11_readWord_4 (fun H locs hH => ?_)
  refine lv_iconst (v := 0) hx hb dX11_readWord_7 (by decide) ?_
  refine lv_istore_n (lv' := [(1, .int 0), (0, .ref (z + 0))]) hx hb dX11_readWord_8 rfl hl (by decide) rfl (fun ls hl => ?_)
  exact w_X11_readWord_9 O hr hlk FU _ _ h _ _ _ hH (lv_sub hl [1, 0] rfl)
set_option maxHeartbeats 4000000 in
theorem c_X11_readWord {l : Launch} {G : va_G} {tA : Nat → ClassId} {z : Nat} {E : Ex}  {D D' : Dm} (h : f_X11_readWord  D = some D') : CtV l yX11_readWord cX11_readWord 5 G tA z E 7 0 0 [.ref (z + 0)] LAY D LAY D' :=
  ct_BV (by decide +kernel) (Nat.le_of_ble_eq_true rfl) (fun _ _ _ _ _ _ _ _ O hr hlk => w_X11_readWord O hr hlk  _ h)
set_option maxHeartbeats 4000000 in
theorem w_X11_word {G : va_G} {tA : Nat → ClassId} {z : Nat} {E : Ex} {p : Program} {l : Launch} {e : Env} {s : State} {m : MethodId} {args : Array Value} {below : List Frame} {meth : Method} {c : Code} {r : Int32} {D' : Dm} (O : Ok G tA z E cX11_word RX11 2 p s m args c) (hr : meth.sig.returnType = some .int) (hlk : meth.locks = false) (x1 : Int32) (D : Dm) (h : f_X11_word x1 D = some (r, D')) : BI G tA z E p l e (rmC 8 0 0) s m args below meth c LAY D r D' 2 0 [(0, .ref (z + 0)), (1, .int x1)] [] := by
  obtain ⟨hx, hb, -, hown, hts, -⟩ := id O
  unfold f_X11_word at h
  intro H locs ls hH hl
  refine lv_iload_n hx hb dX11_word_0 rfl (lv_at hl 1 rfl) ?_
  refine lv_if_lt (tgt := 15) hx hb dX11_word_1 (by decide) (fun c1 => ?_) (fun c1 => ?_)
  · have h := it_pos h c1
    refine lv_bipush (v := (-3)) hx hb dX11_word_15 (by decide) ?_
    obtain ⟨rfl, rfl⟩ := ret_i h
    exact h_iret O hr hlk hH dX11_word_17
  · have h := it_neg h c1
    refine lv_iload_n hx hb dX11_word_4 rfl (lv_at hl 1 rfl) ?_
    refine lv_aload_n hx hb dX11_word_5 rfl (lv_at hl 0 rfl) ?_
    refine h_getr O hH ly_0 rfl fl_X11_10 dX11_word_6 ?_
    refine h_geti O hH ly_1 rfl fl_X11_70 dX11_word_9 ?_
    refine lv_icmp_le (tgt := 18) hx hb dX11_word_12 (by decide) (fun c2 => ?_) (fun c2 => ?_)
    · have h := it_pos h c2
      refine lv_aload_n hx hb dX11_word_18 rfl (lv_at hl 0 rfl) ?_
      refine h_getr O hH ly_0 rfl fl_X11_10 dX11_word_19 ?_
      refine lv_iload_n hx hb dX11_word_22 rfl (lv_at hl 1 rfl) ?_
      obtain ⟨D3, hc4, h⟩ := bV_some h
      refine h_callVv (As := [.int x1]) (rest := []) O hH (c_X7_open hc4) ml_X11_82 ly_1 rfl rfl hl.1 rfl ⟨Nat.le_of_ble_eq_true rfl, Nat.le_of_ble_eq_true rfl⟩ (Nat.le_of_ble_eq_true rfl) dX11_word_23 (fun H locs hH => ?_)
      refine lv_aload_n hx hb dX11_word_26 rfl (lv_at hl 0 rfl) ?_
      obtain ⟨D5, hc6, h⟩ := bV_some h
      refine h_callVv (As := []) (rest := []) O hH (c_X11_readWord hc6) ml_X11_107 ly_0 rfl rfl hl.1 rfl ⟨Nat.le_of_ble_eq_true rfl, Nat.le_of_ble_eq_true rfl⟩ (Nat.le_of_ble_eq_true rfl) dX11_word_27 (fun H locs hH => ?_)
      refine lv_aload_n hx hb dX11_word_30 rfl (lv_at hl 0 rfl) ?_
      refine h_getr O hH ly_0 rfl fl_X11_10 dX11_word_31 ?_
      refine h_geti O hH ly_1 rfl fl_X11_89 dX11_word_34 ?_
      refine lv_if_eq (tgt := 51) hx hb dX11_word_37 (by decide) (fun c7 => ?_) (fun c7 => ?_)
      · have h := it_pos h c7
        refine lv_aload_n hx hb dX11_word_51 rfl (lv_at hl 0 rfl) ?_
        refine h_getr O hH ly_0 rfl fl_X11_33 dX11_word_52 ?_
        refine lv_aload_n hx hb dX11_word_55 rfl (lv_at hl 0 rfl) ?_
        refine h_getr O hH ly_0 rfl fl_X11_37 dX11_word_56 ?_
        obtain ⟨D8, hc9, h⟩ := bV_some h
        refine h_callVv (As := [.ref (z + 21)]) (rest := []) O hH (c_X10_copy ic_17 ic_21 hc9) ml_X11_110 ly_17 rfl rfl hl.1 rfl ⟨Nat.le_of_ble_eq_true rfl, Nat.le_of_ble_eq_true rfl⟩ (Nat.le_of_ble_eq_true rfl) dX11_word_59 (fun H locs hH => ?_)
        refine lv_aload_n hx hb dX11_word_62 rfl (lv_at hl 0 rfl) ?_
        refine h_getr O hH ly_0 rfl fl_X11_33 dX11_word_63 ?_
        refine h_geti O hH ly_17 rfl fl_X11_113 dX11_word_66 ?_
        obtain ⟨rfl, rfl⟩ := ret_i h
        exact h_iret O hr hlk hH dX11_word_69
      · have h := it_neg h c7
        refine lv_bipush (v := (-30)) hx hb dX11_word_40 (by decide) ?_
        refine lv_aload_n hx hb dX11_word_42 rfl (lv_at hl 0 rfl) ?_
        refine h_getr O hH ly_0 rfl fl_X11_10 dX11_word_43 ?_
        refine h_geti O hH ly_1 rfl fl_X11_89 dX11_word_46 ?_
        refine lv_isub hx hb dX11_word_49 ?_
        obtain ⟨rfl, rfl⟩ := ret_i h
        exact h_iret O hr hlk hH dX11_word_50
    · have h := it_neg h c2
      refine lv_bipush (v := (-3)) hx hb dX11_word_15 (by decide) ?_
      obtain ⟨rfl, rfl⟩ := ret_i h
      exact h_iret O hr hlk hH dX11_word_17
set_option maxHeartbeats 4000000 in
theorem c_X11_word {l : Launch} {G : va_G} {tA : Nat → ClassId} {z : Nat} {E : Ex} {x1 : Int32} {D D' : Dm} {r : Int32} (h : f_X11_word x1 D = some (r, D')) : CtI l yX11_word cX11_word 2 (some .int) G tA z E 8 0 0 [.ref (z + 0), .int x1] LAY D r LAY D' :=
  ct_BI (by decide +kernel) (Nat.le_of_ble_eq_true rfl) (fun _ _ _ _ _ _ _ _ O hr hlk => w_X11_word O hr hlk _ _ h)
set_option maxHeartbeats 4000000 in
theorem w_X11_fault {G : va_G} {tA : Nat → ClassId} {z : Nat} {E : Ex} {p : Program} {l : Launch} {e : Env} {s : State} {m : MethodId} {args : Array Value} {below : List Frame} {meth : Method} {c : Code} {r : Int32} {D' : Dm} (O : Ok G tA z E cX11_fault RX11 2 p s m args c) (hr : meth.sig.returnType = some .int) (hlk : meth.locks = false) (x1 : Int32) (D : Dm) (h : f_X11_fault x1 D = some (r, D')) : BI G tA z E p l e (rmC 1 0 0) s m args below meth c LAY D r D' 2 0 [(0, .ref (z + 0)), (1, .int x1)] [] := by
  obtain ⟨hx, hb, -, hown, hts, -⟩ := id O
  unfold f_X11_fault at h
  intro H locs ls hH hl
  refine lv_iload_n hx hb dX11_fault_0 rfl (lv_at hl 1 rfl) ?_
  refine lv_if_ne (tgt := 12) hx hb dX11_fault_1 (by decide) (fun c1 => ?_) (fun c1 => ?_)
  · have h := it_neg h c1
    refine lv_iload_n hx hb dX11_fault_12 rfl (lv_at hl 1 rfl) ?_
    refine lv_iconst (v := 1) hx hb dX11_fault_13 (by decide) ?_
    refine lv_icmp_ne (tgt := 27) hx hb dX11_fault_14 (by decide) (fun c2 => ?_) (fun c2 => ?_)
    · have h := it_neg h c2
      refine lv_iconst (v := (-1)) hx hb dX11_fault_27 (by decide) ?_
      obtain ⟨rfl, rfl⟩ := ret_i h
      exact h_iret O hr hlk hH dX11_fault_28
    · have h := it_pos h c2
      refine lv_aload_n hx hb dX11_fault_17 rfl (lv_at hl 0 rfl) ?_
      refine h_getr O hH ly_0 rfl fl_X11_10 dX11_fault_18 ?_
      refine h_geti O hH ly_1 rfl fl_X11_116 dX11_fault_21 ?_
      refine lv_goto (tgt := 28) hx hb dX11_fault_24 (by decide) ?_
      obtain ⟨rfl, rfl⟩ := ret_i h
      exact h_iret O hr hlk hH dX11_fault_28
  · have h := it_pos h c1
    refine lv_aload_n hx hb dX11_fault_4 rfl (lv_at hl 0 rfl) ?_
    refine h_getr O hH ly_0 rfl fl_X11_10 dX11_fault_5 ?_
    refine h_geti O hH ly_1 rfl fl_X11_89 dX11_fault_8 ?_
    obtain ⟨rfl, rfl⟩ := ret_i h
    exact h_iret O hr hlk hH dX11_fault_11
set_option maxHeartbeats 4000000 in
theorem c_X11_fault {l : Launch} {G : va_G} {tA : Nat → ClassId} {z : Nat} {E : Ex} {x1 : Int32} {D D' : Dm} {r : Int32} (h : f_X11_fault x1 D = some (r, D')) : CtI l yX11_fault cX11_fault 2 (some .int) G tA z E 1 0 0 [.ref (z + 0), .int x1] LAY D r LAY D' :=
  ct_BI (by decide +kernel) (Nat.le_of_ble_eq_true rfl) (fun _ _ _ _ _ _ _ _ O hr hlk => w_X11_fault O hr hlk _ _ h)
set_option maxHeartbeats 4000000 in
theorem w_X11_accept_39 {G : va_G} {tA : Nat → ClassId} {z : Nat} {E : Ex} {p : Program} {l : Launch} {e : Env} {s : State} {m : MethodId} {args : Array Value} {below : List Frame} {meth : Method} {c : Code} {r : Int32} {D' : Dm} (O : Ok G tA z E cX11_accept RX11 6 p s m args c) (hr : meth.sig.returnType = some .int) (hlk : meth.locks = false) (x1 : Int32) (x2 : Int32) (x3 : Int32) (D : Dm) (h : f_X11_accept_39 x1 x2 x3 D = some (r, D')) : BI G tA z E p l e (rmC 3 0 0) s m args below meth c LAY D r D' 6 39 [(0, .ref (z + 0)), (1, .int x1), (2, .int x2), (3, .int x3)] [] := by
  obtain ⟨hx, hb, -, hown, hts, -⟩ := id O
  unfold f_X11_accept_39 at h
  intro H locs ls hH hl
  refine lv_aload_n hx hb dX11_accept_39 rfl (lv_at hl 0 rfl) ?_
  refine h_getr O hH ly_0 rfl fl_X11_25 dX11_accept_40 ?_
  refine lv_iload_n hx hb dX11_accept_43 rfl (lv_at hl 1 rfl) ?_
  obtain ⟨g1, h⟩ := gd_some h
  refine h_aald O hH ly_8 rfl g1 (ar_8_r g1) dX11_accept_44 ?_
  refine lv_astore (lv' := [(4, .ref (z + (ar_8 (Int32.toNatClampNeg x1)))), (0, .ref (z + 0)), (1, .int x1), (2, .int x2), (3, .int x3)]) hx hb dX11_accept_45 hl (by decide) rfl (fun ls hl => ?_)
  refine lv_aload hx hb dX11_accept_47 (lv_at hl 0 rfl) ?_
  refine h_geti O hH (ar_8_c g1).1 rfl fl_X11_122 dX11_accept_49 ?_
  refine lv_iload_n hx hb dX11_accept_52 rfl (lv_at hl 3 rfl) ?_
  refine lv_ishr hx hb dX11_accept_53 ?_
  refine lv_iconst (v := 1) hx hb dX11_accept_54 (by decide) ?_
  refine lv_iand hx hb dX11_accept_55 ?_
  refine lv_topi (fun y2 e3 => ?_)
  have h := lt_at e3 h
  refine lv_istore (lv' := [(5, .int y2), (4, .ref (z + (ar_8 (Int32.toNatClampNeg x1)))), (0, .ref (z + 0)), (1, .int x1), (2, .int x2), (3, .int x3)]) hx hb dX11_accept_56 hl (by decide) rfl (fun ls hl => ?_)
  refine lv_iload hx hb dX11_accept_58 (lv_at hl 0 rfl) ?_
  refine lv_iload_n hx hb dX11_accept_60 rfl (lv_at hl 5 rfl) ?_
  refine lv_icmp_eq (tgt := 82) hx hb dX11_accept_61 (by decide) (fun c4 => ?_) (fun c4 => ?_)
  · have h := it_pos h c4
    refine lv_iload hx hb dX11_accept_82 (lv_at hl 0 rfl) ?_
    obtain ⟨rfl, rfl⟩ := ret_i h
    exact h_iret O hr hlk hH dX11_accept_84
  · have h := it_neg h c4
    refine lv_aload hx hb dX11_accept_64 (lv_at hl 1 rfl) ?_
    refine lv_dup hx hb dX11_accept_66 rfl ?_
    refine h_geti O hH (ar_8_c g1).1 rfl fl_X11_122 dX11_accept_67 ?_
    refine lv_iconst (v := 1) hx hb dX11_accept_70 (by decide) ?_
    refine lv_iload_n hx hb dX11_accept_71 rfl (lv_at hl 4 rfl) ?_
    refine lv_ishl hx hb dX11_accept_72 ?_
    refine lv_ixor hx hb dX11_accept_73 ?_
    obtain ⟨D5, e6, h⟩ := lt_some h
    refine h_puti O hH (ar_8_c g1).1 rfl fl_X11_122 e6 dX11_accept_74 (fun H locs hH => ?_)
    refine lv_aload_n hx hb dX11_accept_77 rfl (lv_at hl 2 rfl) ?_
    refine lv_iload_n hx hb dX11_accept_78 rfl (lv_at hl 3 rfl) ?_
    obtain ⟨D7, hc8, h⟩ := bV_some h
    refine h_callVv (As := [.int x1]) (rest := []) O hH (c_X11_noteChange hc8) ml_X11_100 ly_0 rfl rfl hl.1 rfl ⟨Nat.le_of_ble_eq_true rfl, Nat.le_of_ble_eq_true rfl⟩ (Nat.le_of_ble_eq_true rfl) dX11_accept_79 (fun H locs hH => ?_)
    refine lv_iload hx hb dX11_accept_82 (lv_at hl 0 rfl) ?_
    obtain ⟨rfl, rfl⟩ := ret_i h
    exact h_iret O hr hlk hH dX11_accept_84
set_option maxHeartbeats 4000000 in
theorem w_X11_accept {G : va_G} {tA : Nat → ClassId} {z : Nat} {E : Ex} {p : Program} {l : Launch} {e : Env} {s : State} {m : MethodId} {args : Array Value} {below : List Frame} {meth : Method} {c : Code} {r : Int32} {D' : Dm} (O : Ok G tA z E cX11_accept RX11 6 p s m args c) (hr : meth.sig.returnType = some .int) (hlk : meth.locks = false) (x1 : Int32) (x2 : Int32) (x3 : Int32) (D : Dm) (h : f_X11_accept x1 x2 x3 D = some (r, D')) : BI G tA z E p l e (rmC 3 0 0) s m args below meth c LAY D r D' 6 0 [(0, .ref (z + 0)), (1, .int x1), (2, .int x2), (3, .int x3)] [] := by
  obtain ⟨hx, hb, -, hown, hts, -⟩ := id O
  unfold f_X11_accept at h
  intro H locs ls hH hl
  refine lv_iload_n hx hb dX11_accept_0 rfl (lv_at hl 1 rfl) ?_
  obtain ⟨y3, D1, hc2, h⟩ := bI_some h
  refine h_callSi (As := [.int x1]) (rest := []) O hH (c_X11_isMachine hc2) ml_X11_78 rfl hl.1 rfl ⟨Nat.le_of_ble_eq_true rfl, Nat.le_of_ble_eq_true rfl⟩ (Nat.le_of_ble_eq_true rfl) dX11_accept_1 (fun H locs hH => ?_)
  refine lv_if_eq (tgt := 24) hx hb dX11_accept_4 (by decide) (fun c4 => ?_) (fun c4 => ?_)
  · have h := it_pos h c4
    refine lv_bipush (v := (-2)) hx hb dX11_accept_24 (by decide) ?_
    obtain ⟨rfl, rfl⟩ := ret_i h
    exact h_iret O hr hlk hH dX11_accept_26
  · have h := it_neg h c4
    refine lv_iload_n hx hb dX11_accept_7 rfl (lv_at hl 2 rfl) ?_
    refine lv_if_lt (tgt := 24) hx hb dX11_accept_8 (by decide) (fun c5 => ?_) (fun c5 => ?_)
    · have h := it_pos h c5
      refine lv_bipush (v := (-2)) hx hb dX11_accept_24 (by decide) ?_
      obtain ⟨rfl, rfl⟩ := ret_i h
      exact h_iret O hr hlk hH dX11_accept_26
    · have h := it_neg h c5
      refine lv_iload_n hx hb dX11_accept_11 rfl (lv_at hl 2 rfl) ?_
      refine lv_aload_n hx hb dX11_accept_12 rfl (lv_at hl 0 rfl) ?_
      refine h_getr O hH ly_0 rfl fl_X11_25 dX11_accept_13 ?_
      refine lv_iload_n hx hb dX11_accept_16 rfl (lv_at hl 1 rfl) ?_
      obtain ⟨g6, h⟩ := gd_some h
      refine h_aald O hH ly_8 rfl g6 (ar_8_r g6) dX11_accept_17 ?_
      refine h_geti O hH (ar_8_c g6).1 rfl fl_X11_119 dX11_accept_18 ?_
      refine lv_icmp_lt (tgt := 27) hx hb dX11_accept_21 (by decide) (fun c7 => ?_) (fun c7 => ?_)
      · have h := it_pos h c7
        refine lv_iload_n hx hb dX11_accept_27 rfl (lv_at hl 3 rfl) ?_
        refine lv_if_eq (tgt := 39) hx hb dX11_accept_28 (by decide) (fun c8 => ?_) (fun c8 => ?_)
        · have h := it_pos h c8
          exact w_X11_accept_39 O hr hlk _ _ _ _ h _ _ _ hH (lv_sub hl [0, 1, 2, 3] rfl)
        · have h := it_neg h c8
          refine lv_iload_n hx hb dX11_accept_31 rfl (lv_at hl 3 rfl) ?_
          refine lv_iconst (v := 1) hx hb dX11_accept_32 (by decide) ?_
          refine lv_icmp_eq (tgt := 39) hx hb dX11_accept_33 (by decide) (fun c9 => ?_) (fun c9 => ?_)
          · have h := it_pos h c9
            exact w_X11_accept_39 O hr hlk _ _ _ _ h _ _ _ hH (lv_sub hl [0, 1, 2, 3] rfl)
          · have h := it_neg h c9
            refine lv_bipush (v := (-3)) hx hb dX11_accept_36 (by decide) ?_
            obtain ⟨rfl, rfl⟩ := ret_i h
            exact h_iret O hr hlk hH dX11_accept_38
      · have h := it_neg h c7
        refine lv_bipush (v := (-2)) hx hb dX11_accept_24 (by decide) ?_
        obtain ⟨rfl, rfl⟩ := ret_i h
        exact h_iret O hr hlk hH dX11_accept_26
set_option maxHeartbeats 4000000 in
theorem c_X11_accept {l : Launch} {G : va_G} {tA : Nat → ClassId} {z : Nat} {E : Ex} {x1 : Int32} {x2 : Int32} {x3 : Int32} {D D' : Dm} {r : Int32} (h : f_X11_accept x1 x2 x3 D = some (r, D')) : CtI l yX11_accept cX11_accept 6 (some .int) G tA z E 3 0 0 [.ref (z + 0), .int x1, .int x2, .int x3] LAY D r LAY D' :=
  ct_BI (by decide +kernel) (Nat.le_of_ble_eq_true rfl) (fun _ _ _ _ _ _ _ _ O hr hlk => w_X11_accept O hr hlk _ _ _ _ h)
set_option maxHeartbeats 4000000 in
theorem w_X11_move_168 {G : va_G} {tA : Nat → ClassId} {z : Nat} {E : Ex} {p : Program} {l : Launch} {e : Env} {s : State} {m : MethodId} {args : Array Value} {below : List Frame} {meth : Method} {c : Code} {r : Int32} {D' : Dm} (O : Ok G tA z E cX11_move RX11 13 p s m args c) (hr : meth.sig.returnType = some .int) (hlk : meth.locks = false) (x1 : Int32) (x5 : Int32) (r8 : Nat) (x9 : Int32) (x10 : Int32) (x11 : Int32) (x12 : Int32) (h8 : isC4 r8) (D : Dm) (h : f_X11_move_168 x1 x5 r8 x9 x10 x11 x12 D = some (r, D')) : BI G tA z E p l e (rmC 3 0 0) s m args below meth c LAY D r D' 13 168 [(0, .ref (z + 0)), (1, .int x1), (5, .int x5), (8, .ref (z + r8)), (9, .int x9), (10, .int x10), (11, .int x11), (12, .int x12)] [] := by
  obtain ⟨hx, hb, -, hown, hts, -⟩ := id O
  unfold f_X11_move_168 at h
  intro H locs ls hH hl
  refine lv_aload hx hb dX11_move_168 (lv_at hl 3 rfl) ?_
  refine lv_iload hx hb dX11_move_170 (lv_at hl 4 rfl) ?_
  refine lv_iload hx hb dX11_move_172 (lv_at hl 2 rfl) ?_
  refine lv_iload hx hb dX11_move_174 (lv_at hl 6 rfl) ?_
  refine lv_iload hx hb dX11_move_176 (lv_at hl 7 rfl) ?_
  obtain ⟨D1, hc2, h⟩ := bV_some h
  refine h_callVv (As := [.int x9, .int x5, .int x11, .int x12]) (rest := []) O hH (c_X4_put h8 hc2) ml_X11_146 h8.1 rfl rfl hl.1 rfl ⟨Nat.le_of_ble_eq_true rfl, Nat.le_of_ble_eq_true rfl⟩ (Nat.le_of_ble_eq_true rfl) dX11_move_178 (fun H locs hH => ?_)
  refine lv_aload_n hx hb dX11_move_181 rfl (lv_at hl 0 rfl) ?_
  refine lv_iload_n hx hb dX11_move_182 rfl (lv_at hl 1 rfl) ?_
  obtain ⟨D3, hc4, h⟩ := bV_some h
  refine h_callVv (As := [.int x1]) (rest := []) O hH (c_X11_noteChange hc4) ml_X11_100 ly_0 rfl rfl hl.1 rfl ⟨Nat.le_of_ble_eq_true rfl, Nat.le_of_ble_eq_true rfl⟩ (Nat.le_of_ble_eq_true rfl) dX11_move_183 (fun H locs hH => ?_)
  refine lv_iload hx hb dX11_move_186 (lv_at hl 5 rfl) ?_
  obtain ⟨rfl, rfl⟩ := ret_i h
  exact h_iret O hr hlk hH dX11_move_188
set_option maxHeartbeats 4000000 in
theorem w_X11_move_127 {G : va_G} {tA : Nat → ClassId} {z : Nat} {E : Ex} {p : Program} {l : Launch} {e : Env} {s : State} {m : MethodId} {args : Array Value} {below : List Frame} {meth : Method} {c : Code} {r : Int32} {D' : Dm} (O : Ok G tA z E cX11_move RX11 13 p s m args c) (hr : meth.sig.returnType = some .int) (hlk : meth.locks = false) (x1 : Int32) (x5 : Int32) (r8 : Nat) (x9 : Int32) (x10 : Int32) (x11 : Int32) (xs0 : Int32) (h8 : isC4 r8) (D : Dm) (h : f_X11_move_127 x1 x5 r8 x9 x10 x11 xs0 D = some (r, D')) : BI G tA z E p l e (rmC 3 0 0) s m args below meth c LAY D r D' 13 127 [(0, .ref (z + 0)), (1, .int x1), (5, .int x5), (8, .ref (z + r8)), (9, .int x9), (10, .int x10), (11, .int x11)] [.int xs0] := by
  obtain ⟨hx, hb, -, hown, hts, -⟩ := id O
  unfold f_X11_move_127 at h
  intro H locs ls hH hl
  refine lv_istore (lv' := [(12, .int xs0), (0, .ref (z + 0)), (1, .int x1), (5, .int x5), (8, .ref (z + r8)), (9, .int x9), (10, .int x10), (11, .int x11)]) hx hb dX11_move_127 hl (by decide) rfl (fun ls hl => ?_)
  refine lv_aload hx hb dX11_move_129 (lv_at hl 4 rfl) ?_
  refine h_getr O hH h8.1 rfl fl_X11_136 dX11_move_131 ?_
  refine lv_iload hx hb dX11_move_134 (lv_at hl 5 rfl) ?_
  obtain ⟨g1, h⟩ := gd_some h
  refine h_iald O hH h8.2.1 g1 dX11_move_136 ?_
  refine lv_iload hx hb dX11_move_137 (lv_at hl 3 rfl) ?_
  refine lv_icmp_ne (tgt := 168) hx hb dX11_move_139 (by decide) (fun c2 => ?_) (fun c2 => ?_)
  · have h := it_neg h c2
    exact w_X11_move_168 O hr hlk _ _ _ _ _ _ _ h8 _ h _ _ _ hH (lv_sub hl [1, 2, 3, 4, 5, 6, 7, 0] rfl)
  · have h := it_pos h c2
    refine lv_aload hx hb dX11_move_142 (lv_at hl 4 rfl) ?_
    refine h_getr O hH h8.1 rfl fl_X11_140 dX11_move_144 ?_
    refine lv_iload hx hb dX11_move_147 (lv_at hl 5 rfl) ?_
    obtain ⟨g3, h⟩ := gd_some h
    refine h_iald O hH h8.2.2.1 g3 dX11_move_149 ?_
    refine lv_iload hx hb dX11_move_150 (lv_at hl 7 rfl) ?_
    refine lv_icmp_ne (tgt := 168) hx hb dX11_move_152 (by decide) (fun c4 => ?_) (fun c4 => ?_)
    · have h := it_neg h c4
      exact w_X11_move_168 O hr hlk _ _ _ _ _ _ _ h8 _ h _ _ _ hH (lv_sub hl [1, 2, 3, 4, 5, 6, 7, 0] rfl)
    · have h := it_pos h c4
      refine lv_aload hx hb dX11_move_155 (lv_at hl 4 rfl) ?_
      refine h_getr O hH h8.1 rfl fl_X11_143 dX11_move_157 ?_
      refine lv_iload hx hb dX11_move_160 (lv_at hl 5 rfl) ?_
      obtain ⟨g5, h⟩ := gd_some h
      refine h_iald O hH h8.2.2.2 g5 dX11_move_162 ?_
      refine lv_iload hx hb dX11_move_163 (lv_at hl 0 rfl) ?_
      refine lv_icmp_eq (tgt := 186) hx hb dX11_move_165 (by decide) (fun c6 => ?_) (fun c6 => ?_)
      · have h := it_pos h c6
        refine lv_iload hx hb dX11_move_186 (lv_at hl 6 rfl) ?_
        obtain ⟨rfl, rfl⟩ := ret_i h
        exact h_iret O hr hlk hH dX11_move_188
      · have h := it_neg h c6
        exact w_X11_move_168 O hr hlk _ _ _ _ _ _ _ h8 _ h _ _ _ hH (lv_sub hl [1, 2, 3, 4, 5, 6, 7, 0] rfl)
set_option maxHeartbeats 4000000 in
theorem w_X11_move_113 {G : va_G} {tA : Nat → ClassId} {z : Nat} {E : Ex} {p : Program} {l : Launch} {e : Env} {s : State} {m : MethodId} {args : Array Value} {below : List Frame} {meth : Method} {c : Code} {r : Int32} {D' : Dm} (O : Ok G tA z E cX11_move RX11 13 p s m args c) (hr : meth.sig.returnType = some .int) (hlk : meth.locks = false) (x1 : Int32) (x5 : Int32) (x7 : Int32) (r8 : Nat) (x9 : Int32) (x10 : Int32) (xs0 : Int32) (h8 : isC4 r8) (D : Dm) (h : f_X11_move_113 x1 x5 x7 r8 x9 x10 xs0 D = some (r, D')) : BI G tA z E p l e (rmC 3 0 0) s m args below meth c LAY D r D' 13 113 [(0, .ref (z + 0)), (1, .int x1), (5, .int x5), (7, .int x7), (8, .ref (z + r8)), (9, .int x9), (10, .int x10)] [.int xs0] := by
  obtain ⟨hx, hb, -, hown, hts, -⟩ := id O
  unfold f_X11_move_113 at h
  intro H locs ls hH hl
  refine lv_istore (lv' := [(11, .int xs0), (0, .ref (z + 0)), (1, .int x1), (5, .int x5), (7, .int x7), (8, .ref (z + r8)), (9, .int x9), (10, .int x10)]) hx hb dX11_move_113 hl (by decide) rfl (fun ls hl => ?_)
  refine lv_iload hx hb dX11_move_115 (lv_at hl 3 rfl) ?_
  refine lv_iconst (v := (-1)) hx hb dX11_move_117 (by decide) ?_
  refine lv_icmp_ne (tgt := 125) hx hb dX11_move_118 (by decide) (fun c1 => ?_) (fun c1 => ?_)
  · have h := it_neg h c1
    refine lv_iload hx hb dX11_move_125 (lv_at hl 4 rfl) ?_
    exact w_X11_move_127 O hr hlk _ _ _ _ _ _ _ h8 _ h _ _ _ hH (lv_sub hl [1, 2, 3, 5, 6, 7, 0] rfl)
  · have h := it_pos h c1
    refine lv_iconst (v := (-1)) hx hb dX11_move_121 (by decide) ?_
    refine lv_goto (tgt := 127) hx hb dX11_move_122 (by decide) ?_
    exact w_X11_move_127 O hr hlk _ _ _ _ _ _ _ h8 _ h _ _ _ hH (lv_sub hl [1, 2, 3, 5, 6, 7, 0] rfl)
set_option maxHeartbeats 4000000 in
theorem w_X11_move_99 {G : va_G} {tA : Nat → ClassId} {z : Nat} {E : Ex} {p : Program} {l : Launch} {e : Env} {s : State} {m : MethodId} {args : Array Value} {below : List Frame} {meth : Method} {c : Code} {r : Int32} {D' : Dm} (O : Ok G tA z E cX11_move RX11 13 p s m args c) (hr : meth.sig.returnType = some .int) (hlk : meth.locks = false) (x1 : Int32) (x5 : Int32) (x6 : Int32) (x7 : Int32) (r8 : Nat) (x9 : Int32) (xs0 : Int32) (h8 : isC4 r8) (D : Dm) (h : f_X11_move_99 x1 x5 x6 x7 r8 x9 xs0 D = some (r, D')) : BI G tA z E p l e (rmC 3 0 0) s m args below meth c LAY D r D' 13 99 [(0, .ref (z + 0)), (1, .int x1), (5, .int x5), (6, .int x6), (7, .int x7), (8, .ref (z + r8)), (9, .int x9)] [.int xs0] := by
  obtain ⟨hx, hb, -, hown, hts, -⟩ := id O
  unfold f_X11_move_99 at h
  intro H locs ls hH hl
  refine lv_istore (lv' := [(10, .int xs0), (0, .ref (z + 0)), (1, .int x1), (5, .int x5), (6, .int x6), (7, .int x7), (8, .ref (z + r8)), (9, .int x9)]) hx hb dX11_move_99 hl (by decide) rfl (fun ls hl => ?_)
  refine lv_iload hx hb dX11_move_101 (lv_at hl 3 rfl) ?_
  refine lv_iconst (v := (-1)) hx hb dX11_move_103 (by decide) ?_
  refine lv_icmp_ne (tgt := 111) hx hb dX11_move_104 (by decide) (fun c1 => ?_) (fun c1 => ?_)
  · have h := it_neg h c1
    refine lv_iload hx hb dX11_move_111 (lv_at hl 4 rfl) ?_
    exact w_X11_move_113 O hr hlk _ _ _ _ _ _ _ h8 _ h _ _ _ hH (lv_sub hl [1, 2, 3, 5, 6, 7, 0] rfl)
  · have h := it_pos h c1
    refine lv_iconst (v := (-1)) hx hb dX11_move_107 (by decide) ?_
    refine lv_goto (tgt := 113) hx hb dX11_move_108 (by decide) ?_
    exact w_X11_move_113 O hr hlk _ _ _ _ _ _ _ h8 _ h _ _ _ hH (lv_sub hl [1, 2, 3, 5, 6, 7, 0] rfl)
set_option maxHeartbeats 4000000 in
theorem w_X11_move {G : va_G} {tA : Nat → ClassId} {z : Nat} {E : Ex} {p : Program} {l : Launch} {e : Env} {s : State} {m : MethodId} {args : Array Value} {below : List Frame} {meth : Method} {c : Code} {r : Int32} {D' : Dm} (O : Ok G tA z E cX11_move RX11 13 p s m args c) (hr : meth.sig.returnType = some .int) (hlk : meth.locks = false) (x1 : Int32) (x2 : Int32) (x3 : Int32) (x4 : Int32) (x5 : Int32) (x6 : Int32) (x7 : Int32) (D : Dm) (h : f_X11_move x1 x2 x3 x4 x5 x6 x7 D = some (r, D')) : BI G tA z E p l e (rmC 3 0 0) s m args below meth c LAY D r D' 13 0 [(0, .ref (z + 0)), (1, .int x1), (2, .int x2), (3, .int x3), (4, .int x4), (5, .int x5), (6, .int x6), (7, .int x7)] [] := by
  obtain ⟨hx, hb, -, hown, hts, -⟩ := id O
  unfold f_X11_move at h
  intro H locs ls hH hl
  refine lv_iload_n hx hb dX11_move_0 rfl (lv_at hl 1 rfl) ?_
  obtain ⟨y3, D1, hc2, h⟩ := bI_some h
  refine h_callSi (As := [.int x1]) (rest := []) O hH (c_X11_isMachine hc2) ml_X11_78 rfl hl.1 rfl ⟨Nat.le_of_ble_eq_true rfl, Nat.le_of_ble_eq_true rfl⟩ (Nat.le_of_ble_eq_true rfl) dX11_move_1 (fun H locs hH => ?_)
  refine lv_if_eq (tgt := 23) hx hb dX11_move_4 (by decide) (fun c4 => ?_) (fun c4 => ?_)
  · have h := it_pos h c4
    refine lv_bipush (v := (-2)) hx hb dX11_move_23 (by decide) ?_
    obtain ⟨rfl, rfl⟩ := ret_i h
    exact h_iret O hr hlk hH dX11_move_25
  · have h := it_neg h c4
    refine lv_aload_n hx hb dX11_move_7 rfl (lv_at hl 0 rfl) ?_
    refine h_getr O hH ly_0 rfl fl_X11_25 dX11_move_8 ?_
    refine lv_iload_n hx hb dX11_move_11 rfl (lv_at hl 1 rfl) ?_
    obtain ⟨g5, h⟩ := gd_some h
    refine h_aald O hH ly_8 rfl g5 (ar_8_r g5) dX11_move_12 ?_
    refine lv_iload_n hx hb dX11_move_13 rfl (lv_at hl 2 rfl) ?_
    refine lv_iload_n hx hb dX11_move_14 rfl (lv_at hl 3 rfl) ?_
    refine lv_iload hx hb dX11_move_15 (lv_at hl 4 rfl) ?_
    obtain ⟨y8, D6, hc7, h⟩ := bI_some h
    refine h_callVi (As := [.int x2, .int x3, .int x4]) (rest := []) O hH (c_X4_hasPlace (ar_8_c g5) hc7) ml_X11_125 (ar_8_c g5).1 rfl rfl hl.1 rfl ⟨Nat.le_of_ble_eq_true rfl, Nat.le_of_ble_eq_true rfl⟩ (Nat.le_of_ble_eq_true rfl) dX11_move_17 (fun H locs hH => ?_)
    refine lv_if_ne (tgt := 26) hx hb dX11_move_20 (by decide) (fun c9 => ?_) (fun c9 => ?_)
    · have h := it_neg h c9
      refine lv_aload_n hx hb dX11_move_26 rfl (lv_at hl 0 rfl) ?_
      refine h_getr O hH ly_0 rfl fl_X11_25 dX11_move_27 ?_
      refine lv_iload_n hx hb dX11_move_30 rfl (lv_at hl 1 rfl) ?_
      obtain ⟨g10, h⟩ := gd_some h
      refine h_aald O hH ly_8 rfl g10 (ar_8_r g10) dX11_move_31 ?_
      refine lv_astore (lv' := [(8, .ref (z + (ar_8 (Int32.toNatClampNeg x1)))), (0, .ref (z + 0)), (1, .int x1), (2, .int x2), (3, .int x3), (4, .int x4), (5, .int x5), (6, .int x6), (7, .int x7)]) hx hb dX11_move_32 hl (by decide) rfl (fun ls hl => ?_)
      refine lv_iload hx hb dX11_move_34 (lv_at hl 6 rfl) ?_
      refine lv_iconst (v := (-1)) hx hb dX11_move_36 (by decide) ?_
      refine lv_icmp_lt (tgt := 70) hx hb dX11_move_37 (by decide) (fun c11 => ?_) (fun c11 => ?_)
      · have h := it_pos h c11
        refine lv_bipush (v := (-3)) hx hb dX11_move_70 (by decide) ?_
        obtain ⟨rfl, rfl⟩ := ret_i h
        exact h_iret O hr hlk hH dX11_move_72
      · have h := it_neg h c11
        refine lv_iload hx hb dX11_move_40 (lv_at hl 6 rfl) ?_
        refine lv_aload hx hb dX11_move_42 (lv_at hl 0 rfl) ?_
        refine h_geti O hH (ar_8_c g10).1 rfl fl_X11_119 dX11_move_44 ?_
        refine lv_icmp_ge (tgt := 70) hx hb dX11_move_47 (by decide) (fun c12 => ?_) (fun c12 => ?_)
        · have h := it_pos h c12
          refine lv_bipush (v := (-3)) hx hb dX11_move_70 (by decide) ?_
          obtain ⟨rfl, rfl⟩ := ret_i h
          exact h_iret O hr hlk hH dX11_move_72
        · have h := it_neg h c12
          refine lv_aload hx hb dX11_move_50 (lv_at hl 0 rfl) ?_
          refine lv_iload hx hb dX11_move_52 (lv_at hl 7 rfl) ?_
          obtain ⟨y15, D13, hc14, h⟩ := bI_some h
          refine h_callVi (As := [.int x6]) (rest := []) O hH (c_X4_isRegisterOrNone (ar_8_c g10) hc14) ml_X11_129 (ar_8_c g10).1 rfl rfl hl.1 rfl ⟨Nat.le_of_ble_eq_true rfl, Nat.le_of_ble_eq_true rfl⟩ (Nat.le_of_ble_eq_true rfl) dX11_move_54 (fun H locs hH => ?_)
          refine lv_if_eq (tgt := 70) hx hb dX11_move_57 (by decide) (fun c16 => ?_) (fun c16 => ?_)
          · have h := it_pos h c16
            refine lv_bipush (v := (-3)) hx hb dX11_move_70 (by decide) ?_
            obtain ⟨rfl, rfl⟩ := ret_i h
            exact h_iret O hr hlk hH dX11_move_72
          · have h := it_neg h c16
            refine lv_aload hx hb dX11_move_60 (lv_at hl 0 rfl) ?_
            refine lv_iload hx hb dX11_move_62 (lv_at hl 8 rfl) ?_
            obtain ⟨y19, D17, hc18, h⟩ := bI_some h
            refine h_callVi (As := [.int x7]) (rest := []) O hH (c_X4_isRegisterOrNone (ar_8_c g10) hc18) ml_X11_129 (ar_8_c g10).1 rfl rfl hl.1 rfl ⟨Nat.le_of_ble_eq_true rfl, Nat.le_of_ble_eq_true rfl⟩ (Nat.le_of_ble_eq_true rfl) dX11_move_64 (fun H locs hH => ?_)
            refine lv_if_ne (tgt := 73) hx hb dX11_move_67 (by decide) (fun c20 => ?_) (fun c20 => ?_)
            · have h := it_neg h c20
              refine lv_iload_n hx hb dX11_move_73 rfl (lv_at hl 3 rfl) ?_
              refine lv_iload_n hx hb dX11_move_74 rfl (lv_at hl 4 rfl) ?_
              refine lv_iload hx hb dX11_move_75 (lv_at hl 5 rfl) ?_
              obtain ⟨y23, D21, hc22, h⟩ := bI_some h
              refine h_callSi (As := [.int x2, .int x3, .int x4]) (rest := []) O hH (c_X4_slot hc22) ml_X11_132 rfl hl.1 rfl ⟨Nat.le_of_ble_eq_true rfl, Nat.le_of_ble_eq_true rfl⟩ (Nat.le_of_ble_eq_true rfl) dX11_move_77 (fun H locs hH => ?_)
              refine lv_istore (lv' := [(9, .int y23), (8, .ref (z + (ar_8 (Int32.toNatClampNeg x1)))), (0, .ref (z + 0)), (1, .int x1), (2, .int x2), (3, .int x3), (4, .int x4), (5, .int x5), (6, .int x6), (7, .int x7)]) hx hb dX11_move_80 hl (by decide) rfl (fun ls hl => ?_)
              refine lv_aload hx hb dX11_move_82 (lv_at hl 1 rfl) ?_
              refine h_getr O hH (ar_8_c g10).1 rfl fl_X11_136 dX11_move_84 ?_
              refine lv_iload hx hb dX11_move_87 (lv_at hl 0 rfl) ?_
              obtain ⟨g24, h⟩ := gd_some h
              refine h_iald O hH (ar_8_c g10).2.1 g24 dX11_move_89 ?_
              refine lv_iconst (v := (-1)) hx hb dX11_move_90 (by decide) ?_
              refine lv_icmp_eq (tgt := 98) hx hb dX11_move_91 (by decide) (fun c25 => ?_) (fun c25 => ?_)
              · have h := it_pos h c25
                refine lv_iconst (v := 0) hx hb dX11_move_98 (by decide) ?_
                exact w_X11_move_99 O hr hlk _ _ _ _ _ _ _ (ar_8_c g10) _ h _ _ _ hH (lv_sub hl [2, 3, 7, 8, 9, 1, 0] rfl)
              · have h := it_neg h c25
                refine lv_iconst (v := 1) hx hb dX11_move_94 (by decide) ?_
                refine lv_goto (tgt := 99) hx hb dX11_move_95 (by decide) ?_
                exact w_X11_move_99 O hr hlk _ _ _ _ _ _ _ (ar_8_c g10) _ h _ _ _ hH (lv_sub hl [2, 3, 7, 8, 9, 1, 0] rfl)
            · have h := it_pos h c20
              refine lv_bipush (v := (-3)) hx hb dX11_move_70 (by decide) ?_
              obtain ⟨rfl, rfl⟩ := ret_i h
              exact h_iret O hr hlk hH dX11_move_72
    · have h := it_pos h c9
      refine lv_bipush (v := (-2)) hx hb dX11_move_23 (by decide) ?_
      obtain ⟨rfl, rfl⟩ := ret_i h
      exact h_iret O hr hlk hH dX11_move_25
set_option maxHeartbeats 4000000 in
theorem c_X11_move {l : Launch} {G : va_G} {tA : Nat → ClassId} {z : Nat} {E : Ex} {x1 : Int32} {x2 : Int32} {x3 : Int32} {x4 : Int32} {x5 : Int32} {x6 : Int32} {x7 : Int32} {D D' : Dm} {r : Int32} (h : f_X11_move x1 x2 x3 x4 x5 x6 x7 D = some (r, D')) : CtI l yX11_move cX11_move 13 (some .int) G tA z E 3 0 0 [.ref (z + 0), .int x1, .int x2, .int x3, .int x4, .int x5, .int x6, .int x7] LAY D r LAY D' :=
  ct_BI (by decide +kernel) (Nat.le_of_ble_eq_true rfl) (fun _ _ _ _ _ _ _ _ O hr hlk => w_X11_move O hr hlk _ _ _ _ _ _ _ _ h)
set_option maxHeartbeats 4000000 in
theorem w_X11_of {G : va_G} {tA : Nat → ClassId} {z : Nat} {E : Ex} {p : Program} {l : Launch} {e : Env} {s : State} {m : MethodId} {args : Array Value} {below : List Frame} {meth : Method} {c : Code} {r : Int32} {D' : Dm} (O : Ok G tA z E cX11_of RX11 4 p s m args c) (hr : meth.sig.returnType = some .int) (hlk : meth.locks = false) (x1 : Int32) (x2 : Int32) (D : Dm) (h : f_X11_of x1 x2 D = some (r, D')) : BI G tA z E p l e (rmC 2 0 0) s m args below meth c LAY D r D' 4 0 [(0, .ref (z + 0)), (1, .int x1), (2, .int x2)] [] := by
  obtain ⟨hx, hb, -, hown, hts, -⟩ := id O
  unfold f_X11_of at h
  intro H locs ls hH hl
  refine lv_iload_n hx hb dX11_of_0 rfl (lv_at hl 1 rfl) ?_
  obtain ⟨y3, D1, hc2, h⟩ := bI_some h
  refine h_callSi (As := [.int x1]) (rest := []) O hH (c_X11_isMachine hc2) ml_X11_78 rfl hl.1 rfl ⟨Nat.le_of_ble_eq_true rfl, Nat.le_of_ble_eq_true rfl⟩ (Nat.le_of_ble_eq_true rfl) dX11_of_1 (fun H locs hH => ?_)
  refine lv_if_ne (tgt := 10) hx hb dX11_of_4 (by decide) (fun c4 => ?_) (fun c4 => ?_)
  · have h := it_neg h c4
    refine lv_aload_n hx hb dX11_of_10 rfl (lv_at hl 0 rfl) ?_
    refine h_getr O hH ly_0 rfl fl_X11_25 dX11_of_11 ?_
    refine lv_iload_n hx hb dX11_of_14 rfl (lv_at hl 1 rfl) ?_
    obtain ⟨g5, h⟩ := gd_some h
    refine h_aald O hH ly_8 rfl g5 (ar_8_r g5) dX11_of_15 ?_
    refine lv_astore_n (lv' := [(3, .ref (z + (ar_8 (Int32.toNatClampNeg x1)))), (0, .ref (z + 0)), (1, .int x1), (2, .int x2)]) hx hb dX11_of_16 rfl hl (by decide) rfl (fun ls hl => ?_)
    refine lv_iload_n hx hb dX11_of_17 rfl (lv_at hl 3 rfl) ?_
    by_cases c6 : x2 = 0
    · have h := it_pos h c6
      refine lv_tableIn (off := 34) (tgt := 52) hx hb dX11_of_18 (by rw [c6]; decide) (by rw [c6]; decide) (by rw [c6]; rfl) (by decide) ?_
      refine lv_aload_n hx hb dX11_of_52 rfl (lv_at hl 0 rfl) ?_
      refine h_geti O hH (ar_8_c g5).1 rfl fl_X11_119 dX11_of_53 ?_
      obtain ⟨rfl, rfl⟩ := ret_i h
      exact h_iret O hr hlk hH dX11_of_56
    have h := it_neg h c6
    by_cases c7 : x2 = 1
    · have h := it_pos h c7
      refine lv_tableIn (off := 39) (tgt := 57) hx hb dX11_of_18 (by rw [c7]; decide) (by rw [c7]; decide) (by rw [c7]; rfl) (by decide) ?_
      refine lv_aload_n hx hb dX11_of_57 rfl (lv_at hl 0 rfl) ?_
      refine h_geti O hH (ar_8_c g5).1 rfl fl_X11_149 dX11_of_58 ?_
      obtain ⟨rfl, rfl⟩ := ret_i h
      exact h_iret O hr hlk hH dX11_of_61
    have h := it_neg h c7
    by_cases c8 : x2 = 2
    · have h := it_pos h c8
      refine lv_tableIn (off := 44) (tgt := 62) hx hb dX11_of_18 (by rw [c8]; decide) (by rw [c8]; decide) (by rw [c8]; rfl) (by decide) ?_
      refine lv_aload_n hx hb dX11_of_62 rfl (lv_at hl 0 rfl) ?_
      refine h_geti O hH (ar_8_c g5).1 rfl fl_X11_152 dX11_of_63 ?_
      obtain ⟨rfl, rfl⟩ := ret_i h
      exact h_iret O hr hlk hH dX11_of_66
    have h := it_neg h c8
    by_cases c9 : x2 = 3
    · have h := it_pos h c9
      refine lv_tableIn (off := 49) (tgt := 67) hx hb dX11_of_18 (by rw [c9]; decide) (by rw [c9]; decide) (by rw [c9]; rfl) (by decide) ?_
      refine lv_aload_n hx hb dX11_of_67 rfl (lv_at hl 0 rfl) ?_
      obtain ⟨y12, D10, hc11, h⟩ := bI_some h
      refine h_callVi (As := []) (rest := []) O hH (c_X4_countMoves (ar_8_c g5) hc11) ml_X11_103 (ar_8_c g5).1 rfl rfl hl.1 rfl ⟨Nat.le_of_ble_eq_true rfl, Nat.le_of_ble_eq_true rfl⟩ (Nat.le_of_ble_eq_true rfl) dX11_of_68 (fun H locs hH => ?_)
      obtain ⟨rfl, rfl⟩ := ret_i h
      exact h_iret O hr hlk hH dX11_of_71
    have h := it_neg h c9
    by_cases c13 : x2 = 4
    · have h := it_pos h c13
      refine lv_tableIn (off := 54) (tgt := 72) hx hb dX11_of_18 (by rw [c13]; decide) (by rw [c13]; decide) (by rw [c13]; rfl) (by decide) ?_
      refine lv_aload_n hx hb dX11_of_72 rfl (lv_at hl 0 rfl) ?_
      refine h_geti O hH (ar_8_c g5).1 rfl fl_X11_122 dX11_of_73 ?_
      obtain ⟨rfl, rfl⟩ := ret_i h
      exact h_iret O hr hlk hH dX11_of_76
    have h := it_neg h c13
    refine lv_tableOut (tgt := 77) hx hb dX11_of_18 (by have a0 := ne_toInt c6 (k := 0) (by decide); have a1 := ne_toInt c7 (k := 1) (by decide); have a2 := ne_toInt c8 (k := 2) (by decide); have a3 := ne_toInt c9 (k := 3) (by decide); have a4 := ne_toInt c13 (k := 4) (by decide); omega) (by decide) ?_
    refine lv_bipush (v := (-2)) hx hb dX11_of_77 (by decide) ?_
    obtain ⟨rfl, rfl⟩ := ret_i h
    exact h_iret O hr hlk hH dX11_of_79
  · have h := it_pos h c4
    refine lv_bipush (v := (-2)) hx hb dX11_of_7 (by decide) ?_
    obtain ⟨rfl, rfl⟩ := ret_i h
    exact h_iret O hr hlk hH dX11_of_9
set_option maxHeartbeats 4000000 in
theorem c_X11_of {l : Launch} {G : va_G} {tA : Nat → ClassId} {z : Nat} {E : Ex} {x1 : Int32} {x2 : Int32} {D D' : Dm} {r : Int32} (h : f_X11_of x1 x2 D = some (r, D')) : CtI l yX11_of cX11_of 4 (some .int) G tA z E 2 0 0 [.ref (z + 0), .int x1, .int x2] LAY D r LAY D' :=
  ct_BI (by decide +kernel) (Nat.le_of_ble_eq_true rfl) (fun _ _ _ _ _ _ _ _ O hr hlk => w_X11_of O hr hlk _ _ _ h)
set_option maxHeartbeats 4000000 in
theorem w_X11_moved {G : va_G} {tA : Nat → ClassId} {z : Nat} {E : Ex} {p : Program} {l : Launch} {e : Env} {s : State} {m : MethodId} {args : Array Value} {below : List Frame} {meth : Method} {c : Code} {r : Int32} {D' : Dm} (O : Ok G tA z E cX11_moved RX11 8 p s m args c) (hr : meth.sig.returnType = some .int) (hlk : meth.locks = false) (x1 : Int32) (x2 : Int32) (x3 : Int32) (x4 : Int32) (x5 : Int32) (D : Dm) (h : f_X11_moved x1 x2 x3 x4 x5 D = some (r, D')) : BI G tA z E p l e (rmC 2 0 0) s m args below meth c LAY D r D' 8 0 [(0, .ref (z + 0)), (1, .int x1), (2, .int x2), (3, .int x3), (4, .int x4), (5, .int x5)] [] := by
  obtain ⟨hx, hb, -, hown, hts, -⟩ := id O
  unfold f_X11_moved at h
  intro H locs ls hH hl
  refine lv_iload_n hx hb dX11_moved_0 rfl (lv_at hl 1 rfl) ?_
  obtain ⟨y3, D1, hc2, h⟩ := bI_some h
  refine h_callSi (As := [.int x1]) (rest := []) O hH (c_X11_isMachine hc2) ml_X11_78 rfl hl.1 rfl ⟨Nat.le_of_ble_eq_true rfl, Nat.le_of_ble_eq_true rfl⟩ (Nat.le_of_ble_eq_true rfl) dX11_moved_1 (fun H locs hH => ?_)
  refine lv_if_eq (tgt := 23) hx hb dX11_moved_4 (by decide) (fun c4 => ?_) (fun c4 => ?_)
  · have h := it_pos h c4
    refine lv_bipush (v := (-2)) hx hb dX11_moved_23 (by decide) ?_
    obtain ⟨rfl, rfl⟩ := ret_i h
    exact h_iret O hr hlk hH dX11_moved_25
  · have h := it_neg h c4
    refine lv_aload_n hx hb dX11_moved_7 rfl (lv_at hl 0 rfl) ?_
    refine h_getr O hH ly_0 rfl fl_X11_25 dX11_moved_8 ?_
    refine lv_iload_n hx hb dX11_moved_11 rfl (lv_at hl 1 rfl) ?_
    obtain ⟨g5, h⟩ := gd_some h
    refine h_aald O hH ly_8 rfl g5 (ar_8_r g5) dX11_moved_12 ?_
    refine lv_iload_n hx hb dX11_moved_13 rfl (lv_at hl 2 rfl) ?_
    refine lv_iload_n hx hb dX11_moved_14 rfl (lv_at hl 3 rfl) ?_
    refine lv_iload hx hb dX11_moved_15 (lv_at hl 4 rfl) ?_
    obtain ⟨y8, D6, hc7, h⟩ := bI_some h
    refine h_callVi (As := [.int x2, .int x3, .int x4]) (rest := []) O hH (c_X4_hasPlace (ar_8_c g5) hc7) ml_X11_125 (ar_8_c g5).1 rfl rfl hl.1 rfl ⟨Nat.le_of_ble_eq_true rfl, Nat.le_of_ble_eq_true rfl⟩ (Nat.le_of_ble_eq_true rfl) dX11_moved_17 (fun H locs hH => ?_)
    refine lv_if_ne (tgt := 26) hx hb dX11_moved_20 (by decide) (fun c9 => ?_) (fun c9 => ?_)
    · have h := it_neg h c9
      refine lv_aload_n hx hb dX11_moved_26 rfl (lv_at hl 0 rfl) ?_
      refine h_getr O hH ly_0 rfl fl_X11_25 dX11_moved_27 ?_
      refine lv_iload_n hx hb dX11_moved_30 rfl (lv_at hl 1 rfl) ?_
      obtain ⟨g10, h⟩ := gd_some h
      refine h_aald O hH ly_8 rfl g10 (ar_8_r g10) dX11_moved_31 ?_
      refine lv_astore (lv' := [(6, .ref (z + (ar_8 (Int32.toNatClampNeg x1)))), (0, .ref (z + 0)), (1, .int x1), (2, .int x2), (3, .int x3), (4, .int x4), (5, .int x5)]) hx hb dX11_moved_32 hl (by decide) rfl (fun ls hl => ?_)
      refine lv_iload_n hx hb dX11_moved_34 rfl (lv_at hl 3 rfl) ?_
      refine lv_iload_n hx hb dX11_moved_35 rfl (lv_at hl 4 rfl) ?_
      refine lv_iload hx hb dX11_moved_36 (lv_at hl 5 rfl) ?_
      obtain ⟨y13, D11, hc12, h⟩ := bI_some h
      refine h_callSi (As := [.int x2, .int x3, .int x4]) (rest := []) O hH (c_X4_slot hc12) ml_X11_132 rfl hl.1 rfl ⟨Nat.le_of_ble_eq_true rfl, Nat.le_of_ble_eq_true rfl⟩ (Nat.le_of_ble_eq_true rfl) dX11_moved_38 (fun H locs hH => ?_)
      refine lv_istore (lv' := [(7, .int y13), (6, .ref (z + (ar_8 (Int32.toNatClampNeg x1)))), (0, .ref (z + 0)), (1, .int x1), (2, .int x2), (3, .int x3), (4, .int x4), (5, .int x5)]) hx hb dX11_moved_41 hl (by decide) rfl (fun ls hl => ?_)
      refine lv_iload hx hb dX11_moved_43 (lv_at hl 7 rfl) ?_
      by_cases c14 : x5 = 0
      · have h := it_pos h c14
        refine lv_tableIn (off := 27) (tgt := 72) hx hb dX11_moved_45 (by rw [c14]; decide) (by rw [c14]; decide) (by rw [c14]; rfl) (by decide) ?_
        refine lv_aload hx hb dX11_moved_72 (lv_at hl 1 rfl) ?_
        refine h_getr O hH (ar_8_c g10).1 rfl fl_X11_136 dX11_moved_74 ?_
        refine lv_iload hx hb dX11_moved_77 (lv_at hl 0 rfl) ?_
        obtain ⟨g15, h⟩ := gd_some h
        refine h_iald O hH (ar_8_c g10).2.1 g15 dX11_moved_79 ?_
        obtain ⟨rfl, rfl⟩ := ret_i h
        exact h_iret O hr hlk hH dX11_moved_80
      have h := it_neg h c14
      by_cases c16 : x5 = 1
      · have h := it_pos h c16
        refine lv_tableIn (off := 36) (tgt := 81) hx hb dX11_moved_45 (by rw [c16]; decide) (by rw [c16]; decide) (by rw [c16]; rfl) (by decide) ?_
        refine lv_aload hx hb dX11_moved_81 (lv_at hl 1 rfl) ?_
        refine h_getr O hH (ar_8_c g10).1 rfl fl_X11_140 dX11_moved_83 ?_
        refine lv_iload hx hb dX11_moved_86 (lv_at hl 0 rfl) ?_
        obtain ⟨g17, h⟩ := gd_some h
        refine h_iald O hH (ar_8_c g10).2.2.1 g17 dX11_moved_88 ?_
        obtain ⟨rfl, rfl⟩ := ret_i h
        exact h_iret O hr hlk hH dX11_moved_89
      have h := it_neg h c16
      by_cases c18 : x5 = 2
      · have h := it_pos h c18
        refine lv_tableIn (off := 45) (tgt := 90) hx hb dX11_moved_45 (by rw [c18]; decide) (by rw [c18]; decide) (by rw [c18]; rfl) (by decide) ?_
        refine lv_aload hx hb dX11_moved_90 (lv_at hl 1 rfl) ?_
        refine h_getr O hH (ar_8_c g10).1 rfl fl_X11_143 dX11_moved_92 ?_
        refine lv_iload hx hb dX11_moved_95 (lv_at hl 0 rfl) ?_
        obtain ⟨g19, h⟩ := gd_some h
        refine h_iald O hH (ar_8_c g10).2.2.2 g19 dX11_moved_97 ?_
        obtain ⟨rfl, rfl⟩ := ret_i h
        exact h_iret O hr hlk hH dX11_moved_98
      have h := it_neg h c18
      refine lv_tableOut (tgt := 99) hx hb dX11_moved_45 (by have a0 := ne_toInt c14 (k := 0) (by decide); have a1 := ne_toInt c16 (k := 1) (by decide); have a2 := ne_toInt c18 (k := 2) (by decide); omega) (by decide) ?_
      refine lv_bipush (v := (-2)) hx hb dX11_moved_99 (by decide) ?_
      obtain ⟨rfl, rfl⟩ := ret_i h
      exact h_iret O hr hlk hH dX11_moved_101
    · have h := it_pos h c9
      refine lv_bipush (v := (-2)) hx hb dX11_moved_23 (by decide) ?_
      obtain ⟨rfl, rfl⟩ := ret_i h
      exact h_iret O hr hlk hH dX11_moved_25
set_option maxHeartbeats 4000000 in
theorem c_X11_moved {l : Launch} {G : va_G} {tA : Nat → ClassId} {z : Nat} {E : Ex} {x1 : Int32} {x2 : Int32} {x3 : Int32} {x4 : Int32} {x5 : Int32} {D D' : Dm} {r : Int32} (h : f_X11_moved x1 x2 x3 x4 x5 D = some (r, D')) : CtI l yX11_moved cX11_moved 8 (some .int) G tA z E 2 0 0 [.ref (z + 0), .int x1, .int x2, .int x3, .int x4, .int x5] LAY D r LAY D' :=
  ct_BI (by decide +kernel) (Nat.le_of_ble_eq_true rfl) (fun _ _ _ _ _ _ _ _ O hr hlk => w_X11_moved O hr hlk _ _ _ _ _ _ h)
set_option maxHeartbeats 4000000 in
theorem w_X11_ask {G : va_G} {tA : Nat → ClassId} {z : Nat} {E : Ex} {p : Program} {l : Launch} {e : Env} {s : State} {m : MethodId} {args : Array Value} {below : List Frame} {meth : Method} {c : Code} {r : Int32} {D' : Dm} (O : Ok G tA z E cX11_ask RX11 2 p s m args c) (hr : meth.sig.returnType = some .int) (hlk : meth.locks = false) (x1 : Int32) (D : Dm) (h : f_X11_ask x1 D = some (r, D')) : BI G tA z E p l e (rmC 4 0 0) s m args below meth c LAY D r D' 2 0 [(0, .ref (z + 0)), (1, .int x1)] [] := by
  obtain ⟨hx, hb, -, hown, hts, -⟩ := id O
  unfold f_X11_ask at h
  intro H locs ls hH hl
  refine lv_iload_n hx hb dX11_ask_0 rfl (lv_at hl 1 rfl) ?_
  obtain ⟨y3, D1, hc2, h⟩ := bI_some h
  refine h_callSi (As := [.int x1]) (rest := []) O hH (c_X11_isMachine hc2) ml_X11_78 rfl hl.1 rfl ⟨Nat.le_of_ble_eq_true rfl, Nat.le_of_ble_eq_true rfl⟩ (Nat.le_of_ble_eq_true rfl) dX11_ask_1 (fun H locs hH => ?_)
  refine lv_if_ne (tgt := 10) hx hb dX11_ask_4 (by decide) (fun c4 => ?_) (fun c4 => ?_)
  · have h := it_neg h c4
    refine lv_aload_n hx hb dX11_ask_10 rfl (lv_at hl 0 rfl) ?_
    refine h_getr O hH ly_0 rfl fl_X11_25 dX11_ask_11 ?_
    refine lv_iload_n hx hb dX11_ask_14 rfl (lv_at hl 1 rfl) ?_
    obtain ⟨g5, h⟩ := gd_some h
    refine h_aald O hH ly_8 rfl g5 (ar_8_r g5) dX11_ask_15 ?_
    refine lv_aload_n hx hb dX11_ask_16 rfl (lv_at hl 0 rfl) ?_
    refine h_getr O hH ly_0 rfl fl_X11_62 dX11_ask_17 ?_
    refine lv_aload_n hx hb dX11_ask_20 rfl (lv_at hl 0 rfl) ?_
    refine h_getr O hH ly_0 rfl fl_X11_33 dX11_ask_21 ?_
    refine lv_aload_n hx hb dX11_ask_24 rfl (lv_at hl 0 rfl) ?_
    refine h_getr O hH ly_0 rfl fl_X11_33 dX11_ask_25 ?_
    refine h_geti O hH ly_17 rfl fl_X11_113 dX11_ask_28 ?_
    obtain ⟨D6, hc7, h⟩ := bV_some h
    refine h_callUv (As := [.ref (z + 266), .ref (z + 17), .int (D1 17 3)]) (rest := []) O hH (c_X9_walk_m (ar_8_c g5) ic_266 ic_17 hc7) mu_X11_155_4 (ar_8_c g5).1 rfl rfl hl.1 rfl ⟨Nat.le_of_ble_eq_true rfl, Nat.le_of_ble_eq_true rfl⟩ (Nat.le_of_ble_eq_true rfl) dX11_ask_31 (fun H locs hH => ?_)
    refine lv_aload_n hx hb dX11_ask_34 rfl (lv_at hl 0 rfl) ?_
    refine h_getr O hH ly_0 rfl fl_X11_25 dX11_ask_35 ?_
    refine lv_iload_n hx hb dX11_ask_38 rfl (lv_at hl 1 rfl) ?_
    obtain ⟨g8, h⟩ := gd_some h
    refine h_aald O hH ly_8 rfl g8 (ar_8_r g8) dX11_ask_39 ?_
    refine lv_aload_n hx hb dX11_ask_40 rfl (lv_at hl 0 rfl) ?_
    refine h_getr O hH ly_0 rfl fl_X11_62 dX11_ask_41 ?_
    obtain ⟨y11, D9, hc10, h⟩ := bI_some h
    refine h_callVi (As := [.ref (z + 266)]) (rest := []) O hH (c_X4_takes (ar_8_c g8) ic_266 hc10) ml_X11_159 (ar_8_c g8).1 rfl rfl hl.1 rfl ⟨Nat.le_of_ble_eq_true rfl, Nat.le_of_ble_eq_true rfl⟩ (Nat.le_of_ble_eq_true rfl) dX11_ask_44 (fun H locs hH => ?_)
    refine lv_if_eq (tgt := 54) hx hb dX11_ask_47 (by decide) (fun c12 => ?_) (fun c12 => ?_)
    · have h := it_pos h c12
      refine lv_iconst (v := 0) hx hb dX11_ask_54 (by decide) ?_
      obtain ⟨rfl, rfl⟩ := ret_i h
      exact h_iret O hr hlk hH dX11_ask_55
    · have h := it_neg h c12
      refine lv_iconst (v := 1) hx hb dX11_ask_50 (by decide) ?_
      refine lv_goto (tgt := 55) hx hb dX11_ask_51 (by decide) ?_
      obtain ⟨rfl, rfl⟩ := ret_i h
      exact h_iret O hr hlk hH dX11_ask_55
  · have h := it_pos h c4
    refine lv_bipush (v := (-2)) hx hb dX11_ask_7 (by decide) ?_
    obtain ⟨rfl, rfl⟩ := ret_i h
    exact h_iret O hr hlk hH dX11_ask_9
set_option maxHeartbeats 4000000 in
theorem c_X11_ask {l : Launch} {G : va_G} {tA : Nat → ClassId} {z : Nat} {E : Ex} {x1 : Int32} {D D' : Dm} {r : Int32} (h : f_X11_ask x1 D = some (r, D')) : CtI l yX11_ask cX11_ask 2 (some .int) G tA z E 4 0 0 [.ref (z + 0), .int x1] LAY D r LAY D' :=
  ct_BI (by decide +kernel) (Nat.le_of_ble_eq_true rfl) (fun _ _ _ _ _ _ _ _ O hr hlk => w_X11_ask O hr hlk _ _ h)
set_option maxHeartbeats 4000000 in
theorem w_X11_behind {G : va_G} {tA : Nat → ClassId} {z : Nat} {E : Ex} {p : Program} {l : Launch} {e : Env} {s : State} {m : MethodId} {args : Array Value} {below : List Frame} {meth : Method} {c : Code} {r : Int32} {D' : Dm} (O : Ok G tA z E cX11_behind RX11 4 p s m args c) (hr : meth.sig.returnType = some .int) (hlk : meth.locks = false) (x1 : Int32) (x2 : Int32) (x3 : Int32) (D : Dm) (h : f_X11_behind x1 x2 x3 D = some (r, D')) : BI G tA z E p l e (rmC 4 0 0) s m args below meth c LAY D r D' 4 0 [(0, .ref (z + 0)), (1, .int x1), (2, .int x2), (3, .int x3)] [] := by
  obtain ⟨hx, hb, -, hown, hts, -⟩ := id O
  unfold f_X11_behind at h
  intro H locs ls hH hl
  refine lv_iload_n hx hb dX11_behind_0 rfl (lv_at hl 1 rfl) ?_
  obtain ⟨y3, D1, hc2, h⟩ := bI_some h
  refine h_callSi (As := [.int x1]) (rest := []) O hH (c_X11_isMachine hc2) ml_X11_78 rfl hl.1 rfl ⟨Nat.le_of_ble_eq_true rfl, Nat.le_of_ble_eq_true rfl⟩ (Nat.le_of_ble_eq_true rfl) dX11_behind_1 (fun H locs hH => ?_)
  refine lv_if_eq (tgt := 16) hx hb dX11_behind_4 (by decide) (fun c4 => ?_) (fun c4 => ?_)
  · have h := it_pos h c4
    refine lv_bipush (v := (-2)) hx hb dX11_behind_16 (by decide) ?_
    obtain ⟨rfl, rfl⟩ := ret_i h
    exact h_iret O hr hlk hH dX11_behind_18
  · have h := it_neg h c4
    refine lv_iload_n hx hb dX11_behind_7 rfl (lv_at hl 3 rfl) ?_
    refine lv_if_lt (tgt := 16) hx hb dX11_behind_8 (by decide) (fun c5 => ?_) (fun c5 => ?_)
    · have h := it_pos h c5
      refine lv_bipush (v := (-2)) hx hb dX11_behind_16 (by decide) ?_
      obtain ⟨rfl, rfl⟩ := ret_i h
      exact h_iret O hr hlk hH dX11_behind_18
    · have h := it_neg h c5
      refine lv_iload_n hx hb dX11_behind_11 rfl (lv_at hl 3 rfl) ?_
      refine lv_iconst (v := 2) hx hb dX11_behind_12 (by decide) ?_
      refine lv_icmp_le (tgt := 19) hx hb dX11_behind_13 (by decide) (fun c6 => ?_) (fun c6 => ?_)
      · have h := it_pos h c6
        refine lv_iload_n hx hb dX11_behind_19 rfl (lv_at hl 2 rfl) ?_
        refine lv_if_lt (tgt := 34) hx hb dX11_behind_20 (by decide) (fun c7 => ?_) (fun c7 => ?_)
        · have h := it_pos h c7
          refine lv_bipush (v := (-3)) hx hb dX11_behind_34 (by decide) ?_
          obtain ⟨rfl, rfl⟩ := ret_i h
          exact h_iret O hr hlk hH dX11_behind_36
        · have h := it_neg h c7
          refine lv_iload_n hx hb dX11_behind_23 rfl (lv_at hl 2 rfl) ?_
          refine lv_aload_n hx hb dX11_behind_24 rfl (lv_at hl 0 rfl) ?_
          refine h_getr O hH ly_0 rfl fl_X11_33 dX11_behind_25 ?_
          refine h_geti O hH ly_17 rfl fl_X11_113 dX11_behind_28 ?_
          refine lv_icmp_le (tgt := 37) hx hb dX11_behind_31 (by decide) (fun c8 => ?_) (fun c8 => ?_)
          · have h := it_pos h c8
            refine lv_aload_n hx hb dX11_behind_37 rfl (lv_at hl 0 rfl) ?_
            refine h_getr O hH ly_0 rfl fl_X11_25 dX11_behind_38 ?_
            refine lv_iload_n hx hb dX11_behind_41 rfl (lv_at hl 1 rfl) ?_
            obtain ⟨g9, h⟩ := gd_some h
            refine h_aald O hH ly_8 rfl g9 (ar_8_r g9) dX11_behind_42 ?_
            refine lv_aload_n hx hb dX11_behind_43 rfl (lv_at hl 0 rfl) ?_
            refine h_getr O hH ly_0 rfl fl_X11_62 dX11_behind_44 ?_
            refine lv_aload_n hx hb dX11_behind_47 rfl (lv_at hl 0 rfl) ?_
            refine h_getr O hH ly_0 rfl fl_X11_33 dX11_behind_48 ?_
            refine lv_iload_n hx hb dX11_behind_51 rfl (lv_at hl 2 rfl) ?_
            obtain ⟨D10, hc11, h⟩ := bV_some h
            refine h_callUv (As := [.ref (z + 266), .ref (z + 17), .int x2]) (rest := []) O hH (c_X9_walk_m (ar_8_c g9) ic_266 ic_17 hc11) mu_X11_155_4 (ar_8_c g9).1 rfl rfl hl.1 rfl ⟨Nat.le_of_ble_eq_true rfl, Nat.le_of_ble_eq_true rfl⟩ (Nat.le_of_ble_eq_true rfl) dX11_behind_52 (fun H locs hH => ?_)
            refine lv_aload_n hx hb dX11_behind_55 rfl (lv_at hl 0 rfl) ?_
            refine h_getr O hH ly_0 rfl fl_X11_62 dX11_behind_56 ?_
            refine lv_iload_n hx hb dX11_behind_59 rfl (lv_at hl 3 rfl) ?_
            obtain ⟨y14, D12, hc13, h⟩ := bI_some h
            refine h_callVi (As := [.int x3]) (rest := []) O hH (c_X1_told ic_266 hc13) ml_X11_163 ly_266 rfl rfl hl.1 rfl ⟨Nat.le_of_ble_eq_true rfl, Nat.le_of_ble_eq_true rfl⟩ (Nat.le_of_ble_eq_true rfl) dX11_behind_60 (fun H locs hH => ?_)
            obtain ⟨rfl, rfl⟩ := ret_i h
            exact h_iret O hr hlk hH dX11_behind_63
          · have h := it_neg h c8
            refine lv_bipush (v := (-3)) hx hb dX11_behind_34 (by decide) ?_
            obtain ⟨rfl, rfl⟩ := ret_i h
            exact h_iret O hr hlk hH dX11_behind_36
      · have h := it_neg h c6
        refine lv_bipush (v := (-2)) hx hb dX11_behind_16 (by decide) ?_
        obtain ⟨rfl, rfl⟩ := ret_i h
        exact h_iret O hr hlk hH dX11_behind_18
set_option maxHeartbeats 4000000 in
theorem c_X11_behind {l : Launch} {G : va_G} {tA : Nat → ClassId} {z : Nat} {E : Ex} {x1 : Int32} {x2 : Int32} {x3 : Int32} {D D' : Dm} {r : Int32} (h : f_X11_behind x1 x2 x3 D = some (r, D')) : CtI l yX11_behind cX11_behind 4 (some .int) G tA z E 4 0 0 [.ref (z + 0), .int x1, .int x2, .int x3] LAY D r LAY D' :=
  ct_BI (by decide +kernel) (Nat.le_of_ble_eq_true rfl) (fun _ _ _ _ _ _ _ _ O hr hlk => w_X11_behind O hr hlk _ _ _ _ h)
set_option maxHeartbeats 4000000 in
theorem w_X11_countTaken_28 {G : va_G} {tA : Nat → ClassId} {z : Nat} {E : Ex} {p : Program} {l : Launch} {e : Env} {s : State} {m : MethodId} {args : Array Value} {below : List Frame} {meth : Method} {c : Code} {r : Int32} {D' : Dm} {dd : Nat} (hdd : 3 ≤ dd) (O : Ok G tA z E cX11_countTaken RX11 9 p s m args c) (hr : meth.sig.returnType = some .int) (hlk : meth.locks = false) {self : Nat → Int32 → Int32 → Int32 → Dm → Option (Int32 × Dm)} (hself : ∀ (r0 : Nat) (x2 : Int32) (x3 : Int32) (x4 : Int32) (h0 : isC4 r0) (D1 D2 : Dm) (r1 : Int32), self r0 x2 x3 x4 D1 = some (r1, D2) → CtI l yX11_countTaken cX11_countTaken 9 (some .int) G tA z E dd 0 0 [.ref (z + r0), .ref (z + 268), .int x2, .int x3, .int x4] LAY D1 r1 LAY D2) (r0 : Nat) (x2 : Int32) (x4 : Int32) (r5 : Nat) (h0 : isC4 r0) (h5 : isC1 r5) (D : Dm) (h : f_X11_countTaken_28 self r0 x2 x4 r5 D = some (r, D')) : BI G tA z E p l e (rmC (dd + 1) 0 0) s m args below meth c LAY D r D' 9 28 [(0, .ref (z + r0)), (2, .int x2), (4, .int x4), (5, .ref (z + r5))] [] := by
  obtain ⟨hx, hb, -, hown, hts, -⟩ := id O
  unfold f_X11_countTaken_28 at h
  intro H locs ls hH hl
  refine lv_iload_n hx hb dX11_countTaken_28 rfl (lv_at hl 1 rfl) ?_
  refine lv_iload hx hb dX11_countTaken_29 (lv_at hl 2 rfl) ?_
  refine lv_icmp_ne (tgt := 47) hx hb dX11_countTaken_31 (by decide) (fun c1 => ?_) (fun c1 => ?_)
  · have h := it_neg h c1
    refine lv_iconst (v := 0) hx hb dX11_countTaken_47 (by decide) ?_
    obtain ⟨rfl, rfl⟩ := ret_i h
    exact h_iret O hr hlk hH dX11_countTaken_48
  · have h := it_pos h c1
    refine lv_aload_n hx hb dX11_countTaken_34 rfl (lv_at hl 0 rfl) ?_
    refine lv_aload hx hb dX11_countTaken_35 (lv_at hl 3 rfl) ?_
    obtain ⟨y4, D2, hc3, h⟩ := bI_some h
    refine h_callVi (As := [.ref (z + r5)]) (rest := []) O hH (c_X4_takes h0 h5 hc3) ml_X11_159 h0.1 rfl rfl hl.1 rfl ⟨by show _ ≤ dd + 1; omega, by show _ ≤ 64 * (dd + 1); omega⟩ (Nat.le_of_ble_eq_true rfl) dX11_countTaken_37 (fun H locs hH => ?_)
    refine lv_if_eq (tgt := 47) hx hb dX11_countTaken_40 (by decide) (fun c5 => ?_) (fun c5 => ?_)
    · have h := it_pos h c5
      refine lv_iconst (v := 0) hx hb dX11_countTaken_47 (by decide) ?_
      obtain ⟨rfl, rfl⟩ := ret_i h
      exact h_iret O hr hlk hH dX11_countTaken_48
    · have h := it_neg h c5
      refine lv_iconst (v := 1) hx hb dX11_countTaken_43 (by decide) ?_
      refine lv_goto (tgt := 48) hx hb dX11_countTaken_44 (by decide) ?_
      obtain ⟨rfl, rfl⟩ := ret_i h
      exact h_iret O hr hlk hH dX11_countTaken_48
set_option maxHeartbeats 4000000 in
theorem w_X11_countTaken_116 {G : va_G} {tA : Nat → ClassId} {z : Nat} {E : Ex} {p : Program} {l : Launch} {e : Env} {s : State} {m : MethodId} {args : Array Value} {below : List Frame} {meth : Method} {c : Code} {r : Int32} {D' : Dm} {dd : Nat} (hdd : 3 ≤ dd) (O : Ok G tA z E cX11_countTaken RX11 9 p s m args c) (hr : meth.sig.returnType = some .int) (hlk : meth.locks = false) {self : Nat → Int32 → Int32 → Int32 → Dm → Option (Int32 × Dm)} (hself : ∀ (r0 : Nat) (x2 : Int32) (x3 : Int32) (x4 : Int32) (h0 : isC4 r0) (D1 D2 : Dm) (r1 : Int32), self r0 x2 x3 x4 D1 = some (r1, D2) → CtI l yX11_countTaken cX11_countTaken 9 (some .int) G tA z E dd 0 0 [.ref (z + r0), .ref (z + 268), .int x2, .int x3, .int x4] LAY D1 r1 LAY D2) {k55 : Nat → Int32 → Int32 → Int32 → Nat → Int32 → Int32 → Dm → Option (Int32 × Dm)} (hk55 : ∀ (r0 : Nat) (x2 : Int32) (x3 : Int32) (x4 : Int32) (r5 : Nat) (x6 : Int32) (x7 : Int32) (h0 : isC4 r0) (h5 : isC1 r5) (D : Dm), k55 r0 x2 x3 x4 r5 x6 x7 D = some (r, D') → BI G tA z E p l e (rmC (dd + 1) 0 0) s m args below meth c LAY D r D' 9 55 [(0, .ref (z + r0)), (1, .ref (z + 268)), (2, .int x2), (3, .int x3), (4, .int x4), (5, .ref (z + r5)), (6, .int x6), (7, .int x7)] []) {k67 : Nat → Int32 → Int32 → Int32 → Nat → Int32 → Int32 → Int32 → Dm → Option (Int32 × Dm)} (hk67 : ∀ (r0 : Nat) (x2 : Int32) (x3 : Int32) (x4 : Int32) (r5 : Nat) (x6 : Int32) (x7 : Int32) (x8 : Int32) (h0 : isC4 r0) (h5 : isC1 r5) (D : Dm), k67 r0 x2 x3 x4 r5 x6 x7 x8 D = some (r, D') → BI G tA z E p l e (rmC (dd + 1) 0 0) s m args below meth c LAY D r D' 9 67 [(0, .ref (z + r0)), (1, .ref (z + 268)), (2, .int x2), (3, .int x3), (4, .int x4), (5, .ref (z + r5)), (6, .int x6), (7, .int x7), (8, .int x8)] []) (r0 : Nat) (x2 : Int32) (x3 : Int32) (x4 : Int32) (r5 : Nat) (x7 : Int32) (x8 : Int32) (xs0 : Int32) (xs1 : Int32) (rs3 : Nat) (xs4 : Int32) (h0 : isC4 r0) (h5 : isC1 r5) (hs3 : isC4 rs3) (D : Dm) (h : f_X11_countTaken_116 self k55 k67 r0 x2 x3 x4 r5 x7 x8 xs0 xs1 rs3 xs4 D = some (r, D')) : BI G tA z E p l e (rmC (dd + 1) 0 0) s m args below meth c LAY D r D' 9 116 [(0, .ref (z + r0)), (1, .ref (z + 268)), (2, .int x2), (3, .int x3), (4, .int x4), (5, .ref (z + r5)), (7, .int x7), (8, .int x8)] [.int xs0, .int xs1, .ref (z + 268), .ref (z + rs3), .int xs4] := by
  obtain ⟨hx, hb, -, hown, hts, -⟩ := id O
  unfold f_X11_countTaken_116 at h
  intro H locs ls hH hl
  refine lv_iload hx hb dX11_countTaken_116 (lv_at hl 4 rfl) ?_
  obtain ⟨y3, D1, hc2, h⟩ := bI_some h
  refine h_callSi (As := [.ref (z + rs3), .ref (z + 268), .int xs1, .int xs0, .int x4]) (rest := [.int xs4]) O hH (hself _ _ _ _ hs3 _ _ _ hc2) ml_X11_170 rfl hl.1 rfl ⟨by show _ ≤ dd + 1; omega, by show _ ≤ 64 * (dd + 1); omega⟩ (Nat.le_of_ble_eq_true rfl) dX11_countTaken_118 (fun H locs hH => ?_)
  refine lv_iadd hx hb dX11_countTaken_121 ?_
  refine lv_topi (fun y4 e5 => ?_)
  have h := lt_at e5 h
  refine lv_istore (lv' := [(6, .int y4), (0, .ref (z + r0)), (1, .ref (z + 268)), (2, .int x2), (3, .int x3), (4, .int x4), (5, .ref (z + r5)), (7, .int x7), (8, .int x8)]) hx hb dX11_countTaken_122 hl (by decide) rfl (fun ls hl => ?_)
  obtain ⟨y6, e7, h⟩ := lt_some h
  refine lv_iinc (v := y6) (lv' := [(8, .int y6), (6, .int y4), (0, .ref (z + r0)), (1, .ref (z + 268)), (2, .int x2), (3, .int x3), (4, .int x4), (5, .ref (z + r5)), (7, .int x7)]) hx hb dX11_countTaken_124 hl (k := 8) rfl (by rw [e7]; rfl) (by decide) rfl (fun ls hl => ?_)
  refine lv_goto (tgt := 67) hx hb dX11_countTaken_127 (by decide) ?_
  exact hk67 _ _ _ _ _ _ _ _ h0 h5 _ h _ _ _ hH (lv_sub hl [2, 3, 4, 5, 6, 7, 1, 8, 0] rfl)
set_option maxHeartbeats 4000000 in
theorem w_X11_countTaken_67_b {G : va_G} {tA : Nat → ClassId} {z : Nat} {E : Ex} {p : Program} {l : Launch} {e : Env} {s : State} {m : MethodId} {args : Array Value} {below : List Frame} {meth : Method} {c : Code} {r : Int32} {D' : Dm} {dd : Nat} (hdd : 3 ≤ dd) (O : Ok G tA z E cX11_countTaken RX11 9 p s m args c) (hr : meth.sig.returnType = some .int) (hlk : meth.locks = false) {self : Nat → Int32 → Int32 → Int32 → Dm → Option (Int32 × Dm)} (hself : ∀ (r0 : Nat) (x2 : Int32) (x3 : Int32) (x4 : Int32) (h0 : isC4 r0) (D1 D2 : Dm) (r1 : Int32), self r0 x2 x3 x4 D1 = some (r1, D2) → CtI l yX11_countTaken cX11_countTaken 9 (some .int) G tA z E dd 0 0 [.ref (z + r0), .ref (z + 268), .int x2, .int x3, .int x4] LAY D1 r1 LAY D2) {k55 : Nat → Int32 → Int32 → Int32 → Nat → Int32 → Int32 → Dm → Option (Int32 × Dm)} (hk55 : ∀ (r0 : Nat) (x2 : Int32) (x3 : Int32) (x4 : Int32) (r5 : Nat) (x6 : Int32) (x7 : Int32) (h0 : isC4 r0) (h5 : isC1 r5) (D : Dm), k55 r0 x2 x3 x4 r5 x6 x7 D = some (r, D') → BI G tA z E p l e (rmC (dd + 1) 0 0) s m args below meth c LAY D r D' 9 55 [(0, .ref (z + r0)), (1, .ref (z + 268)), (2, .int x2), (3, .int x3), (4, .int x4), (5, .ref (z + r5)), (6, .int x6), (7, .int x7)] []) {k67 : Nat → Int32 → Int32 → Int32 → Nat → Int32 → Int32 → Int32 → Dm → Option (Int32 × Dm)} (hk67 : ∀ (r0 : Nat) (x2 : Int32) (x3 : Int32) (x4 : Int32) (r5 : Nat) (x6 : Int32) (x7 : Int32) (x8 : Int32) (h0 : isC4 r0) (h5 : isC1 r5) (D : Dm), k67 r0 x2 x3 x4 r5 x6 x7 x8 D = some (r, D') → BI G tA z E p l e (rmC (dd + 1) 0 0) s m args below meth c LAY D r D' 9 67 [(0, .ref (z + r0)), (1, .ref (z + 268)), (2, .int x2), (3, .int x3), (4, .int x4), (5, .ref (z + r5)), (6, .int x6), (7, .int x7), (8, .int x8)] []) (r0 : Nat) (x2 : Int32) (x3 : Int32) (x4 : Int32) (r5 : Nat) (x6 : Int32) (x7 : Int32) (x8 : Int32) (h0 : isC4 r0) (h5 : isC1 r5) (D : Dm) (h : f_X11_countTaken_67_b self k55 k67 r0 x2 x3 x4 r5 x6 x7 x8 D = some (r, D')) : BI G tA z E p l e (rmC (dd + 1) 0 0) s m args below meth c LAY D r D' 9 67 [(0, .ref (z + r0)), (1, .ref (z + 268)), (2, .int x2), (3, .int x3), (4, .int x4), (5, .ref (z + r5)), (6, .int x6), (7, .int x7), (8, .int x8)] [] := by
  obtain ⟨hx, hb, -, hown, hts, -⟩ := id O
  unfold f_X11_countTaken_67_b at h
  intro H locs ls hH hl
  refine lv_iload hx hb dX11_countTaken_67 (lv_at hl 8 rfl) ?_
  refine lv_iload_n hx hb dX11_countTaken_69 rfl (lv_at hl 3 rfl) ?_
  refine lv_icmp_gt (tgt := 130) hx hb dX11_countTaken_70 (by decide) (fun c1 => ?_) (fun c1 => ?_)
  · have h := it_pos h c1
    obtain ⟨y2, e3, h⟩ := lt_some h
    refine lv_iinc (v := y2) (lv' := [(7, .int y2), (0, .ref (z + r0)), (1, .ref (z + 268)), (2, .int x2), (3, .int x3), (4, .int x4), (5, .ref (z + r5)), (6, .int x6), (8, .int x8)]) hx hb dX11_countTaken_130 hl (k := 7) rfl (by rw [e3]; rfl) (by decide) rfl (fun ls hl => ?_)
    refine lv_goto (tgt := 55) hx hb dX11_countTaken_133 (by decide) ?_
    exact hk55 _ _ _ _ _ _ _ h0 h5 _ h _ _ _ hH (lv_sub hl [1, 2, 3, 4, 5, 6, 7, 0] rfl)
  · have h := it_neg h c1
    refine lv_aload_n hx hb dX11_countTaken_73 rfl (lv_at hl 1 rfl) ?_
    refine lv_iload_n hx hb dX11_countTaken_74 rfl (lv_at hl 2 rfl) ?_
    refine lv_iconst (v := 1) hx hb dX11_countTaken_75 (by decide) ?_
    refine lv_iadd hx hb dX11_countTaken_76 ?_
    obtain ⟨g4, h⟩ := gd_some h
    refine h_aald O hH ly_268 rfl g4 (ar_268_r g4) dX11_countTaken_77 ?_
    refine lv_aload hx hb dX11_countTaken_78 (lv_at hl 5 rfl) ?_
    obtain ⟨D5, hc6, h⟩ := bV_some h
    refine h_callVv (As := [.ref (z + r5)]) (rest := []) O hH (c_X1_copy (ar_268_c g4) h5 hc6) ml_X11_350 (ar_268_c g4).1 rfl rfl hl.1 rfl ⟨by show _ ≤ dd + 1; omega, by show _ ≤ 64 * (dd + 1); omega⟩ (Nat.le_of_ble_eq_true rfl) dX11_countTaken_80 (fun H locs hH => ?_)
    refine lv_aload_n hx hb dX11_countTaken_83 rfl (lv_at hl 0 rfl) ?_
    refine lv_aload_n hx hb dX11_countTaken_84 rfl (lv_at hl 1 rfl) ?_
    refine lv_iload_n hx hb dX11_countTaken_85 rfl (lv_at hl 2 rfl) ?_
    refine lv_iconst (v := 1) hx hb dX11_countTaken_86 (by decide) ?_
    refine lv_iadd hx hb dX11_countTaken_87 ?_
    obtain ⟨g7, h⟩ := gd_some h
    refine h_aald O hH ly_268 rfl g7 (ar_268_r g7) dX11_countTaken_88 ?_
    refine lv_iload hx hb dX11_countTaken_89 (lv_at hl 7 rfl) ?_
    refine lv_iload hx hb dX11_countTaken_91 (lv_at hl 8 rfl) ?_
    obtain ⟨D8, hc9, h⟩ := bV_some h
    refine h_callVv (As := [.ref (z + (ar_268 (Int32.toNatClampNeg (x2 + 1)))), .int x7, .int x8]) (rest := []) O hH (c_X4_advance h0 (ar_268_c g7) hc9) ml_X11_353 h0.1 rfl rfl hl.1 rfl ⟨by show _ ≤ dd + 1; omega, by show _ ≤ 64 * (dd + 1); omega⟩ (Nat.le_of_ble_eq_true rfl) dX11_countTaken_93 (fun H locs hH => ?_)
    refine lv_iload hx hb dX11_countTaken_96 (lv_at hl 6 rfl) ?_
    refine lv_aload_n hx hb dX11_countTaken_98 rfl (lv_at hl 0 rfl) ?_
    refine lv_aload_n hx hb dX11_countTaken_99 rfl (lv_at hl 1 rfl) ?_
    refine lv_iload_n hx hb dX11_countTaken_100 rfl (lv_at hl 2 rfl) ?_
    refine lv_iconst (v := 1) hx hb dX11_countTaken_101 (by decide) ?_
    refine lv_iadd hx hb dX11_countTaken_102 ?_
    refine lv_iload hx hb dX11_countTaken_103 (lv_at hl 8 rfl) ?_
    refine lv_iload_n hx hb dX11_countTaken_105 rfl (lv_at hl 3 rfl) ?_
    refine lv_icmp_ne (tgt := 115) hx hb dX11_countTaken_106 (by decide) (fun c10 => ?_) (fun c10 => ?_)
    · have h := it_neg h c10
      refine lv_iload_n hx hb dX11_countTaken_115 rfl (lv_at hl 3 rfl) ?_
      exact w_X11_countTaken_116 hdd O hr hlk hself hk55 hk67 _ _ _ _ _ _ _ _ _ _ _ h0 h5 h0 _ h _ _ _ hH (lv_sub hl [0, 1, 2, 3, 4, 5, 7, 8] rfl)
    · have h := it_pos h c10
      refine lv_iload_n hx hb dX11_countTaken_109 rfl (lv_at hl 3 rfl) ?_
      refine lv_iconst (v := 1) hx hb dX11_countTaken_110 (by decide) ?_
      refine lv_iadd hx hb dX11_countTaken_111 ?_
      refine lv_goto (tgt := 116) hx hb dX11_countTaken_112 (by decide) ?_
      exact w_X11_countTaken_116 hdd O hr hlk hself hk55 hk67 _ _ _ _ _ _ _ _ _ _ _ h0 h5 h0 _ h _ _ _ hH (lv_sub hl [0, 1, 2, 3, 4, 5, 7, 8] rfl)
set_option maxHeartbeats 4000000 in
theorem w_X11_countTaken_67 {G : va_G} {tA : Nat → ClassId} {z : Nat} {E : Ex} {p : Program} {l : Launch} {e : Env} {s : State} {m : MethodId} {args : Array Value} {below : List Frame} {meth : Method} {c : Code} {r : Int32} {D' : Dm} {dd : Nat} (hdd : 3 ≤ dd) (O : Ok G tA z E cX11_countTaken RX11 9 p s m args c) (hr : meth.sig.returnType = some .int) (hlk : meth.locks = false) {self : Nat → Int32 → Int32 → Int32 → Dm → Option (Int32 × Dm)} (hself : ∀ (r0 : Nat) (x2 : Int32) (x3 : Int32) (x4 : Int32) (h0 : isC4 r0) (D1 D2 : Dm) (r1 : Int32), self r0 x2 x3 x4 D1 = some (r1, D2) → CtI l yX11_countTaken cX11_countTaken 9 (some .int) G tA z E dd 0 0 [.ref (z + r0), .ref (z + 268), .int x2, .int x3, .int x4] LAY D1 r1 LAY D2) {k55 : Nat → Int32 → Int32 → Int32 → Nat → Int32 → Int32 → Dm → Option (Int32 × Dm)} (hk55 : ∀ (r0 : Nat) (x2 : Int32) (x3 : Int32) (x4 : Int32) (r5 : Nat) (x6 : Int32) (x7 : Int32) (h0 : isC4 r0) (h5 : isC1 r5) (D : Dm), k55 r0 x2 x3 x4 r5 x6 x7 D = some (r, D') → BI G tA z E p l e (rmC (dd + 1) 0 0) s m args below meth c LAY D r D' 9 55 [(0, .ref (z + r0)), (1, .ref (z + 268)), (2, .int x2), (3, .int x3), (4, .int x4), (5, .ref (z + r5)), (6, .int x6), (7, .int x7)] []) : ∀ (n : Nat) (r0 : Nat) (x2 : Int32) (x3 : Int32) (x4 : Int32) (r5 : Nat) (x6 : Int32) (x7 : Int32) (x8 : Int32) (h0 : isC4 r0) (h5 : isC1 r5) (D : Dm) (h : f_X11_countTaken_67 self k55 n r0 x2 x3 x4 r5 x6 x7 x8 D = some (r, D')), BI G tA z E p l e (rmC (dd + 1) 0 0) s m args below meth c LAY D r D' 9 67 [(0, .ref (z + r0)), (1, .ref (z + 268)), (2, .int x2), (3, .int x3), (4, .int x4), (5, .ref (z + r5)), (6, .int x6), (7, .int x7), (8, .int x8)] [] := by
  intro n
  induction n with
  | zero => intro r0 x2 x3 x4 r5 x6 x7 x8 h0 h5 D h; exact no_some h
  | succ n ih => intro r0 x2 x3 x4 r5 x6 x7 x8 h0 h5 D h; exact w_X11_countTaken_67_b hdd O hr hlk hself hk55 (fun r0 x2 x3 x4 r5 x6 x7 x8 h0 h5 D h => ih r0 x2 x3 x4 r5 x6 x7 x8 h0 h5 D h) r0 x2 x3 x4 r5 x6 x7 x8 h0 h5 D h
set_option maxHeartbeats 4000000 in
theorem w_X11_countTaken_55_b {G : va_G} {tA : Nat → ClassId} {z : Nat} {E : Ex} {p : Program} {l : Launch} {e : Env} {s : State} {m : MethodId} {args : Array Value} {below : List Frame} {meth : Method} {c : Code} {r : Int32} {D' : Dm} {dd : Nat} (hdd : 3 ≤ dd) (O : Ok G tA z E cX11_countTaken RX11 9 p s m args c) (hr : meth.sig.returnType = some .int) (hlk : meth.locks = false) {self : Nat → Int32 → Int32 → Int32 → Dm → Option (Int32 × Dm)} (hself : ∀ (r0 : Nat) (x2 : Int32) (x3 : Int32) (x4 : Int32) (h0 : isC4 r0) (D1 D2 : Dm) (r1 : Int32), self r0 x2 x3 x4 D1 = some (r1, D2) → CtI l yX11_countTaken cX11_countTaken 9 (some .int) G tA z E dd 0 0 [.ref (z + r0), .ref (z + 268), .int x2, .int x3, .int x4] LAY D1 r1 LAY D2) {k55 : Nat → Int32 → Int32 → Int32 → Nat → Int32 → Int32 → Dm → Option (Int32 × Dm)} (hk55 : ∀ (r0 : Nat) (x2 : Int32) (x3 : Int32) (x4 : Int32) (r5 : Nat) (x6 : Int32) (x7 : Int32) (h0 : isC4 r0) (h5 : isC1 r5) (D : Dm), k55 r0 x2 x3 x4 r5 x6 x7 D = some (r, D') → BI G tA z E p l e (rmC (dd + 1) 0 0) s m args below meth c LAY D r D' 9 55 [(0, .ref (z + r0)), (1, .ref (z + 268)), (2, .int x2), (3, .int x3), (4, .int x4), (5, .ref (z + r5)), (6, .int x6), (7, .int x7)] []) (r0 : Nat) (x2 : Int32) (x3 : Int32) (x4 : Int32) (r5 : Nat) (x6 : Int32) (x7 : Int32) (h0 : isC4 r0) (h5 : isC1 r5) (D : Dm) (h : f_X11_countTaken_55_b self k55 r0 x2 x3 x4 r5 x6 x7 D = some (r, D')) : BI G tA z E p l e (rmC (dd + 1) 0 0) s m args below meth c LAY D r D' 9 55 [(0, .ref (z + r0)), (1, .ref (z + 268)), (2, .int x2), (3, .int x3), (4, .int x4), (5, .ref (z + r5)), (6, .int x6), (7, .int x7)] [] := by
  obtain ⟨hx, hb, -, hown, hts, -⟩ := id O
  unfold f_X11_countTaken_55_b at h
  intro H locs ls hH hl
  refine lv_iload hx hb dX11_countTaken_55 (lv_at hl 7 rfl) ?_
  refine lv_aload_n hx hb dX11_countTaken_57 rfl (lv_at hl 0 rfl) ?_
  refine h_geti O hH h0.1 rfl fl_X11_152 dX11_countTaken_58 ?_
  refine lv_icmp_ge (tgt := 136) hx hb dX11_countTaken_61 (by decide) (fun c1 => ?_) (fun c1 => ?_)
  · have h := it_pos h c1
    refine lv_iload hx hb dX11_countTaken_136 (lv_at hl 6 rfl) ?_
    obtain ⟨rfl, rfl⟩ := ret_i h
    exact h_iret O hr hlk hH dX11_countTaken_138
  · have h := it_neg h c1
    refine lv_iconst (v := 0) hx hb dX11_countTaken_64 (by decide) ?_
    refine lv_istore (lv' := [(8, .int 0), (0, .ref (z + r0)), (1, .ref (z + 268)), (2, .int x2), (3, .int x3), (4, .int x4), (5, .ref (z + r5)), (6, .int x6), (7, .int x7)]) hx hb dX11_countTaken_65 hl (by decide) rfl (fun ls hl => ?_)
    exact w_X11_countTaken_67 hdd O hr hlk hself hk55 FU _ _ _ _ _ _ _ _ h0 h5 _ h _ _ _ hH (lv_sub hl [1, 2, 3, 4, 5, 6, 7, 8, 0] rfl)
set_option maxHeartbeats 4000000 in
theorem w_X11_countTaken_55 {G : va_G} {tA : Nat → ClassId} {z : Nat} {E : Ex} {p : Program} {l : Launch} {e : Env} {s : State} {m : MethodId} {args : Array Value} {below : List Frame} {meth : Method} {c : Code} {r : Int32} {D' : Dm} {dd : Nat} (hdd : 3 ≤ dd) (O : Ok G tA z E cX11_countTaken RX11 9 p s m args c) (hr : meth.sig.returnType = some .int) (hlk : meth.locks = false) {self : Nat → Int32 → Int32 → Int32 → Dm → Option (Int32 × Dm)} (hself : ∀ (r0 : Nat) (x2 : Int32) (x3 : Int32) (x4 : Int32) (h0 : isC4 r0) (D1 D2 : Dm) (r1 : Int32), self r0 x2 x3 x4 D1 = some (r1, D2) → CtI l yX11_countTaken cX11_countTaken 9 (some .int) G tA z E dd 0 0 [.ref (z + r0), .ref (z + 268), .int x2, .int x3, .int x4] LAY D1 r1 LAY D2) : ∀ (n : Nat) (r0 : Nat) (x2 : Int32) (x3 : Int32) (x4 : Int32) (r5 : Nat) (x6 : Int32) (x7 : Int32) (h0 : isC4 r0) (h5 : isC1 r5) (D : Dm) (h : f_X11_countTaken_55 self n r0 x2 x3 x4 r5 x6 x7 D = some (r, D')), BI G tA z E p l e (rmC (dd + 1) 0 0) s m args below meth c LAY D r D' 9 55 [(0, .ref (z + r0)), (1, .ref (z + 268)), (2, .int x2), (3, .int x3), (4, .int x4), (5, .ref (z + r5)), (6, .int x6), (7, .int x7)] [] := by
  intro n
  induction n with
  | zero => intro r0 x2 x3 x4 r5 x6 x7 h0 h5 D h; exact no_some h
  | succ n ih => intro r0 x2 x3 x4 r5 x6 x7 h0 h5 D h; exact w_X11_countTaken_55_b hdd O hr hlk hself (fun r0 x2 x3 x4 r5 x6 x7 h0 h5 D h => ih r0 x2 x3 x4 r5 x6 x7 h0 h5 D h) r0 x2 x3 x4 r5 x6 x7 h0 h5 D h
set_option maxHeartbeats 4000000 in
theorem w_X11_countTaken {G : va_G} {tA : Nat → ClassId} {z : Nat} {E : Ex} {p : Program} {l : Launch} {e : Env} {s : State} {m : MethodId} {args : Array Value} {below : List Frame} {meth : Method} {c : Code} {r : Int32} {D' : Dm} {dd : Nat} (hdd : 3 ≤ dd) (O : Ok G tA z E cX11_countTaken RX11 9 p s m args c) (hr : meth.sig.returnType = some .int) (hlk : meth.locks = false) {self : Nat → Int32 → Int32 → Int32 → Dm → Option (Int32 × Dm)} (hself : ∀ (r0 : Nat) (x2 : Int32) (x3 : Int32) (x4 : Int32) (h0 : isC4 r0) (D1 D2 : Dm) (r1 : Int32), self r0 x2 x3 x4 D1 = some (r1, D2) → CtI l yX11_countTaken cX11_countTaken 9 (some .int) G tA z E dd 0 0 [.ref (z + r0), .ref (z + 268), .int x2, .int x3, .int x4] LAY D1 r1 LAY D2) (r0 : Nat) (x2 : Int32) (x3 : Int32) (x4 : Int32) (h0 : isC4 r0) (D : Dm) (h : f_X11_countTaken_e self r0 x2 x3 x4 D = some (r, D')) : BI G tA z E p l e (rmC (dd + 1) 0 0) s m args below meth c LAY D r D' 9 0 [(0, .ref (z + r0)), (1, .ref (z + 268)), (2, .int x2), (3, .int x3), (4, .int x4)] [] := by
  obtain ⟨hx, hb, -, hown, hts, -⟩ := id O
  unfold f_X11_countTaken_e at h
  intro H locs ls hH hl
  refine lv_aload_n hx hb dX11_countTaken_0 rfl (lv_at hl 1 rfl) ?_
  refine lv_iload_n hx hb dX11_countTaken_1 rfl (lv_at hl 2 rfl) ?_
  obtain ⟨g1, h⟩ := gd_some h
  refine h_aald O hH ly_268 rfl g1 (ar_268_r g1) dX11_countTaken_2 ?_
  refine lv_astore (lv' := [(5, .ref (z + (ar_268 (Int32.toNatClampNeg x2)))), (0, .ref (z + r0)), (1, .ref (z + 268)), (2, .int x2), (3, .int x3), (4, .int x4)]) hx hb dX11_countTaken_3 hl (by decide) rfl (fun ls hl => ?_)
  refine lv_iload_n hx hb dX11_countTaken_5 rfl (lv_at hl 3 rfl) ?_
  refine lv_iload hx hb dX11_countTaken_6 (lv_at hl 5 rfl) ?_
  refine lv_icmp_ge (tgt := 28) hx hb dX11_countTaken_8 (by decide) (fun c2 => ?_) (fun c2 => ?_)
  · have h := it_pos h c2
    exact w_X11_countTaken_28 hdd O hr hlk hself _ _ _ _ h0 (ar_268_c g1) _ h _ _ _ hH (lv_sub hl [1, 3, 5, 0] rfl)
  · have h := it_neg h c2
    refine lv_iload_n hx hb dX11_countTaken_11 rfl (lv_at hl 3 rfl) ?_
    refine lv_iconst (v := 1) hx hb dX11_countTaken_12 (by decide) ?_
    refine lv_iadd hx hb dX11_countTaken_13 ?_
    refine lv_aload_n hx hb dX11_countTaken_14 rfl (lv_at hl 2 rfl) ?_
    refine h_alenr (v := 6) O hH ly_268 rfl (by decide) dX11_countTaken_15 ?_
    refine lv_icmp_ge (tgt := 28) hx hb dX11_countTaken_16 (by decide) (fun c3 => ?_) (fun c3 => ?_)
    · have h := it_pos h c3
      exact w_X11_countTaken_28 hdd O hr hlk hself _ _ _ _ h0 (ar_268_c g1) _ h _ _ _ hH (lv_sub hl [1, 3, 5, 0] rfl)
    · have h := it_neg h c3
      refine lv_aload hx hb dX11_countTaken_19 (lv_at hl 0 rfl) ?_
      refine h_geti O hH (ar_268_c g1).1 rfl fl_X11_347 dX11_countTaken_21 ?_
      refine lv_iconst (v := (-1)) hx hb dX11_countTaken_24 (by decide) ?_
      refine lv_icmp_ne (tgt := 49) hx hb dX11_countTaken_25 (by decide) (fun c4 => ?_) (fun c4 => ?_)
      · have h := it_neg h c4
        refine lv_iconst (v := 0) hx hb dX11_countTaken_49 (by decide) ?_
        refine lv_istore (lv' := [(6, .int 0), (5, .ref (z + (ar_268 (Int32.toNatClampNeg x2)))), (0, .ref (z + r0)), (1, .ref (z + 268)), (2, .int x2), (3, .int x3), (4, .int x4)]) hx hb dX11_countTaken_50 hl (by decide) rfl (fun ls hl => ?_)
        refine lv_iconst (v := 0) hx hb dX11_countTaken_52 (by decide) ?_
        refine lv_istore (lv' := [(7, .int 0), (6, .int 0), (5, .ref (z + (ar_268 (Int32.toNatClampNeg x2)))), (0, .ref (z + r0)), (1, .ref (z + 268)), (2, .int x2), (3, .int x3), (4, .int x4)]) hx hb dX11_countTaken_53 hl (by decide) rfl (fun ls hl => ?_)
        exact w_X11_countTaken_55 hdd O hr hlk hself FU _ _ _ _ _ _ _ h0 (ar_268_c g1) _ h _ _ _ hH (lv_sub hl [3, 4, 5, 6, 7, 2, 1, 0] rfl)
      · have h := it_pos h c4
        exact w_X11_countTaken_28 hdd O hr hlk hself _ _ _ _ h0 (ar_268_c g1) _ h _ _ _ hH (lv_sub hl [1, 3, 5, 0] rfl)
set_option maxHeartbeats 4000000 in
theorem c_X11_countTaken_n {l : Launch} {G : va_G} {tA : Nat → ClassId} {z : Nat} {E : Ex} : ∀ (n : Nat) (r0 : Nat) (x2 : Int32) (x3 : Int32) (x4 : Int32) (h0 : isC4 r0) (D D' : Dm) (r : Int32) , f_X11_countTaken n r0 x2 x3 x4 D = some (r, D') → CtI l yX11_countTaken cX11_countTaken 9 (some .int) G tA z E (3 + n) 0 0 [.ref (z + r0), .ref (z + 268), .int x2, .int x3, .int x4] LAY D r LAY D' := by
  intro n
  induction n with
  | zero => intro r0 x2 x3 x4 h0 D D' r h; exact no_some h
  | succ n ih => intro r0 x2 x3 x4 h0 D D' r h; exact ct_BI (by decide +kernel) (Nat.le_of_ble_eq_true rfl) (fun _ _ _ _ _ _ _ _ O hr hlk => w_X11_countTaken (dd := 3 + n) (by omega) O hr hlk ih r0 x2 x3 x4 h0 _ h)
set_option maxHeartbeats 4000000 in
theorem c_X11_countTaken {l : Launch} {G : va_G} {tA : Nat → ClassId} {z : Nat} {E : Ex} {r0 : Nat} {x2 : Int32} {x3 : Int32} {x4 : Int32} (h0 : isC4 r0) {D D' : Dm} {r : Int32} (h : f_X11_countTaken RF r0 x2 x3 x4 D = some (r, D')) : CtI l yX11_countTaken cX11_countTaken 9 (some .int) G tA z E (3 + RF) 0 0 [.ref (z + r0), .ref (z + 268), .int x2, .int x3, .int x4] LAY D r LAY D' := c_X11_countTaken_n RF _ _ _ _ h0 _ _ _ h
set_option maxHeartbeats 4000000 in
theorem w_X11_many {G : va_G} {tA : Nat → ClassId} {z : Nat} {E : Ex} {p : Program} {l : Launch} {e : Env} {s : State} {m : MethodId} {args : Array Value} {below : List Frame} {meth : Method} {c : Code} {r : Int32} {D' : Dm} (O : Ok G tA z E cX11_many RX11 3 p s m args c) (hr : meth.sig.returnType = some .int) (hlk : meth.locks = false) (x1 : Int32) (x2 : Int32) (D : Dm) (h : f_X11_many x1 x2 D = some (r, D')) : BI G tA z E p l e (rmC 20 0 0) s m args below meth c LAY D r D' 3 0 [(0, .ref (z + 0)), (1, .int x1), (2, .int x2)] [] := by
  obtain ⟨hx, hb, -, hown, hts, -⟩ := id O
  unfold f_X11_many at h
  intro H locs ls hH hl
  refine lv_iload_n hx hb dX11_many_0 rfl (lv_at hl 1 rfl) ?_
  obtain ⟨y3, D1, hc2, h⟩ := bI_some h
  refine h_callSi (As := [.int x1]) (rest := []) O hH (c_X11_isMachine hc2) ml_X11_78 rfl hl.1 rfl ⟨Nat.le_of_ble_eq_true rfl, Nat.le_of_ble_eq_true rfl⟩ (Nat.le_of_ble_eq_true rfl) dX11_many_1 (fun H locs hH => ?_)
  refine lv_if_ne (tgt := 10) hx hb dX11_many_4 (by decide) (fun c4 => ?_) (fun c4 => ?_)
  · have h := it_neg h c4
    refine lv_iload_n hx hb dX11_many_10 rfl (lv_at hl 2 rfl) ?_
    refine lv_if_lt (tgt := 19) hx hb dX11_many_11 (by decide) (fun c5 => ?_) (fun c5 => ?_)
    · have h := it_pos h c5
      refine lv_bipush (v := (-3)) hx hb dX11_many_19 (by decide) ?_
      obtain ⟨rfl, rfl⟩ := ret_i h
      exact h_iret O hr hlk hH dX11_many_21
    · have h := it_neg h c5
      refine lv_iload_n hx hb dX11_many_14 rfl (lv_at hl 2 rfl) ?_
      refine lv_iconst (v := 5) hx hb dX11_many_15 (by decide) ?_
      refine lv_icmp_le (tgt := 22) hx hb dX11_many_16 (by decide) (fun c6 => ?_) (fun c6 => ?_)
      · have h := it_pos h c6
        refine lv_aload_n hx hb dX11_many_22 rfl (lv_at hl 0 rfl) ?_
        refine h_getr O hH ly_0 rfl fl_X11_66 dX11_many_23 ?_
        refine lv_iconst (v := 0) hx hb dX11_many_26 (by decide) ?_
        refine h_aald (q := 269) O hH ly_268 rfl (by decide) (by decide) dX11_many_27 ?_
        obtain ⟨D8, hc9, h⟩ := bV_some h
        refine h_callVv (As := []) (rest := []) O hH (c_X1_start ic_269 hc9) ml_X11_167 ly_269 rfl rfl hl.1 rfl ⟨Nat.le_of_ble_eq_true rfl, Nat.le_of_ble_eq_true rfl⟩ (Nat.le_of_ble_eq_true rfl) dX11_many_28 (fun H locs hH => ?_)
        refine lv_aload_n hx hb dX11_many_31 rfl (lv_at hl 0 rfl) ?_
        refine h_getr O hH ly_0 rfl fl_X11_25 dX11_many_32 ?_
        refine lv_iload_n hx hb dX11_many_35 rfl (lv_at hl 1 rfl) ?_
        obtain ⟨g10, h⟩ := gd_some h
        refine h_aald O hH ly_8 rfl g10 (ar_8_r g10) dX11_many_36 ?_
        refine lv_aload_n hx hb dX11_many_37 rfl (lv_at hl 0 rfl) ?_
        refine h_getr O hH ly_0 rfl fl_X11_66 dX11_many_38 ?_
        refine lv_iconst (v := 0) hx hb dX11_many_41 (by decide) ?_
        refine lv_iconst (v := 0) hx hb dX11_many_42 (by decide) ?_
        refine lv_iload_n hx hb dX11_many_43 rfl (lv_at hl 2 rfl) ?_
        obtain ⟨y13, D11, hc12, h⟩ := bI_some h
        refine h_callSi (As := [.ref (z + (ar_8 (Int32.toNatClampNeg x1))), .ref (z + 268), .int 0, .int 0, .int x2]) (rest := []) O hH (c_X11_countTaken (ar_8_c g10) hc12) ml_X11_170 rfl hl.1 rfl ⟨Nat.le_of_ble_eq_true rfl, Nat.le_of_ble_eq_true rfl⟩ (Nat.le_of_ble_eq_true rfl) dX11_many_44 (fun H locs hH => ?_)
        obtain ⟨rfl, rfl⟩ := ret_i h
        exact h_iret O hr hlk hH dX11_many_47
      · have h := it_neg h c6
        refine lv_bipush (v := (-3)) hx hb dX11_many_19 (by decide) ?_
        obtain ⟨rfl, rfl⟩ := ret_i h
        exact h_iret O hr hlk hH dX11_many_21
  · have h := it_pos h c4
    refine lv_bipush (v := (-2)) hx hb dX11_many_7 (by decide) ?_
    obtain ⟨rfl, rfl⟩ := ret_i h
    exact h_iret O hr hlk hH dX11_many_9
set_option maxHeartbeats 4000000 in
theorem c_X11_many {l : Launch} {G : va_G} {tA : Nat → ClassId} {z : Nat} {E : Ex} {x1 : Int32} {x2 : Int32} {D D' : Dm} {r : Int32} (h : f_X11_many x1 x2 D = some (r, D')) : CtI l yX11_many cX11_many 3 (some .int) G tA z E 20 0 0 [.ref (z + 0), .int x1, .int x2] LAY D r LAY D' :=
  ct_BI (by decide +kernel) (Nat.le_of_ble_eq_true rfl) (fun _ _ _ _ _ _ _ _ O hr hlk => w_X11_many O hr hlk _ _ _ h)
set_option maxHeartbeats 4000000 in
theorem w_X11_bitsOf_40 {G : va_G} {tA : Nat → ClassId} {z : Nat} {E : Ex} {p : Program} {l : Launch} {e : Env} {s : State} {m : MethodId} {args : Array Value} {below : List Frame} {meth : Method} {c : Code} {r : Int32} {D' : Dm} (O : Ok G tA z E cX11_bitsOf RX11 4 p s m args c) (hr : meth.sig.returnType = some .int) (hlk : meth.locks = false) (x1 : UInt32) (x2 : Int32) (D : Dm) (h : f_X11_bitsOf_40 x1 x2 D = some (r, D')) : BI G tA z E p l e (rmC 1 0 0) s m args below meth c LAY D r D' 4 40 [(1, .float x1), (2, .int x2)] [] := by
  obtain ⟨hx, hb, -, hown, hts, -⟩ := id O
  unfold f_X11_bitsOf_40 at h
  intro H locs ls hH hl
  refine lv_iload_n hx hb dX11_bitsOf_40 rfl (lv_at hl 1 rfl) ?_
  refine lv_bipush (v := 23) hx hb dX11_bitsOf_41 (by decide) ?_
  refine lv_ishl hx hb dX11_bitsOf_43 ?_
  refine lv_fload_n hx hb dX11_bitsOf_44 rfl (lv_at hl 0 rfl) ?_
  refine lv_fconst1 hx hb dX11_bitsOf_45 ?_
  obtain ⟨g1, h⟩ := gd_some h
  refine lv_fsub hx hb dX11_bitsOf_46 (nanB_ok g1) ?_
  refine h_ldcfw (v := 1258291200) hx hb hown (hts _ ww_784) dX11_bitsOf_47 ?_
  obtain ⟨g2, h⟩ := gd_some h
  refine lv_fmul hx hb dX11_bitsOf_50 (nanB_ok g2) ?_
  refine lv_f2i hx hb dX11_bitsOf_51 ?_
  refine lv_ior hx hb dX11_bitsOf_52 ?_
  obtain ⟨rfl, rfl⟩ := ret_i h
  exact h_iret O hr hlk hH dX11_bitsOf_53
set_option maxHeartbeats 4000000 in
theorem w_X11_bitsOf_15_b {G : va_G} {tA : Nat → ClassId} {z : Nat} {E : Ex} {p : Program} {l : Launch} {e : Env} {s : State} {m : MethodId} {args : Array Value} {below : List Frame} {meth : Method} {c : Code} {r : Int32} {D' : Dm} (O : Ok G tA z E cX11_bitsOf RX11 4 p s m args c) (hr : meth.sig.returnType = some .int) (hlk : meth.locks = false) {k15 : UInt32 → Int32 → Int32 → Dm → Option (Int32 × Dm)} (hk15 : ∀ (x1 : UInt32) (x2 : Int32) (x3 : Int32) (D : Dm), k15 x1 x2 x3 D = some (r, D') → BI G tA z E p l e (rmC 1 0 0) s m args below meth c LAY D r D' 4 15 [(1, .float x1), (2, .int x2), (3, .int x3)] []) (x1 : UInt32) (x2 : Int32) (x3 : Int32) (D : Dm) (h : f_X11_bitsOf_15_b k15 x1 x2 x3 D = some (r, D')) : BI G tA z E p l e (rmC 1 0 0) s m args below meth c LAY D r D' 4 15 [(1, .float x1), (2, .int x2), (3, .int x3)] [] := by
  obtain ⟨hx, hb, -, hown, hts, -⟩ := id O
  unfold f_X11_bitsOf_15_b at h
  intro H locs ls hH hl
  refine lv_iload_n hx hb dX11_bitsOf_15 rfl (lv_at hl 2 rfl) ?_
  refine lv_bipush (v := 30) hx hb dX11_bitsOf_16 (by decide) ?_
  refine lv_icmp_ge (tgt := 40) hx hb dX11_bitsOf_18 (by decide) (fun c1 => ?_) (fun c1 => ?_)
  · have h := it_pos h c1
    exact w_X11_bitsOf_40 O hr hlk _ _ _ h _ _ _ hH (lv_sub hl [0, 1] rfl)
  · have h := it_neg h c1
    refine lv_fload_n hx hb dX11_bitsOf_21 rfl (lv_at hl 0 rfl) ?_
    refine lv_fconst1 hx hb dX11_bitsOf_22 ?_
    refine lv_fcmp hx hb dX11_bitsOf_23 ?_
    refine lv_if_ge (tgt := 40) hx hb dX11_bitsOf_24 (by decide) (fun c2 => ?_) (fun c2 => ?_)
    · have h := it_pos h c2
      exact w_X11_bitsOf_40 O hr hlk _ _ _ h _ _ _ hH (lv_sub hl [0, 1] rfl)
    · have h := it_neg h c2
      refine lv_fload_n hx hb dX11_bitsOf_27 rfl (lv_at hl 0 rfl) ?_
      refine lv_fconst2 hx hb dX11_bitsOf_28 ?_
      obtain ⟨g3, h⟩ := gd_some h
      refine lv_fmul hx hb dX11_bitsOf_29 (nanB_ok g3) ?_
      refine lv_topf (fun y4 e5 => ?_)
      have h := lt_at e5 h
      refine lv_fstore_n (lv' := [(1, .float y4), (2, .int x2), (3, .int x3)]) hx hb dX11_bitsOf_30 rfl hl (by decide) rfl (fun ls hl => ?_)
      obtain ⟨y6, e7, h⟩ := lt_some h
      refine lv_iinc (v := y6) (lv' := [(2, .int y6), (1, .float y4), (3, .int x3)]) hx hb dX11_bitsOf_31 hl (k := 1) rfl (by rw [e7]; rfl) (by decide) rfl (fun ls hl => ?_)
      obtain ⟨y8, e9, h⟩ := lt_some h
      refine lv_iinc (v := y8) (lv' := [(3, .int y8), (2, .int y6), (1, .float y4)]) hx hb dX11_bitsOf_34 hl (k := 2) rfl (by rw [e9]; rfl) (by decide) rfl (fun ls hl => ?_)
      refine lv_goto (tgt := 15) hx hb dX11_bitsOf_37 (by decide) ?_
      exact hk15 _ _ _ _ h _ _ _ hH (lv_sub hl [2, 1, 0] rfl)
set_option maxHeartbeats 4000000 in
theorem w_X11_bitsOf_15 {G : va_G} {tA : Nat → ClassId} {z : Nat} {E : Ex} {p : Program} {l : Launch} {e : Env} {s : State} {m : MethodId} {args : Array Value} {below : List Frame} {meth : Method} {c : Code} {r : Int32} {D' : Dm} (O : Ok G tA z E cX11_bitsOf RX11 4 p s m args c) (hr : meth.sig.returnType = some .int) (hlk : meth.locks = false) : ∀ (n : Nat) (x1 : UInt32) (x2 : Int32) (x3 : Int32) (D : Dm) (h : f_X11_bitsOf_15 n x1 x2 x3 D = some (r, D')), BI G tA z E p l e (rmC 1 0 0) s m args below meth c LAY D r D' 4 15 [(1, .float x1), (2, .int x2), (3, .int x3)] [] := by
  intro n
  induction n with
  | zero => intro x1 x2 x3 D h; exact no_some h
  | succ n ih => intro x1 x2 x3 D h; exact w_X11_bitsOf_15_b O hr hlk (fun x1 x2 x3 D h => ih x1 x2 x3 D h) x1 x2 x3 D h
set_option maxHeartbeats 4000000 in
theorem w_X11_bitsOf {G : va_G} {tA : Nat → ClassId} {z : Nat} {E : Ex} {p : Program} {l : Launch} {e : Env} {s : State} {m : MethodId} {args : Array Value} {below : List Frame} {meth : Method} {c : Code} {r : Int32} {D' : Dm} (O : Ok G tA z E cX11_bitsOf RX11 4 p s m args c) (hr : meth.sig.returnType = some .int) (hlk : meth.locks = false) (x0 : UInt32) (D : Dm) (h : f_X11_bitsOf x0 D = some (r, D')) : BI G tA z E p l e (rmC 1 0 0) s m args below meth c LAY D r D' 4 0 [(0, .float x0)] [] := by
  obtain ⟨hx, hb, -, hown, hts, -⟩ := id O
  unfold f_X11_bitsOf at h
  intro H locs ls hH hl
  refine lv_fload_n hx hb dX11_bitsOf_0 rfl (lv_at hl 0 rfl) ?_
  refine lv_fconst0 hx hb dX11_bitsOf_1 ?_
  refine lv_fcmp hx hb dX11_bitsOf_2 ?_
  refine lv_if_gt (tgt := 8) hx hb dX11_bitsOf_3 (by decide) (fun c1 => ?_) (fun c1 => ?_)
  · have h := it_pos h c1
    refine lv_fload_n hx hb dX11_bitsOf_8 rfl (lv_at hl 0 rfl) ?_
    refine lv_fstore_n (lv' := [(1, .float x0), (0, .float x0)]) hx hb dX11_bitsOf_9 rfl hl (by decide) rfl (fun ls hl => ?_)
    refine lv_bipush (v := 127) hx hb dX11_bitsOf_10 (by decide) ?_
    refine lv_istore_n (lv' := [(2, .int 127), (1, .float x0), (0, .float x0)]) hx hb dX11_bitsOf_12 rfl hl (by decide) rfl (fun ls hl => ?_)
    refine lv_iconst (v := 0) hx hb dX11_bitsOf_13 (by decide) ?_
    refine lv_istore_n (lv' := [(3, .int 0), (2, .int 127), (1, .float x0), (0, .float x0)]) hx hb dX11_bitsOf_14 rfl hl (by decide) rfl (fun ls hl => ?_)
    exact w_X11_bitsOf_15 O hr hlk FU _ _ _ _ h _ _ _ hH (lv_sub hl [2, 1, 0] rfl)
  · have h := it_neg h c1
    refine lv_iconst (v := 0) hx hb dX11_bitsOf_6 (by decide) ?_
    obtain ⟨rfl, rfl⟩ := ret_i h
    exact h_iret O hr hlk hH dX11_bitsOf_7
set_option maxHeartbeats 4000000 in
theorem c_X11_bitsOf {l : Launch} {G : va_G} {tA : Nat → ClassId} {z : Nat} {E : Ex} {x0 : UInt32} {D D' : Dm} {r : Int32} (h : f_X11_bitsOf x0 D = some (r, D')) : CtI l yX11_bitsOf cX11_bitsOf 4 (some .int) G tA z E 1 0 0 [.float x0] LAY D r LAY D' :=
  ct_BI (by decide +kernel) (Nat.le_of_ble_eq_true rfl) (fun _ _ _ _ _ _ _ _ O hr hlk => w_X11_bitsOf O hr hlk _ _ h)
set_option maxHeartbeats 4000000 in
theorem w_X11_share_23_b {G : va_G} {tA : Nat → ClassId} {z : Nat} {E : Ex} {p : Program} {l : Launch} {e : Env} {s : State} {m : MethodId} {args : Array Value} {below : List Frame} {meth : Method} {c : Code} {r : Int32} {D' : Dm} (O : Ok G tA z E cX11_share RX11 6 p s m args c) (hr : meth.sig.returnType = some .int) (hlk : meth.locks = false) {k23 : Int32 → Int32 → Int32 → Int32 → Int32 → Dm → Option (Int32 × Dm)} (hk23 : ∀ (x1 : Int32) (x2 : Int32) (x3 : Int32) (x4 : Int32) (x5 : Int32) (D : Dm), k23 x1 x2 x3 x4 x5 D = some (r, D') → BI G tA z E p l e (rmC 21 0 0) s m args below meth c LAY D r D' 6 23 [(0, .ref (z + 0)), (1, .int x1), (2, .int x2), (3, .int x3), (4, .int x4), (5, .int x5)] []) (x1 : Int32) (x2 : Int32) (x3 : Int32) (x4 : Int32) (x5 : Int32) (D : Dm) (h : f_X11_share_23_b k23 x1 x2 x3 x4 x5 D = some (r, D')) : BI G tA z E p l e (rmC 21 0 0) s m args below meth c LAY D r D' 6 23 [(0, .ref (z + 0)), (1, .int x1), (2, .int x2), (3, .int x3), (4, .int x4), (5, .int x5)] [] := by
  obtain ⟨hx, hb, -, hown, hts, -⟩ := id O
  unfold f_X11_share_23_b at h
  intro H locs ls hH hl
  refine lv_iload hx hb dX11_share_23 (lv_at hl 5 rfl) ?_
  refine lv_iload_n hx hb dX11_share_25 rfl (lv_at hl 2 rfl) ?_
  refine lv_icmp_ge (tgt := 49) hx hb dX11_share_26 (by decide) (fun c1 => ?_) (fun c1 => ?_)
  · have h := it_pos h c1
    refine lv_iload_n hx hb dX11_share_49 rfl (lv_at hl 3 rfl) ?_
    refine lv_i2f hx hb dX11_share_50 ?_
    refine lv_iload hx hb dX11_share_51 (lv_at hl 4 rfl) ?_
    refine lv_i2f hx hb dX11_share_53 ?_
    obtain ⟨g2, h⟩ := gd_some h
    refine lv_fdiv hx hb dX11_share_54 (nanB_ok g2) ?_
    obtain ⟨y5, D3, hc4, h⟩ := bI_some h
    refine h_callSi (As := [.float (FP.fdiv (FP.i2f x3) (FP.i2f x4))]) (rest := []) O hH (c_X11_bitsOf hc4) ml_X11_181 rfl hl.1 rfl ⟨Nat.le_of_ble_eq_true rfl, Nat.le_of_ble_eq_true rfl⟩ (Nat.le_of_ble_eq_true rfl) dX11_share_55 (fun H locs hH => ?_)
    obtain ⟨rfl, rfl⟩ := ret_i h
    exact h_iret O hr hlk hH dX11_share_58
  · have h := it_neg h c1
    refine lv_iload hx hb dX11_share_29 (lv_at hl 4 rfl) ?_
    refine lv_aload_n hx hb dX11_share_31 rfl (lv_at hl 0 rfl) ?_
    refine h_getr O hH ly_0 rfl fl_X11_25 dX11_share_32 ?_
    refine lv_iload_n hx hb dX11_share_35 rfl (lv_at hl 1 rfl) ?_
    obtain ⟨g6, h⟩ := gd_some h
    refine h_aald O hH ly_8 rfl g6 (ar_8_r g6) dX11_share_36 ?_
    refine h_geti O hH (ar_8_c g6).1 rfl fl_X11_152 dX11_share_37 ?_
    refine lv_imul hx hb dX11_share_40 ?_
    refine lv_topi (fun y7 e8 => ?_)
    have h := lt_at e8 h
    refine lv_istore (lv' := [(4, .int y7), (0, .ref (z + 0)), (1, .int x1), (2, .int x2), (3, .int x3), (5, .int x5)]) hx hb dX11_share_41 hl (by decide) rfl (fun ls hl => ?_)
    obtain ⟨y9, e10, h⟩ := lt_some h
    refine lv_iinc (v := y9) (lv' := [(5, .int y9), (4, .int y7), (0, .ref (z + 0)), (1, .int x1), (2, .int x2), (3, .int x3)]) hx hb dX11_share_43 hl (k := 5) rfl (by rw [e10]; rfl) (by decide) rfl (fun ls hl => ?_)
    refine lv_goto (tgt := 23) hx hb dX11_share_46 (by decide) ?_
    exact hk23 _ _ _ _ _ _ h _ _ _ hH (lv_sub hl [2, 3, 4, 5, 1, 0] rfl)
set_option maxHeartbeats 4000000 in
theorem w_X11_share_23 {G : va_G} {tA : Nat → ClassId} {z : Nat} {E : Ex} {p : Program} {l : Launch} {e : Env} {s : State} {m : MethodId} {args : Array Value} {below : List Frame} {meth : Method} {c : Code} {r : Int32} {D' : Dm} (O : Ok G tA z E cX11_share RX11 6 p s m args c) (hr : meth.sig.returnType = some .int) (hlk : meth.locks = false) : ∀ (n : Nat) (x1 : Int32) (x2 : Int32) (x3 : Int32) (x4 : Int32) (x5 : Int32) (D : Dm) (h : f_X11_share_23 n x1 x2 x3 x4 x5 D = some (r, D')), BI G tA z E p l e (rmC 21 0 0) s m args below meth c LAY D r D' 6 23 [(0, .ref (z + 0)), (1, .int x1), (2, .int x2), (3, .int x3), (4, .int x4), (5, .int x5)] [] := by
  intro n
  induction n with
  | zero => intro x1 x2 x3 x4 x5 D h; exact no_some h
  | succ n ih => intro x1 x2 x3 x4 x5 D h; exact w_X11_share_23_b O hr hlk (fun x1 x2 x3 x4 x5 D h => ih x1 x2 x3 x4 x5 D h) x1 x2 x3 x4 x5 D h
set_option maxHeartbeats 4000000 in
theorem w_X11_share {G : va_G} {tA : Nat → ClassId} {z : Nat} {E : Ex} {p : Program} {l : Launch} {e : Env} {s : State} {m : MethodId} {args : Array Value} {below : List Frame} {meth : Method} {c : Code} {r : Int32} {D' : Dm} (O : Ok G tA z E cX11_share RX11 6 p s m args c) (hr : meth.sig.returnType = some .int) (hlk : meth.locks = false) (x1 : Int32) (x2 : Int32) (D : Dm) (h : f_X11_share x1 x2 D = some (r, D')) : BI G tA z E p l e (rmC 21 0 0) s m args below meth c LAY D r D' 6 0 [(0, .ref (z + 0)), (1, .int x1), (2, .int x2)] [] := by
  obtain ⟨hx, hb, -, hown, hts, -⟩ := id O
  unfold f_X11_share at h
  intro H locs ls hH hl
  refine lv_aload_n hx hb dX11_share_0 rfl (lv_at hl 0 rfl) ?_
  refine lv_iload_n hx hb dX11_share_1 rfl (lv_at hl 1 rfl) ?_
  refine lv_iload_n hx hb dX11_share_2 rfl (lv_at hl 2 rfl) ?_
  obtain ⟨y3, D1, hc2, h⟩ := bI_some h
  refine h_callVi (As := [.int x1, .int x2]) (rest := []) O hH (c_X11_many hc2) ml_X11_174 ly_0 rfl rfl hl.1 rfl ⟨Nat.le_of_ble_eq_true rfl, Nat.le_of_ble_eq_true rfl⟩ (Nat.le_of_ble_eq_true rfl) dX11_share_3 (fun H locs hH => ?_)
  refine lv_istore_n (lv' := [(3, .int y3), (0, .ref (z + 0)), (1, .int x1), (2, .int x2)]) hx hb dX11_share_6 rfl hl (by decide) rfl (fun ls hl => ?_)
  refine lv_iload_n hx hb dX11_share_7 rfl (lv_at hl 0 rfl) ?_
  refine lv_if_ge (tgt := 13) hx hb dX11_share_8 (by decide) (fun c4 => ?_) (fun c4 => ?_)
  · have h := it_pos h c4
    refine h_gst1 O hH dX11_share_13 ?_
    refine lv_iload_n hx hb dX11_share_16 rfl (lv_at hl 3 rfl) ?_
    obtain ⟨g5, h⟩ := gd_some h
    refine h_tald1 O hH g5 dX11_share_17 ?_
    refine lv_topi (fun y6 e7 => ?_)
    have h := lt_at e7 h
    refine lv_istore (lv' := [(4, .int y6), (3, .int y3), (0, .ref (z + 0)), (1, .int x1), (2, .int x2)]) hx hb dX11_share_18 hl (by decide) rfl (fun ls hl => ?_)
    refine lv_iconst (v := 0) hx hb dX11_share_20 (by decide) ?_
    refine lv_istore (lv' := [(5, .int 0), (4, .int y6), (3, .int y3), (0, .ref (z + 0)), (1, .int x1), (2, .int x2)]) hx hb dX11_share_21 hl (by decide) rfl (fun ls hl => ?_)
    exact w_X11_share_23 O hr hlk FU _ _ _ _ _ _ h _ _ _ hH (lv_sub hl [3, 4, 5, 2, 1, 0] rfl)
  · have h := it_neg h c4
    refine lv_iload_n hx hb dX11_share_11 rfl (lv_at hl 0 rfl) ?_
    obtain ⟨rfl, rfl⟩ := ret_i h
    exact h_iret O hr hlk hH dX11_share_12
set_option maxHeartbeats 4000000 in
theorem c_X11_share {l : Launch} {G : va_G} {tA : Nat → ClassId} {z : Nat} {E : Ex} {x1 : Int32} {x2 : Int32} {D D' : Dm} {r : Int32} (h : f_X11_share x1 x2 D = some (r, D')) : CtI l yX11_share cX11_share 6 (some .int) G tA z E 21 0 0 [.ref (z + 0), .int x1, .int x2] LAY D r LAY D' :=
  ct_BI (by decide +kernel) (Nat.le_of_ble_eq_true rfl) (fun _ _ _ _ _ _ _ _ O hr hlk => w_X11_share O hr hlk _ _ _ h)
set_option maxHeartbeats 4000000 in
theorem w_X11_compareMachines_68 {G : va_G} {tA : Nat → ClassId} {z : Nat} {E : Ex} {p : Program} {l : Launch} {e : Env} {s : State} {m : MethodId} {args : Array Value} {below : List Frame} {meth : Method} {c : Code} {D' : Dm} (O : Ok G tA z E cX11_compareMachines RX11 2 p s m args c) (hr : meth.sig.returnType = none) (hlk : meth.locks = false) (xs0 : Int32) (D : Dm) (h : f_X11_compareMachines_68 xs0 D = some D') : BV G tA z E p l e (rmC 5 0 0) s m args below meth c LAY D D' 2 68 [(0, .ref (z + 0))] [.int xs0, .ref (z + 0)] := by
  obtain ⟨hx, hb, -, hown, hts, -⟩ := id O
  unfold f_X11_compareMachines_68 at h
  intro H locs ls hH hl
  obtain ⟨g1, h⟩ := gd_some h
  obtain ⟨D2, e3, h⟩ := lt_some h
  refine h_putz O hH ly_0 rfl fl_X11_188 (zbB_ok g1) e3 dX11_compareMachines_68 (fun H locs hH => ?_)
  refine lv_aload_n hx hb dX11_compareMachines_71 rfl (lv_at hl 0 rfl) ?_
  refine lv_aload_n hx hb dX11_compareMachines_72 rfl (lv_at hl 0 rfl) ?_
  refine h_getr O hH ly_0 rfl fl_X11_43 dX11_compareMachines_73 ?_
  refine h_geti O hH ly_25 rfl fl_X11_339 dX11_compareMachines_76 ?_
  obtain ⟨D4, e5, h⟩ := lt_some h
  refine h_puti O hH ly_0 rfl fl_X11_196 e5 dX11_compareMachines_79 (fun H locs hH => ?_)
  obtain rfl := ret_v h
  exact h_vret O hr hlk hH dX11_compareMachines_82
set_option maxHeartbeats 4000000 in
theorem w_X11_compareMachines {G : va_G} {tA : Nat → ClassId} {z : Nat} {E : Ex} {p : Program} {l : Launch} {e : Env} {s : State} {m : MethodId} {args : Array Value} {below : List Frame} {meth : Method} {c : Code} {D' : Dm} (O : Ok G tA z E cX11_compareMachines RX11 2 p s m args c) (hr : meth.sig.returnType = none) (hlk : meth.locks = false)  (D : Dm) (h : f_X11_compareMachines  D = some D') : BV G tA z E p l e (rmC 5 0 0) s m args below meth c LAY D D' 2 0 [(0, .ref (z + 0))] [] := by
  obtain ⟨hx, hb, -, hown, hts, -⟩ := id O
  unfold f_X11_compareMachines at h
  intro H locs ls hH hl
  refine lv_aload_n hx hb dX11_compareMachines_0 rfl (lv_at hl 0 rfl) ?_
  refine h_geti O hH ly_0 rfl fl_X11_306 dX11_compareMachines_1 ?_
  refine lv_if_eq (tgt := 8) hx hb dX11_compareMachines_4 (by decide) (fun c1 => ?_) (fun c1 => ?_)
  · have h := it_pos h c1
    refine lv_aload_n hx hb dX11_compareMachines_8 rfl (lv_at hl 0 rfl) ?_
    refine lv_iconst (v := 1) hx hb dX11_compareMachines_9 (by decide) ?_
    obtain ⟨D2, e3, h⟩ := lt_some h
    refine h_putz O hH ly_0 rfl fl_X11_306 zb_1 e3 dX11_compareMachines_10 (fun H locs hH => ?_)
    refine lv_aload_n hx hb dX11_compareMachines_13 rfl (lv_at hl 0 rfl) ?_
    refine h_getr O hH ly_0 rfl fl_X11_25 dX11_compareMachines_14 ?_
    refine lv_iconst (v := 0) hx hb dX11_compareMachines_17 (by decide) ?_
    refine h_aald (q := 9) O hH ly_8 rfl (by decide) (by decide) dX11_compareMachines_18 ?_
    refine h_geti O hH ly_9 rfl fl_X11_152 dX11_compareMachines_19 ?_
    refine lv_aload_n hx hb dX11_compareMachines_22 rfl (lv_at hl 0 rfl) ?_
    refine h_getr O hH ly_0 rfl fl_X11_25 dX11_compareMachines_23 ?_
    refine lv_iconst (v := 1) hx hb dX11_compareMachines_26 (by decide) ?_
    refine h_aald (q := 13) O hH ly_8 rfl (by decide) (by decide) dX11_compareMachines_27 ?_
    refine h_geti O hH ly_13 rfl fl_X11_152 dX11_compareMachines_28 ?_
    refine h_max O hl.1 ww_793 (Nat.le_of_ble_eq_true rfl) (Nat.le_of_ble_eq_true rfl) dX11_compareMachines_31 ?_
    refine lv_topi (fun y6 e7 => ?_)
    have h := lt_at e7 h
    refine lv_istore_n (lv' := [(1, .int y6), (0, .ref (z + 0))]) hx hb dX11_compareMachines_34 rfl hl (by decide) rfl (fun ls hl => ?_)
    refine lv_aload_n hx hb dX11_compareMachines_35 rfl (lv_at hl 1 rfl) ?_
    refine lv_aload_n hx hb dX11_compareMachines_36 rfl (lv_at hl 1 rfl) ?_
    refine h_getr O hH ly_0 rfl fl_X11_43 dX11_compareMachines_37 ?_
    refine lv_aload_n hx hb dX11_compareMachines_40 rfl (lv_at hl 1 rfl) ?_
    refine h_getr O hH ly_0 rfl fl_X11_25 dX11_compareMachines_41 ?_
    refine lv_iconst (v := 0) hx hb dX11_compareMachines_44 (by decide) ?_
    refine h_aald (q := 9) O hH ly_8 rfl (by decide) (by decide) dX11_compareMachines_45 ?_
    refine lv_aload_n hx hb dX11_compareMachines_46 rfl (lv_at hl 1 rfl) ?_
    refine h_getr O hH ly_0 rfl fl_X11_25 dX11_compareMachines_47 ?_
    refine lv_iconst (v := 1) hx hb dX11_compareMachines_50 (by decide) ?_
    refine h_aald (q := 13) O hH ly_8 rfl (by decide) (by decide) dX11_compareMachines_51 ?_
    refine lv_iload_n hx hb dX11_compareMachines_52 rfl (lv_at hl 0 rfl) ?_
    refine lv_aload_n hx hb dX11_compareMachines_53 rfl (lv_at hl 1 rfl) ?_
    refine h_getr O hH ly_0 rfl fl_X11_56 dX11_compareMachines_54 ?_
    obtain ⟨y12, D10, hc11, h⟩ := bI_some h
    refine h_callVi (As := [.ref (z + 9), .ref (z + 13), .int y6, .ref (z + 262)]) (rest := [.ref (z + 0)]) O hH (c_X8_find_m ic_262 hc11) ml_X11_335 ly_25 rfl rfl hl.1 rfl ⟨Nat.le_of_ble_eq_true rfl, Nat.le_of_ble_eq_true rfl⟩ (Nat.le_of_ble_eq_true rfl) dX11_compareMachines_57 (fun H locs hH => ?_)
    refine lv_if_ne (tgt := 67) hx hb dX11_compareMachines_60 (by decide) (fun c13 => ?_) (fun c13 => ?_)
    · have h := it_neg h c13
      refine lv_iconst (v := 0) hx hb dX11_compareMachines_67 (by decide) ?_
      exact w_X11_compareMachines_68 O hr hlk _ _ h _ _ _ hH (lv_sub hl [1] rfl)
    · have h := it_pos h c13
      refine lv_iconst (v := 1) hx hb dX11_compareMachines_63 (by decide) ?_
      refine lv_goto (tgt := 68) hx hb dX11_compareMachines_64 (by decide) ?_
      exact w_X11_compareMachines_68 O hr hlk _ _ h _ _ _ hH (lv_sub hl [1] rfl)
  · have h := it_neg h c1
    obtain rfl := ret_v h
    exact h_vret O hr hlk hH dX11_compareMachines_7
set_option maxHeartbeats 4000000 in
theorem c_X11_compareMachines {l : Launch} {G : va_G} {tA : Nat → ClassId} {z : Nat} {E : Ex}  {D D' : Dm} (h : f_X11_compareMachines  D = some D') : CtV l yX11_compareMachines cX11_compareMachines 2 G tA z E 5 0 0 [.ref (z + 0)] LAY D LAY D' :=
  ct_BV (by decide +kernel) (Nat.le_of_ble_eq_true rfl) (fun _ _ _ _ _ _ _ _ O hr hlk => w_X11_compareMachines O hr hlk  _ h)
set_option maxHeartbeats 4000000 in
theorem w_X11_differ {G : va_G} {tA : Nat → ClassId} {z : Nat} {E : Ex} {p : Program} {l : Launch} {e : Env} {s : State} {m : MethodId} {args : Array Value} {below : List Frame} {meth : Method} {c : Code} {r : Int32} {D' : Dm} (O : Ok G tA z E cX11_differ RX11 1 p s m args c) (hr : meth.sig.returnType = some .int) (hlk : meth.locks = false)  (D : Dm) (h : f_X11_differ  D = some (r, D')) : BI G tA z E p l e (rmC 6 0 0) s m args below meth c LAY D r D' 1 0 [(0, .ref (z + 0))] [] := by
  obtain ⟨hx, hb, -, hown, hts, -⟩ := id O
  unfold f_X11_differ at h
  intro H locs ls hH hl
  refine lv_aload_n hx hb dX11_differ_0 rfl (lv_at hl 0 rfl) ?_
  obtain ⟨D1, hc2, h⟩ := bV_some h
  refine h_callVv (As := []) (rest := []) O hH (c_X11_compareMachines hc2) ml_X11_185 ly_0 rfl rfl hl.1 rfl ⟨Nat.le_of_ble_eq_true rfl, Nat.le_of_ble_eq_true rfl⟩ (Nat.le_of_ble_eq_true rfl) dX11_differ_1 (fun H locs hH => ?_)
  refine lv_aload_n hx hb dX11_differ_4 rfl (lv_at hl 0 rfl) ?_
  refine h_geti O hH ly_0 rfl fl_X11_188 dX11_differ_5 ?_
  refine lv_if_eq (tgt := 15) hx hb dX11_differ_8 (by decide) (fun c3 => ?_) (fun c3 => ?_)
  · have h := it_pos h c3
    refine lv_aload_n hx hb dX11_differ_15 rfl (lv_at hl 0 rfl) ?_
    refine h_getr O hH ly_0 rfl fl_X11_56 dX11_differ_16 ?_
    refine h_geti O hH ly_262 rfl fl_X11_113 dX11_differ_19 ?_
    obtain ⟨rfl, rfl⟩ := ret_i h
    exact h_iret O hr hlk hH dX11_differ_22
  · have h := it_neg h c3
    refine lv_iconst (v := (-1)) hx hb dX11_differ_11 (by decide) ?_
    refine lv_goto (tgt := 22) hx hb dX11_differ_12 (by decide) ?_
    obtain ⟨rfl, rfl⟩ := ret_i h
    exact h_iret O hr hlk hH dX11_differ_22
set_option maxHeartbeats 4000000 in
theorem c_X11_differ {l : Launch} {G : va_G} {tA : Nat → ClassId} {z : Nat} {E : Ex}  {D D' : Dm} {r : Int32} (h : f_X11_differ  D = some (r, D')) : CtI l yX11_differ cX11_differ 1 (some .int) G tA z E 6 0 0 [.ref (z + 0)] LAY D r LAY D' :=
  ct_BI (by decide +kernel) (Nat.le_of_ble_eq_true rfl) (fun _ _ _ _ _ _ _ _ O hr hlk => w_X11_differ O hr hlk  _ h)
set_option maxHeartbeats 4000000 in
theorem w_X11_letterOf {G : va_G} {tA : Nat → ClassId} {z : Nat} {E : Ex} {p : Program} {l : Launch} {e : Env} {s : State} {m : MethodId} {args : Array Value} {below : List Frame} {meth : Method} {c : Code} {r : Int32} {D' : Dm} (O : Ok G tA z E cX11_letterOf RX11 3 p s m args c) (hr : meth.sig.returnType = some .int) (hlk : meth.locks = false) (r0 : Nat) (x1 : Int32) (x2 : Int32) (h0 : isC10 r0) (D : Dm) (h : f_X11_letterOf r0 x1 x2 D = some (r, D')) : BI G tA z E p l e (rmC 1 0 0) s m args below meth c LAY D r D' 3 0 [(0, .ref (z + r0)), (1, .int x1), (2, .int x2)] [] := by
  obtain ⟨hx, hb, -, hown, hts, -⟩ := id O
  unfold f_X11_letterOf at h
  intro H locs ls hH hl
  refine lv_iload_n hx hb dX11_letterOf_0 rfl (lv_at hl 1 rfl) ?_
  refine lv_if_lt (tgt := 12) hx hb dX11_letterOf_1 (by decide) (fun c1 => ?_) (fun c1 => ?_)
  · have h := it_pos h c1
    refine lv_bipush (v := (-2)) hx hb dX11_letterOf_12 (by decide) ?_
    obtain ⟨rfl, rfl⟩ := ret_i h
    exact h_iret O hr hlk hH dX11_letterOf_14
  · have h := it_neg h c1
    refine lv_iload_n hx hb dX11_letterOf_4 rfl (lv_at hl 1 rfl) ?_
    refine lv_aload_n hx hb dX11_letterOf_5 rfl (lv_at hl 0 rfl) ?_
    refine h_geti O hH h0.1 rfl fl_X11_113 dX11_letterOf_6 ?_
    refine lv_icmp_lt (tgt := 15) hx hb dX11_letterOf_9 (by decide) (fun c2 => ?_) (fun c2 => ?_)
    · have h := it_pos h c2
      refine lv_iload_n hx hb dX11_letterOf_15 rfl (lv_at hl 2 rfl) ?_
      refine lv_if_ne (tgt := 26) hx hb dX11_letterOf_16 (by decide) (fun c3 => ?_) (fun c3 => ?_)
      · have h := it_neg h c3
        refine lv_iload_n hx hb dX11_letterOf_26 rfl (lv_at hl 2 rfl) ?_
        refine lv_iconst (v := 1) hx hb dX11_letterOf_27 (by decide) ?_
        refine lv_icmp_ne (tgt := 40) hx hb dX11_letterOf_28 (by decide) (fun c4 => ?_) (fun c4 => ?_)
        · have h := it_neg h c4
          refine lv_bipush (v := (-2)) hx hb dX11_letterOf_40 (by decide) ?_
          obtain ⟨rfl, rfl⟩ := ret_i h
          exact h_iret O hr hlk hH dX11_letterOf_42
        · have h := it_pos h c4
          refine lv_aload_n hx hb dX11_letterOf_31 rfl (lv_at hl 0 rfl) ?_
          refine h_getr O hH h0.1 rfl fl_X11_344 dX11_letterOf_32 ?_
          refine lv_iload_n hx hb dX11_letterOf_35 rfl (lv_at hl 1 rfl) ?_
          obtain ⟨g5, h⟩ := gd_some h
          refine h_iald O hH h0.2.2.1 g5 dX11_letterOf_36 ?_
          refine lv_goto (tgt := 42) hx hb dX11_letterOf_37 (by decide) ?_
          obtain ⟨rfl, rfl⟩ := ret_i h
          exact h_iret O hr hlk hH dX11_letterOf_42
      · have h := it_pos h c3
        refine lv_aload_n hx hb dX11_letterOf_19 rfl (lv_at hl 0 rfl) ?_
        refine h_getr O hH h0.1 rfl fl_X11_342 dX11_letterOf_20 ?_
        refine lv_iload_n hx hb dX11_letterOf_23 rfl (lv_at hl 1 rfl) ?_
        obtain ⟨g6, h⟩ := gd_some h
        refine h_iald O hH h0.2.1 g6 dX11_letterOf_24 ?_
        obtain ⟨rfl, rfl⟩ := ret_i h
        exact h_iret O hr hlk hH dX11_letterOf_25
    · have h := it_neg h c2
      refine lv_bipush (v := (-2)) hx hb dX11_letterOf_12 (by decide) ?_
      obtain ⟨rfl, rfl⟩ := ret_i h
      exact h_iret O hr hlk hH dX11_letterOf_14
set_option maxHeartbeats 4000000 in
theorem c_X11_letterOf {l : Launch} {G : va_G} {tA : Nat → ClassId} {z : Nat} {E : Ex} {r0 : Nat} {x1 : Int32} {x2 : Int32} (h0 : isC10 r0) {D D' : Dm} {r : Int32} (h : f_X11_letterOf r0 x1 x2 D = some (r, D')) : CtI l yX11_letterOf cX11_letterOf 3 (some .int) G tA z E 1 0 0 [.ref (z + r0), .int x1, .int x2] LAY D r LAY D' :=
  ct_BI (by decide +kernel) (Nat.le_of_ble_eq_true rfl) (fun _ _ _ _ _ _ _ _ O hr hlk => w_X11_letterOf O hr hlk _ _ _ h0 _ h)
set_option maxHeartbeats 4000000 in
theorem w_X11_differs {G : va_G} {tA : Nat → ClassId} {z : Nat} {E : Ex} {p : Program} {l : Launch} {e : Env} {s : State} {m : MethodId} {args : Array Value} {below : List Frame} {meth : Method} {c : Code} {r : Int32} {D' : Dm} (O : Ok G tA z E cX11_differs RX11 3 p s m args c) (hr : meth.sig.returnType = some .int) (hlk : meth.locks = false) (x1 : Int32) (x2 : Int32) (D : Dm) (h : f_X11_differs x1 x2 D = some (r, D')) : BI G tA z E p l e (rmC 6 0 0) s m args below meth c LAY D r D' 3 0 [(0, .ref (z + 0)), (1, .int x1), (2, .int x2)] [] := by
  obtain ⟨hx, hb, -, hown, hts, -⟩ := id O
  unfold f_X11_differs at h
  intro H locs ls hH hl
  refine lv_aload_n hx hb dX11_differs_0 rfl (lv_at hl 0 rfl) ?_
  obtain ⟨D1, hc2, h⟩ := bV_some h
  refine h_callVv (As := []) (rest := []) O hH (c_X11_compareMachines hc2) ml_X11_185 ly_0 rfl rfl hl.1 rfl ⟨Nat.le_of_ble_eq_true rfl, Nat.le_of_ble_eq_true rfl⟩ (Nat.le_of_ble_eq_true rfl) dX11_differs_1 (fun H locs hH => ?_)
  refine lv_aload_n hx hb dX11_differs_4 rfl (lv_at hl 0 rfl) ?_
  refine h_getr O hH ly_0 rfl fl_X11_56 dX11_differs_5 ?_
  refine lv_iload_n hx hb dX11_differs_8 rfl (lv_at hl 1 rfl) ?_
  refine lv_iload_n hx hb dX11_differs_9 rfl (lv_at hl 2 rfl) ?_
  obtain ⟨y5, D3, hc4, h⟩ := bI_some h
  refine h_callSi (As := [.ref (z + 262), .int x1, .int x2]) (rest := []) O hH (c_X11_letterOf ic_262 hc4) ml_X11_192 rfl hl.1 rfl ⟨Nat.le_of_ble_eq_true rfl, Nat.le_of_ble_eq_true rfl⟩ (Nat.le_of_ble_eq_true rfl) dX11_differs_10 (fun H locs hH => ?_)
  obtain ⟨rfl, rfl⟩ := ret_i h
  exact h_iret O hr hlk hH dX11_differs_13
set_option maxHeartbeats 4000000 in
theorem c_X11_differs {l : Launch} {G : va_G} {tA : Nat → ClassId} {z : Nat} {E : Ex} {x1 : Int32} {x2 : Int32} {D D' : Dm} {r : Int32} (h : f_X11_differs x1 x2 D = some (r, D')) : CtI l yX11_differs cX11_differs 3 (some .int) G tA z E 6 0 0 [.ref (z + 0), .int x1, .int x2] LAY D r LAY D' :=
  ct_BI (by decide +kernel) (Nat.le_of_ble_eq_true rfl) (fun _ _ _ _ _ _ _ _ O hr hlk => w_X11_differs O hr hlk _ _ _ h)
set_option maxHeartbeats 4000000 in
theorem w_X11_couples {G : va_G} {tA : Nat → ClassId} {z : Nat} {E : Ex} {p : Program} {l : Launch} {e : Env} {s : State} {m : MethodId} {args : Array Value} {below : List Frame} {meth : Method} {c : Code} {r : Int32} {D' : Dm} (O : Ok G tA z E cX11_couples RX11 1 p s m args c) (hr : meth.sig.returnType = some .int) (hlk : meth.locks = false)  (D : Dm) (h : f_X11_couples  D = some (r, D')) : BI G tA z E p l e (rmC 6 0 0) s m args below meth c LAY D r D' 1 0 [(0, .ref (z + 0))] [] := by
  obtain ⟨hx, hb, -, hown, hts, -⟩ := id O
  unfold f_X11_couples at h
  intro H locs ls hH hl
  refine lv_aload_n hx hb dX11_couples_0 rfl (lv_at hl 0 rfl) ?_
  obtain ⟨D1, hc2, h⟩ := bV_some h
  refine h_callVv (As := []) (rest := []) O hH (c_X11_compareMachines hc2) ml_X11_185 ly_0 rfl rfl hl.1 rfl ⟨Nat.le_of_ble_eq_true rfl, Nat.le_of_ble_eq_true rfl⟩ (Nat.le_of_ble_eq_true rfl) dX11_couples_1 (fun H locs hH => ?_)
  refine lv_aload_n hx hb dX11_couples_4 rfl (lv_at hl 0 rfl) ?_
  refine h_geti O hH ly_0 rfl fl_X11_196 dX11_couples_5 ?_
  obtain ⟨rfl, rfl⟩ := ret_i h
  exact h_iret O hr hlk hH dX11_couples_8
set_option maxHeartbeats 4000000 in
theorem c_X11_couples {l : Launch} {G : va_G} {tA : Nat → ClassId} {z : Nat} {E : Ex}  {D D' : Dm} {r : Int32} (h : f_X11_couples  D = some (r, D')) : CtI l yX11_couples cX11_couples 1 (some .int) G tA z E 6 0 0 [.ref (z + 0)] LAY D r LAY D' :=
  ct_BI (by decide +kernel) (Nat.le_of_ble_eq_true rfl) (fun _ _ _ _ _ _ _ _ O hr hlk => w_X11_couples O hr hlk  _ h)
set_option maxHeartbeats 4000000 in
theorem w_X11_lengthOrLetterOf {G : va_G} {tA : Nat → ClassId} {z : Nat} {E : Ex} {p : Program} {l : Launch} {e : Env} {s : State} {m : MethodId} {args : Array Value} {below : List Frame} {meth : Method} {c : Code} {r : Int32} {D' : Dm} (O : Ok G tA z E cX11_lengthOrLetterOf RX11 3 p s m args c) (hr : meth.sig.returnType = some .int) (hlk : meth.locks = false) (r0 : Nat) (x1 : Int32) (x2 : Int32) (h0 : isC10 r0) (D : Dm) (h : f_X11_lengthOrLetterOf r0 x1 x2 D = some (r, D')) : BI G tA z E p l e (rmC 2 0 0) s m args below meth c LAY D r D' 3 0 [(0, .ref (z + r0)), (1, .int x1), (2, .int x2)] [] := by
  obtain ⟨hx, hb, -, hown, hts, -⟩ := id O
  unfold f_X11_lengthOrLetterOf at h
  intro H locs ls hH hl
  refine lv_iload_n hx hb dX11_lengthOrLetterOf_0 rfl (lv_at hl 1 rfl) ?_
  refine lv_iconst (v := (-1)) hx hb dX11_lengthOrLetterOf_1 (by decide) ?_
  refine lv_icmp_ne (tgt := 19) hx hb dX11_lengthOrLetterOf_2 (by decide) (fun c1 => ?_) (fun c1 => ?_)
  · have h := it_neg h c1
    refine lv_aload_n hx hb dX11_lengthOrLetterOf_19 rfl (lv_at hl 0 rfl) ?_
    refine lv_iload_n hx hb dX11_lengthOrLetterOf_20 rfl (lv_at hl 1 rfl) ?_
    refine lv_iload_n hx hb dX11_lengthOrLetterOf_21 rfl (lv_at hl 2 rfl) ?_
    obtain ⟨y4, D2, hc3, h⟩ := bI_some h
    refine h_callSi (As := [.ref (z + r0), .int x1, .int x2]) (rest := []) O hH (c_X11_letterOf h0 hc3) ml_X11_192 rfl hl.1 rfl ⟨Nat.le_of_ble_eq_true rfl, Nat.le_of_ble_eq_true rfl⟩ (Nat.le_of_ble_eq_true rfl) dX11_lengthOrLetterOf_22 (fun H locs hH => ?_)
    obtain ⟨rfl, rfl⟩ := ret_i h
    exact h_iret O hr hlk hH dX11_lengthOrLetterOf_25
  · have h := it_pos h c1
    refine lv_iload_n hx hb dX11_lengthOrLetterOf_5 rfl (lv_at hl 2 rfl) ?_
    refine lv_if_ne (tgt := 16) hx hb dX11_lengthOrLetterOf_6 (by decide) (fun c5 => ?_) (fun c5 => ?_)
    · have h := it_neg h c5
      refine lv_bipush (v := (-2)) hx hb dX11_lengthOrLetterOf_16 (by decide) ?_
      obtain ⟨rfl, rfl⟩ := ret_i h
      exact h_iret O hr hlk hH dX11_lengthOrLetterOf_18
    · have h := it_pos h c5
      refine lv_aload_n hx hb dX11_lengthOrLetterOf_9 rfl (lv_at hl 0 rfl) ?_
      refine h_geti O hH h0.1 rfl fl_X11_113 dX11_lengthOrLetterOf_10 ?_
      refine lv_goto (tgt := 18) hx hb dX11_lengthOrLetterOf_13 (by decide) ?_
      obtain ⟨rfl, rfl⟩ := ret_i h
      exact h_iret O hr hlk hH dX11_lengthOrLetterOf_18
set_option maxHeartbeats 4000000 in
theorem c_X11_lengthOrLetterOf {l : Launch} {G : va_G} {tA : Nat → ClassId} {z : Nat} {E : Ex} {r0 : Nat} {x1 : Int32} {x2 : Int32} (h0 : isC10 r0) {D D' : Dm} {r : Int32} (h : f_X11_lengthOrLetterOf r0 x1 x2 D = some (r, D')) : CtI l yX11_lengthOrLetterOf cX11_lengthOrLetterOf 3 (some .int) G tA z E 2 0 0 [.ref (z + r0), .int x1, .int x2] LAY D r LAY D' :=
  ct_BI (by decide +kernel) (Nat.le_of_ble_eq_true rfl) (fun _ _ _ _ _ _ _ _ O hr hlk => w_X11_lengthOrLetterOf O hr hlk _ _ _ h0 _ h)
set_option maxHeartbeats 4000000 in
theorem w_X11_letter_30 {G : va_G} {tA : Nat → ClassId} {z : Nat} {E : Ex} {p : Program} {l : Launch} {e : Env} {s : State} {m : MethodId} {args : Array Value} {below : List Frame} {meth : Method} {c : Code} {r : Int32} {D' : Dm} (O : Ok G tA z E cX11_letter RX11 3 p s m args c) (hr : meth.sig.returnType = some .int) (hlk : meth.locks = false) (x1 : Int32) (x2 : Int32) (D : Dm) (h : f_X11_letter_30 x1 x2 D = some (r, D')) : BI G tA z E p l e (rmC 3 0 0) s m args below meth c LAY D r D' 3 30 [(0, .ref (z + 0)), (1, .int x1), (2, .int x2)] [] := by
  obtain ⟨hx, hb, -, hown, hts, -⟩ := id O
  unfold f_X11_letter_30 at h
  intro H locs ls hH hl
  refine lv_aload_n hx hb dX11_letter_30 rfl (lv_at hl 0 rfl) ?_
  refine h_getr O hH ly_0 rfl fl_X11_33 dX11_letter_31 ?_
  refine lv_iload_n hx hb dX11_letter_34 rfl (lv_at hl 1 rfl) ?_
  refine lv_iload_n hx hb dX11_letter_35 rfl (lv_at hl 2 rfl) ?_
  obtain ⟨y3, D1, hc2, h⟩ := bI_some h
  refine h_callSi (As := [.ref (z + 17), .int x1, .int x2]) (rest := []) O hH (c_X11_lengthOrLetterOf ic_17 hc2) ml_X11_202 rfl hl.1 rfl ⟨Nat.le_of_ble_eq_true rfl, Nat.le_of_ble_eq_true rfl⟩ (Nat.le_of_ble_eq_true rfl) dX11_letter_36 (fun H locs hH => ?_)
  obtain ⟨rfl, rfl⟩ := ret_i h
  exact h_iret O hr hlk hH dX11_letter_39
set_option maxHeartbeats 4000000 in
theorem w_X11_letter {G : va_G} {tA : Nat → ClassId} {z : Nat} {E : Ex} {p : Program} {l : Launch} {e : Env} {s : State} {m : MethodId} {args : Array Value} {below : List Frame} {meth : Method} {c : Code} {r : Int32} {D' : Dm} (O : Ok G tA z E cX11_letter RX11 3 p s m args c) (hr : meth.sig.returnType = some .int) (hlk : meth.locks = false) (x1 : Int32) (x2 : Int32) (D : Dm) (h : f_X11_letter x1 x2 D = some (r, D')) : BI G tA z E p l e (rmC 3 0 0) s m args below meth c LAY D r D' 3 0 [(0, .ref (z + 0)), (1, .int x1), (2, .int x2)] [] := by
  obtain ⟨hx, hb, -, hown, hts, -⟩ := id O
  unfold f_X11_letter at h
  intro H locs ls hH hl
  refine lv_iload_n hx hb dX11_letter_0 rfl (lv_at hl 2 rfl) ?_
  refine lv_iconst (v := 2) hx hb dX11_letter_1 (by decide) ?_
  refine lv_icmp_ne (tgt := 30) hx hb dX11_letter_2 (by decide) (fun c1 => ?_) (fun c1 => ?_)
  · have h := it_neg h c1
    exact w_X11_letter_30 O hr hlk _ _ _ h _ _ _ hH (lv_sub hl [0, 1, 2] rfl)
  · have h := it_pos h c1
    refine lv_iload_n hx hb dX11_letter_5 rfl (lv_at hl 1 rfl) ?_
    refine lv_if_lt (tgt := 30) hx hb dX11_letter_6 (by decide) (fun c2 => ?_) (fun c2 => ?_)
    · have h := it_pos h c2
      exact w_X11_letter_30 O hr hlk _ _ _ h _ _ _ hH (lv_sub hl [0, 1, 2] rfl)
    · have h := it_neg h c2
      refine lv_iload_n hx hb dX11_letter_9 rfl (lv_at hl 1 rfl) ?_
      refine lv_aload_n hx hb dX11_letter_10 rfl (lv_at hl 0 rfl) ?_
      refine h_getr O hH ly_0 rfl fl_X11_33 dX11_letter_11 ?_
      refine h_geti O hH ly_17 rfl fl_X11_113 dX11_letter_14 ?_
      refine lv_icmp_ge (tgt := 30) hx hb dX11_letter_17 (by decide) (fun c3 => ?_) (fun c3 => ?_)
      · have h := it_pos h c3
        exact w_X11_letter_30 O hr hlk _ _ _ h _ _ _ hH (lv_sub hl [0, 1, 2] rfl)
      · have h := it_neg h c3
        refine lv_aload_n hx hb dX11_letter_20 rfl (lv_at hl 0 rfl) ?_
        refine h_getr O hH ly_0 rfl fl_X11_33 dX11_letter_21 ?_
        refine h_getr O hH ly_17 rfl fl_X11_199 dX11_letter_24 ?_
        refine lv_iload_n hx hb dX11_letter_27 rfl (lv_at hl 1 rfl) ?_
        obtain ⟨g4, h⟩ := gd_some h
        refine h_iald O hH ly_20 g4 dX11_letter_28 ?_
        obtain ⟨rfl, rfl⟩ := ret_i h
        exact h_iret O hr hlk hH dX11_letter_29
set_option maxHeartbeats 4000000 in
theorem c_X11_letter {l : Launch} {G : va_G} {tA : Nat → ClassId} {z : Nat} {E : Ex} {x1 : Int32} {x2 : Int32} {D D' : Dm} {r : Int32} (h : f_X11_letter x1 x2 D = some (r, D')) : CtI l yX11_letter cX11_letter 3 (some .int) G tA z E 3 0 0 [.ref (z + 0), .int x1, .int x2] LAY D r LAY D' :=
  ct_BI (by decide +kernel) (Nat.le_of_ble_eq_true rfl) (fun _ _ _ _ _ _ _ _ O hr hlk => w_X11_letter O hr hlk _ _ _ h)
set_option maxHeartbeats 4000000 in
theorem w_X11_isWordTooLong_23 {G : va_G} {tA : Nat → ClassId} {z : Nat} {E : Ex} {p : Program} {l : Launch} {e : Env} {s : State} {m : MethodId} {args : Array Value} {below : List Frame} {meth : Method} {c : Code} {r : Int32} {D' : Dm} (O : Ok G tA z E cX11_isWordTooLong RX11 1 p s m args c) (hr : meth.sig.returnType = some .boolean) (hlk : meth.locks = false)  (D : Dm) (h : f_X11_isWordTooLong_23  D = some (r, D')) : BI G tA z E p l e (rmC 1 0 0) s m args below meth c LAY D r D' 1 23 [] [] := by
  obtain ⟨hx, hb, -, hown, hts, -⟩ := id O
  unfold f_X11_isWordTooLong_23 at h
  intro H locs ls hH hl
  refine lv_iconst (v := 1) hx hb dX11_isWordTooLong_23 (by decide) ?_
  refine lv_goto (tgt := 28) hx hb dX11_isWordTooLong_24 (by decide) ?_
  obtain ⟨rfl, rfl⟩ := ret_i h
  exact h_zret O hr hlk zb_1 hH dX11_isWordTooLong_28
set_option maxHeartbeats 4000000 in
theorem w_X11_isWordTooLong {G : va_G} {tA : Nat → ClassId} {z : Nat} {E : Ex} {p : Program} {l : Launch} {e : Env} {s : State} {m : MethodId} {args : Array Value} {below : List Frame} {meth : Method} {c : Code} {r : Int32} {D' : Dm} (O : Ok G tA z E cX11_isWordTooLong RX11 1 p s m args c) (hr : meth.sig.returnType = some .boolean) (hlk : meth.locks = false)  (D : Dm) (h : f_X11_isWordTooLong  D = some (r, D')) : BI G tA z E p l e (rmC 1 0 0) s m args below meth c LAY D r D' 1 0 [(0, .ref (z + 0))] [] := by
  obtain ⟨hx, hb, -, hown, hts, -⟩ := id O
  unfold f_X11_isWordTooLong at h
  intro H locs ls hH hl
  refine lv_aload_n hx hb dX11_isWordTooLong_0 rfl (lv_at hl 0 rfl) ?_
  refine h_getr O hH ly_0 rfl fl_X11_33 dX11_isWordTooLong_1 ?_
  refine h_geti O hH ly_17 rfl fl_X11_113 dX11_isWordTooLong_4 ?_
  refine lv_bipush (v := 6) hx hb dX11_isWordTooLong_7 (by decide) ?_
  refine lv_icmp_gt (tgt := 23) hx hb dX11_isWordTooLong_9 (by decide) (fun c1 => ?_) (fun c1 => ?_)
  · have h := it_pos h c1
    exact w_X11_isWordTooLong_23 O hr hlk _ h _ _ _ hH (lv_sub hl [] rfl)
  · have h := it_neg h c1
    refine lv_aload_n hx hb dX11_isWordTooLong_12 rfl (lv_at hl 0 rfl) ?_
    refine h_getr O hH ly_0 rfl fl_X11_33 dX11_isWordTooLong_13 ?_
    refine h_geti O hH ly_17 rfl fl_X11_263 dX11_isWordTooLong_16 ?_
    refine lv_iconst (v := 4) hx hb dX11_isWordTooLong_19 (by decide) ?_
    refine lv_icmp_le (tgt := 27) hx hb dX11_isWordTooLong_20 (by decide) (fun c2 => ?_) (fun c2 => ?_)
    · have h := it_pos h c2
      refine lv_iconst (v := 0) hx hb dX11_isWordTooLong_27 (by decide) ?_
      obtain ⟨rfl, rfl⟩ := ret_i h
      exact h_zret O hr hlk zb_0 hH dX11_isWordTooLong_28
    · have h := it_neg h c2
      exact w_X11_isWordTooLong_23 O hr hlk _ h _ _ _ hH (lv_sub hl [] rfl)
set_option maxHeartbeats 4000000 in
theorem c_X11_isWordTooLong {l : Launch} {G : va_G} {tA : Nat → ClassId} {z : Nat} {E : Ex}  {D D' : Dm} {r : Int32} (h : f_X11_isWordTooLong  D = some (r, D')) : CtI l yX11_isWordTooLong cX11_isWordTooLong 1 (some .boolean) G tA z E 1 0 0 [.ref (z + 0)] LAY D r LAY D' :=
  ct_BI (by decide +kernel) (Nat.le_of_ble_eq_true rfl) (fun _ _ _ _ _ _ _ _ O hr hlk => w_X11_isWordTooLong O hr hlk  _ h)
set_option maxHeartbeats 4000000 in
theorem w_X11_remembered {G : va_G} {tA : Nat → ClassId} {z : Nat} {E : Ex} {p : Program} {l : Launch} {e : Env} {s : State} {m : MethodId} {args : Array Value} {below : List Frame} {meth : Method} {c : Code} {r : Int32} {D' : Dm} (O : Ok G tA z E cX11_remembered RX11 1 p s m args c) (hr : meth.sig.returnType = some .int) (hlk : meth.locks = false)  (D : Dm) (h : f_X11_remembered  D = some (r, D')) : BI G tA z E p l e (rmC 6 0 0) s m args below meth c LAY D r D' 1 0 [(0, .ref (z + 0))] [] := by
  obtain ⟨hx, hb, -, hown, hts, -⟩ := id O
  unfold f_X11_remembered at h
  intro H locs ls hH hl
  refine lv_aload_n hx hb dX11_remembered_0 rfl (lv_at hl 0 rfl) ?_
  obtain ⟨y3, D1, hc2, h⟩ := bI_some h
  refine h_callVi (As := []) (rest := []) O hH (c_X11_isWordTooLong hc2) ml_X11_205 ly_0 rfl rfl hl.1 rfl ⟨Nat.le_of_ble_eq_true rfl, Nat.le_of_ble_eq_true rfl⟩ (Nat.le_of_ble_eq_true rfl) dX11_remembered_1 (fun H locs hH => ?_)
  refine lv_if_eq (tgt := 10) hx hb dX11_remembered_4 (by decide) (fun c4 => ?_) (fun c4 => ?_)
  · have h := it_pos h c4
    refine lv_aload_n hx hb dX11_remembered_10 rfl (lv_at hl 0 rfl) ?_
    refine h_getr O hH ly_0 rfl fl_X11_52 dX11_remembered_11 ?_
    refine lv_aload_n hx hb dX11_remembered_14 rfl (lv_at hl 0 rfl) ?_
    refine h_getr O hH ly_0 rfl fl_X11_33 dX11_remembered_15 ?_
    obtain ⟨D5, hc6, h⟩ := bV_some h
    refine h_callVv (As := [.ref (z + 17)]) (rest := []) O hH (c_X3_lookAt ic_17 hc6) ml_X11_209 ly_43 rfl rfl hl.1 rfl ⟨Nat.le_of_ble_eq_true rfl, Nat.le_of_ble_eq_true rfl⟩ (Nat.le_of_ble_eq_true rfl) dX11_remembered_18 (fun H locs hH => ?_)
    refine lv_aload_n hx hb dX11_remembered_21 rfl (lv_at hl 0 rfl) ?_
    refine h_getr O hH ly_0 rfl fl_X11_52 dX11_remembered_22 ?_
    refine h_getr O hH ly_43 rfl fl_X11_212 dX11_remembered_25 ?_
    obtain ⟨y9, D7, hc8, h⟩ := bI_some h
    refine h_callVi (As := []) (rest := []) O hH (c_X6_keptBits ic_46 hc8) ml_X11_216 ly_46 rfl rfl hl.1 rfl ⟨Nat.le_of_ble_eq_true rfl, Nat.le_of_ble_eq_true rfl⟩ (Nat.le_of_ble_eq_true rfl) dX11_remembered_28 (fun H locs hH => ?_)
    obtain ⟨rfl, rfl⟩ := ret_i h
    exact h_iret O hr hlk hH dX11_remembered_31
  · have h := it_neg h c4
    refine lv_bipush (v := (-4)) hx hb dX11_remembered_7 (by decide) ?_
    obtain ⟨rfl, rfl⟩ := ret_i h
    exact h_iret O hr hlk hH dX11_remembered_9
set_option maxHeartbeats 4000000 in
theorem c_X11_remembered {l : Launch} {G : va_G} {tA : Nat → ClassId} {z : Nat} {E : Ex}  {D D' : Dm} {r : Int32} (h : f_X11_remembered  D = some (r, D')) : CtI l yX11_remembered cX11_remembered 1 (some .int) G tA z E 6 0 0 [.ref (z + 0)] LAY D r LAY D' :=
  ct_BI (by decide +kernel) (Nat.le_of_ble_eq_true rfl) (fun _ _ _ _ _ _ _ _ O hr hlk => w_X11_remembered O hr hlk  _ h)
set_option maxHeartbeats 4000000 in
theorem w_X11_alike {G : va_G} {tA : Nat → ClassId} {z : Nat} {E : Ex} {p : Program} {l : Launch} {e : Env} {s : State} {m : MethodId} {args : Array Value} {below : List Frame} {meth : Method} {c : Code} {r : Int32} {D' : Dm} (O : Ok G tA z E cX11_alike RX11 2 p s m args c) (hr : meth.sig.returnType = some .int) (hlk : meth.locks = false) (x1 : Int32) (D : Dm) (h : f_X11_alike x1 D = some (r, D')) : BI G tA z E p l e (rmC 6 0 0) s m args below meth c LAY D r D' 2 0 [(0, .ref (z + 0)), (1, .int x1)] [] := by
  obtain ⟨hx, hb, -, hown, hts, -⟩ := id O
  unfold f_X11_alike at h
  intro H locs ls hH hl
  refine lv_aload_n hx hb dX11_alike_0 rfl (lv_at hl 0 rfl) ?_
  refine h_getr O hH ly_0 rfl fl_X11_52 dX11_alike_1 ?_
  refine lv_iload_n hx hb dX11_alike_4 rfl (lv_at hl 1 rfl) ?_
  obtain ⟨y3, D1, hc2, h⟩ := bI_some h
  refine h_callVi (As := [.int x1]) (rest := []) O hH (c_X3_isShort hc2) ml_X11_221 ly_43 rfl rfl hl.1 rfl ⟨Nat.le_of_ble_eq_true rfl, Nat.le_of_ble_eq_true rfl⟩ (Nat.le_of_ble_eq_true rfl) dX11_alike_5 (fun H locs hH => ?_)
  refine lv_if_ne (tgt := 14) hx hb dX11_alike_8 (by decide) (fun c4 => ?_) (fun c4 => ?_)
  · have h := it_neg h c4
    refine lv_aload_n hx hb dX11_alike_14 rfl (lv_at hl 0 rfl) ?_
    obtain ⟨y7, D5, hc6, h⟩ := bI_some h
    refine h_callVi (As := []) (rest := []) O hH (c_X11_isWordTooLong hc6) ml_X11_205 ly_0 rfl rfl hl.1 rfl ⟨Nat.le_of_ble_eq_true rfl, Nat.le_of_ble_eq_true rfl⟩ (Nat.le_of_ble_eq_true rfl) dX11_alike_15 (fun H locs hH => ?_)
    refine lv_if_eq (tgt := 24) hx hb dX11_alike_18 (by decide) (fun c8 => ?_) (fun c8 => ?_)
    · have h := it_pos h c8
      refine lv_aload_n hx hb dX11_alike_24 rfl (lv_at hl 0 rfl) ?_
      refine h_getr O hH ly_0 rfl fl_X11_52 dX11_alike_25 ?_
      obtain ⟨D9, hc10, h⟩ := bV_some h
      refine h_callVv (As := []) (rest := []) O hH (c_X3_lookAtShortWords hc10) ml_X11_224 ly_43 rfl rfl hl.1 rfl ⟨Nat.le_of_ble_eq_true rfl, Nat.le_of_ble_eq_true rfl⟩ (Nat.le_of_ble_eq_true rfl) dX11_alike_28 (fun H locs hH => ?_)
      refine lv_aload_n hx hb dX11_alike_31 rfl (lv_at hl 0 rfl) ?_
      refine h_getr O hH ly_0 rfl fl_X11_52 dX11_alike_32 ?_
      refine lv_aload_n hx hb dX11_alike_35 rfl (lv_at hl 0 rfl) ?_
      refine h_getr O hH ly_0 rfl fl_X11_33 dX11_alike_36 ?_
      obtain ⟨D11, hc12, h⟩ := bV_some h
      refine h_callVv (As := [.ref (z + 17)]) (rest := []) O hH (c_X3_lookAt ic_17 hc12) ml_X11_209 ly_43 rfl rfl hl.1 rfl ⟨Nat.le_of_ble_eq_true rfl, Nat.le_of_ble_eq_true rfl⟩ (Nat.le_of_ble_eq_true rfl) dX11_alike_39 (fun H locs hH => ?_)
      refine lv_aload_n hx hb dX11_alike_42 rfl (lv_at hl 0 rfl) ?_
      refine h_getr O hH ly_0 rfl fl_X11_52 dX11_alike_43 ?_
      refine h_getr O hH ly_43 rfl fl_X11_212 dX11_alike_46 ?_
      refine lv_aload_n hx hb dX11_alike_49 rfl (lv_at hl 0 rfl) ?_
      refine h_getr O hH ly_0 rfl fl_X11_52 dX11_alike_50 ?_
      refine h_getr O hH ly_43 rfl fl_X11_227 dX11_alike_53 ?_
      refine lv_iload_n hx hb dX11_alike_56 rfl (lv_at hl 1 rfl) ?_
      obtain ⟨g13, h⟩ := gd_some h
      refine h_aald O hH ly_45 rfl g13 (ar_45_r g13) dX11_alike_57 ?_
      obtain ⟨y16, D14, hc15, h⟩ := bI_some h
      refine h_callVi (As := [.ref (z + (ar_45 (Int32.toNatClampNeg x1)))]) (rest := []) O hH (c_X6_tellWay ic_46 (ar_45_c g13) hc15) ml_X11_231 ly_46 rfl rfl hl.1 rfl ⟨Nat.le_of_ble_eq_true rfl, Nat.le_of_ble_eq_true rfl⟩ (Nat.le_of_ble_eq_true rfl) dX11_alike_58 (fun H locs hH => ?_)
      obtain ⟨rfl, rfl⟩ := ret_i h
      exact h_iret O hr hlk hH dX11_alike_61
    · have h := it_neg h c8
      refine lv_bipush (v := (-4)) hx hb dX11_alike_21 (by decide) ?_
      obtain ⟨rfl, rfl⟩ := ret_i h
      exact h_iret O hr hlk hH dX11_alike_23
  · have h := it_pos h c4
    refine lv_bipush (v := (-2)) hx hb dX11_alike_11 (by decide) ?_
    obtain ⟨rfl, rfl⟩ := ret_i h
    exact h_iret O hr hlk hH dX11_alike_13
set_option maxHeartbeats 4000000 in
theorem c_X11_alike {l : Launch} {G : va_G} {tA : Nat → ClassId} {z : Nat} {E : Ex} {x1 : Int32} {D D' : Dm} {r : Int32} (h : f_X11_alike x1 D = some (r, D')) : CtI l yX11_alike cX11_alike 2 (some .int) G tA z E 6 0 0 [.ref (z + 0), .int x1] LAY D r LAY D' :=
  ct_BI (by decide +kernel) (Nat.le_of_ble_eq_true rfl) (fun _ _ _ _ _ _ _ _ O hr hlk => w_X11_alike O hr hlk _ _ h)
set_option maxHeartbeats 4000000 in
theorem w_X11_begin {G : va_G} {tA : Nat → ClassId} {z : Nat} {E : Ex} {p : Program} {l : Launch} {e : Env} {s : State} {m : MethodId} {args : Array Value} {below : List Frame} {meth : Method} {c : Code} {r : Int32} {D' : Dm} (O : Ok G tA z E cX11_begin RX11 2 p s m args c) (hr : meth.sig.returnType = some .int) (hlk : meth.locks = false)  (D : Dm) (h : f_X11_begin  D = some (r, D')) : BI G tA z E p l e (rmC 2 0 0) s m args below meth c LAY D r D' 2 0 [(0, .ref (z + 0))] [] := by
  obtain ⟨hx, hb, -, hown, hts, -⟩ := id O
  unfold f_X11_begin at h
  intro H locs ls hH hl
  refine lv_aload_n hx hb dX11_begin_0 rfl (lv_at hl 0 rfl) ?_
  refine h_getr O hH ly_0 rfl fl_X11_52 dX11_begin_1 ?_
  refine h_geti O hH ly_43 rfl fl_X11_235 dX11_begin_4 ?_
  refine lv_aload_n hx hb dX11_begin_7 rfl (lv_at hl 0 rfl) ?_
  refine h_getr O hH ly_0 rfl fl_X11_52 dX11_begin_8 ?_
  refine h_getr O hH ly_43 rfl fl_X11_238 dX11_begin_11 ?_
  refine h_geti O hH ly_76 rfl fl_X11_242 dX11_begin_14 ?_
  refine lv_iadd hx hb dX11_begin_17 ?_
  refine lv_topi (fun y1 e2 => ?_)
  have h := lt_at e2 h
  refine lv_istore_n (lv' := [(1, .int y1), (0, .ref (z + 0))]) hx hb dX11_begin_18 rfl hl (by decide) rfl (fun ls hl => ?_)
  refine lv_aload_n hx hb dX11_begin_19 rfl (lv_at hl 1 rfl) ?_
  refine h_getr O hH ly_0 rfl fl_X11_52 dX11_begin_20 ?_
  obtain ⟨D3, hc4, h⟩ := bV_some h
  refine h_callVv (As := []) (rest := []) O hH (c_X3_startAnew hc4) ml_X11_247 ly_43 rfl rfl hl.1 rfl ⟨Nat.le_of_ble_eq_true rfl, Nat.le_of_ble_eq_true rfl⟩ (Nat.le_of_ble_eq_true rfl) dX11_begin_23 (fun H locs hH => ?_)
  refine lv_iload_n hx hb dX11_begin_26 rfl (lv_at hl 0 rfl) ?_
  obtain ⟨rfl, rfl⟩ := ret_i h
  exact h_iret O hr hlk hH dX11_begin_27
set_option maxHeartbeats 4000000 in
theorem c_X11_begin {l : Launch} {G : va_G} {tA : Nat → ClassId} {z : Nat} {E : Ex}  {D D' : Dm} {r : Int32} (h : f_X11_begin  D = some (r, D')) : CtI l yX11_begin cX11_begin 2 (some .int) G tA z E 2 0 0 [.ref (z + 0)] LAY D r LAY D' :=
  ct_BI (by decide +kernel) (Nat.le_of_ble_eq_true rfl) (fun _ _ _ _ _ _ _ _ O hr hlk => w_X11_begin O hr hlk  _ h)
set_option maxHeartbeats 4000000 in
theorem w_X11_step {G : va_G} {tA : Nat → ClassId} {z : Nat} {E : Ex} {p : Program} {l : Launch} {e : Env} {s : State} {m : MethodId} {args : Array Value} {below : List Frame} {meth : Method} {c : Code} {r : Int32} {D' : Dm} (O : Ok G tA z E cX11_step RX11 1 p s m args c) (hr : meth.sig.returnType = some .int) (hlk : meth.locks = false)  (D : Dm) (h : f_X11_step  D = some (r, D')) : BI G tA z E p l e (rmC 7 0 0) s m args below meth c LAY D r D' 1 0 [(0, .ref (z + 0))] [] := by
  obtain ⟨hx, hb, -, hown, hts, -⟩ := id O
  unfold f_X11_step at h
  intro H locs ls hH hl
  refine lv_aload_n hx hb dX11_step_0 rfl (lv_at hl 0 rfl) ?_
  refine h_getr O hH ly_0 rfl fl_X11_52 dX11_step_1 ?_
  obtain ⟨D1, hc2, h⟩ := bV_some h
  refine h_callVv (As := []) (rest := []) O hH (c_X3_decide hc2) ml_X11_250 ly_43 rfl rfl hl.1 rfl ⟨Nat.le_of_ble_eq_true rfl, Nat.le_of_ble_eq_true rfl⟩ (Nat.le_of_ble_eq_true rfl) dX11_step_4 (fun H locs hH => ?_)
  refine lv_aload_n hx hb dX11_step_7 rfl (lv_at hl 0 rfl) ?_
  refine h_getr O hH ly_0 rfl fl_X11_52 dX11_step_8 ?_
  obtain ⟨y5, D3, hc4, h⟩ := bI_some h
  refine h_callVi (As := []) (rest := []) O hH (c_X3_makeStep hc4) ml_X11_253 ly_43 rfl rfl hl.1 rfl ⟨Nat.le_of_ble_eq_true rfl, Nat.le_of_ble_eq_true rfl⟩ (Nat.le_of_ble_eq_true rfl) dX11_step_11 (fun H locs hH => ?_)
  obtain ⟨rfl, rfl⟩ := ret_i h
  exact h_iret O hr hlk hH dX11_step_14
set_option maxHeartbeats 4000000 in
theorem c_X11_step {l : Launch} {G : va_G} {tA : Nat → ClassId} {z : Nat} {E : Ex}  {D D' : Dm} {r : Int32} (h : f_X11_step  D = some (r, D')) : CtI l yX11_step cX11_step 1 (some .int) G tA z E 7 0 0 [.ref (z + 0)] LAY D r LAY D' :=
  ct_BI (by decide +kernel) (Nat.le_of_ble_eq_true rfl) (fun _ _ _ _ _ _ _ _ O hr hlk => w_X11_step O hr hlk  _ h)
set_option maxHeartbeats 4000000 in
theorem w_X11_learn_4_b {G : va_G} {tA : Nat → ClassId} {z : Nat} {E : Ex} {p : Program} {l : Launch} {e : Env} {s : State} {m : MethodId} {args : Array Value} {below : List Frame} {meth : Method} {c : Code} {r : Int32} {D' : Dm} (O : Ok G tA z E cX11_learn RX11 4 p s m args c) (hr : meth.sig.returnType = some .int) (hlk : meth.locks = false) {k4 : Int32 → Int32 → Dm → Option (Int32 × Dm)} (hk4 : ∀ (x1 : Int32) (x2 : Int32) (D : Dm), k4 x1 x2 D = some (r, D') → BI G tA z E p l e (rmC 7 0 0) s m args below meth c LAY D r D' 4 4 [(0, .ref (z + 0)), (1, .int x1), (2, .int x2)] []) (x1 : Int32) (x2 : Int32) (D : Dm) (h : f_X11_learn_4_b k4 x1 x2 D = some (r, D')) : BI G tA z E p l e (rmC 7 0 0) s m args below meth c LAY D r D' 4 4 [(0, .ref (z + 0)), (1, .int x1), (2, .int x2)] [] := by
  obtain ⟨hx, hb, -, hown, hts, -⟩ := id O
  unfold f_X11_learn_4_b at h
  intro H locs ls hH hl
  refine lv_iload_n hx hb dX11_learn_4 rfl (lv_at hl 2 rfl) ?_
  refine lv_bipush (v := 40) hx hb dX11_learn_5 (by decide) ?_
  refine lv_icmp_ge (tgt := 48) hx hb dX11_learn_7 (by decide) (fun c1 => ?_) (fun c1 => ?_)
  · have h := it_pos h c1
    refine lv_iload_n hx hb dX11_learn_48 rfl (lv_at hl 1 rfl) ?_
    obtain ⟨rfl, rfl⟩ := ret_i h
    exact h_iret O hr hlk hH dX11_learn_49
  · have h := it_neg h c1
    refine lv_aload_n hx hb dX11_learn_10 rfl (lv_at hl 0 rfl) ?_
    refine h_getr O hH ly_0 rfl fl_X11_52 dX11_learn_11 ?_
    obtain ⟨D2, hc3, h⟩ := bV_some h
    refine h_callVv (As := []) (rest := []) O hH (c_X3_decide hc3) ml_X11_250 ly_43 rfl rfl hl.1 rfl ⟨Nat.le_of_ble_eq_true rfl, Nat.le_of_ble_eq_true rfl⟩ (Nat.le_of_ble_eq_true rfl) dX11_learn_14 (fun H locs hH => ?_)
    refine lv_aload_n hx hb dX11_learn_17 rfl (lv_at hl 0 rfl) ?_
    refine h_getr O hH ly_0 rfl fl_X11_52 dX11_learn_18 ?_
    obtain ⟨y6, D4, hc5, h⟩ := bI_some h
    refine h_callVi (As := []) (rest := []) O hH (c_X3_makeStep hc5) ml_X11_253 ly_43 rfl rfl hl.1 rfl ⟨Nat.le_of_ble_eq_true rfl, Nat.le_of_ble_eq_true rfl⟩ (Nat.le_of_ble_eq_true rfl) dX11_learn_21 (fun H locs hH => ?_)
    refine lv_istore_n (lv' := [(3, .int y6), (0, .ref (z + 0)), (1, .int x1), (2, .int x2)]) hx hb dX11_learn_24 rfl hl (by decide) rfl (fun ls hl => ?_)
    refine lv_iload_n hx hb dX11_learn_25 rfl (lv_at hl 0 rfl) ?_
    refine lv_if_gt (tgt := 39) hx hb dX11_learn_26 (by decide) (fun c7 => ?_) (fun c7 => ?_)
    · have h := it_pos h c7
      obtain ⟨y8, e9, h⟩ := lt_some h
      refine lv_iinc (v := y8) (lv' := [(1, .int y8), (3, .int y6), (0, .ref (z + 0)), (2, .int x2)]) hx hb dX11_learn_39 hl (k := 2) rfl (by rw [e9]; rfl) (by decide) rfl (fun ls hl => ?_)
      obtain ⟨y10, e11, h⟩ := lt_some h
      refine lv_iinc (v := y10) (lv' := [(2, .int y10), (1, .int y8), (3, .int y6), (0, .ref (z + 0))]) hx hb dX11_learn_42 hl (k := 3) rfl (by rw [e11]; rfl) (by decide) rfl (fun ls hl => ?_)
      refine lv_goto (tgt := 4) hx hb dX11_learn_45 (by decide) ?_
      exact hk4 _ _ _ h _ _ _ hH (lv_sub hl [3, 1, 0] rfl)
    · have h := it_neg h c7
      refine lv_iload_n hx hb dX11_learn_29 rfl (lv_at hl 0 rfl) ?_
      refine lv_if_ne (tgt := 37) hx hb dX11_learn_30 (by decide) (fun c12 => ?_) (fun c12 => ?_)
      · have h := it_neg h c12
        refine lv_iload_n hx hb dX11_learn_37 rfl (lv_at hl 0 rfl) ?_
        obtain ⟨rfl, rfl⟩ := ret_i h
        exact h_iret O hr hlk hH dX11_learn_38
      · have h := it_pos h c12
        refine lv_iload_n hx hb dX11_learn_33 rfl (lv_at hl 2 rfl) ?_
        refine lv_goto (tgt := 38) hx hb dX11_learn_34 (by decide) ?_
        obtain ⟨rfl, rfl⟩ := ret_i h
        exact h_iret O hr hlk hH dX11_learn_38
set_option maxHeartbeats 4000000 in
theorem w_X11_learn_4 {G : va_G} {tA : Nat → ClassId} {z : Nat} {E : Ex} {p : Program} {l : Launch} {e : Env} {s : State} {m : MethodId} {args : Array Value} {below : List Frame} {meth : Method} {c : Code} {r : Int32} {D' : Dm} (O : Ok G tA z E cX11_learn RX11 4 p s m args c) (hr : meth.sig.returnType = some .int) (hlk : meth.locks = false) : ∀ (n : Nat) (x1 : Int32) (x2 : Int32) (D : Dm) (h : f_X11_learn_4 n x1 x2 D = some (r, D')), BI G tA z E p l e (rmC 7 0 0) s m args below meth c LAY D r D' 4 4 [(0, .ref (z + 0)), (1, .int x1), (2, .int x2)] [] := by
  intro n
  induction n with
  | zero => intro x1 x2 D h; exact no_some h
  | succ n ih => intro x1 x2 D h; exact w_X11_learn_4_b O hr hlk (fun x1 x2 D h => ih x1 x2 D h) x1 x2 D h
set_option maxHeartbeats 4000000 in
theorem w_X11_learn {G : va_G} {tA : Nat → ClassId} {z : Nat} {E : Ex} {p : Program} {l : Launch} {e : Env} {s : State} {m : MethodId} {args : Array Value} {below : List Frame} {meth : Method} {c : Code} {r : Int32} {D' : Dm} (O : Ok G tA z E cX11_learn RX11 4 p s m args c) (hr : meth.sig.returnType = some .int) (hlk : meth.locks = false)  (D : Dm) (h : f_X11_learn  D = some (r, D')) : BI G tA z E p l e (rmC 7 0 0) s m args below meth c LAY D r D' 4 0 [(0, .ref (z + 0))] [] := by
  obtain ⟨hx, hb, -, hown, hts, -⟩ := id O
  unfold f_X11_learn at h
  intro H locs ls hH hl
  refine lv_iconst (v := 0) hx hb dX11_learn_0 (by decide) ?_
  refine lv_istore_n (lv' := [(1, .int 0), (0, .ref (z + 0))]) hx hb dX11_learn_1 rfl hl (by decide) rfl (fun ls hl => ?_)
  refine lv_iconst (v := 0) hx hb dX11_learn_2 (by decide) ?_
  refine lv_istore_n (lv' := [(2, .int 0), (1, .int 0), (0, .ref (z + 0))]) hx hb dX11_learn_3 rfl hl (by decide) rfl (fun ls hl => ?_)
  exact w_X11_learn_4 O hr hlk FU _ _ _ h _ _ _ hH (lv_sub hl [2, 1, 0] rfl)
set_option maxHeartbeats 4000000 in
theorem c_X11_learn {l : Launch} {G : va_G} {tA : Nat → ClassId} {z : Nat} {E : Ex}  {D D' : Dm} {r : Int32} (h : f_X11_learn  D = some (r, D')) : CtI l yX11_learn cX11_learn 4 (some .int) G tA z E 7 0 0 [.ref (z + 0)] LAY D r LAY D' :=
  ct_BI (by decide +kernel) (Nat.le_of_ble_eq_true rfl) (fun _ _ _ _ _ _ _ _ O hr hlk => w_X11_learn O hr hlk  _ h)
set_option maxHeartbeats 4000000 in
theorem w_X11_brief {G : va_G} {tA : Nat → ClassId} {z : Nat} {E : Ex} {p : Program} {l : Launch} {e : Env} {s : State} {m : MethodId} {args : Array Value} {below : List Frame} {meth : Method} {c : Code} {r : Int32} {D' : Dm} (O : Ok G tA z E cX11_brief RX11 4 p s m args c) (hr : meth.sig.returnType = some .int) (hlk : meth.locks = false) (x1 : Int32) (x2 : Int32) (x3 : Int32) (D : Dm) (h : f_X11_brief x1 x2 x3 D = some (r, D')) : BI G tA z E p l e (rmC 3 0 0) s m args below meth c LAY D r D' 4 0 [(0, .ref (z + 0)), (1, .int x1), (2, .int x2), (3, .int x3)] [] := by
  obtain ⟨hx, hb, -, hown, hts, -⟩ := id O
  unfold f_X11_brief at h
  intro H locs ls hH hl
  refine lv_aload_n hx hb dX11_brief_0 rfl (lv_at hl 0 rfl) ?_
  refine h_getr O hH ly_0 rfl fl_X11_52 dX11_brief_1 ?_
  refine lv_iload_n hx hb dX11_brief_4 rfl (lv_at hl 1 rfl) ?_
  obtain ⟨y3, D1, hc2, h⟩ := bI_some h
  refine h_callVi (As := [.int x1]) (rest := []) O hH (c_X3_isShort hc2) ml_X11_221 ly_43 rfl rfl hl.1 rfl ⟨Nat.le_of_ble_eq_true rfl, Nat.le_of_ble_eq_true rfl⟩ (Nat.le_of_ble_eq_true rfl) dX11_brief_5 (fun H locs hH => ?_)
  refine lv_if_eq (tgt := 28) hx hb dX11_brief_8 (by decide) (fun c4 => ?_) (fun c4 => ?_)
  · have h := it_pos h c4
    refine lv_bipush (v := (-2)) hx hb dX11_brief_28 (by decide) ?_
    obtain ⟨rfl, rfl⟩ := ret_i h
    exact h_iret O hr hlk hH dX11_brief_30
  · have h := it_neg h c4
    refine lv_aload_n hx hb dX11_brief_11 rfl (lv_at hl 0 rfl) ?_
    refine h_getr O hH ly_0 rfl fl_X11_52 dX11_brief_12 ?_
    refine h_getr O hH ly_43 rfl fl_X11_256 dX11_brief_15 ?_
    refine lv_iload_n hx hb dX11_brief_18 rfl (lv_at hl 1 rfl) ?_
    obtain ⟨g5, h⟩ := gd_some h
    refine h_aald O hH ly_44 rfl g5 (ar_44_r g5) dX11_brief_19 ?_
    refine lv_iload_n hx hb dX11_brief_20 rfl (lv_at hl 2 rfl) ?_
    refine lv_iload_n hx hb dX11_brief_21 rfl (lv_at hl 3 rfl) ?_
    obtain ⟨y8, D6, hc7, h⟩ := bI_some h
    refine h_callSi (As := [.ref (z + (ar_44 (Int32.toNatClampNeg x1))), .int x2, .int x3]) (rest := []) O hH (c_X11_lengthOrLetterOf (ar_44_c g5) hc7) ml_X11_202 rfl hl.1 rfl ⟨Nat.le_of_ble_eq_true rfl, Nat.le_of_ble_eq_true rfl⟩ (Nat.le_of_ble_eq_true rfl) dX11_brief_22 (fun H locs hH => ?_)
    refine lv_goto (tgt := 30) hx hb dX11_brief_25 (by decide) ?_
    obtain ⟨rfl, rfl⟩ := ret_i h
    exact h_iret O hr hlk hH dX11_brief_30
set_option maxHeartbeats 4000000 in
theorem c_X11_brief {l : Launch} {G : va_G} {tA : Nat → ClassId} {z : Nat} {E : Ex} {x1 : Int32} {x2 : Int32} {x3 : Int32} {D D' : Dm} {r : Int32} (h : f_X11_brief x1 x2 x3 D = some (r, D')) : CtI l yX11_brief cX11_brief 4 (some .int) G tA z E 3 0 0 [.ref (z + 0), .int x1, .int x2, .int x3] LAY D r LAY D' :=
  ct_BI (by decide +kernel) (Nat.le_of_ble_eq_true rfl) (fun _ _ _ _ _ _ _ _ O hr hlk => w_X11_brief O hr hlk _ _ _ _ h)
set_option maxHeartbeats 4000000 in
theorem w_X11_test {G : va_G} {tA : Nat → ClassId} {z : Nat} {E : Ex} {p : Program} {l : Launch} {e : Env} {s : State} {m : MethodId} {args : Array Value} {below : List Frame} {meth : Method} {c : Code} {r : Int32} {D' : Dm} (O : Ok G tA z E cX11_test RX11 5 p s m args c) (hr : meth.sig.returnType = some .int) (hlk : meth.locks = false) (x1 : Int32) (x2 : Int32) (x3 : Int32) (D : Dm) (h : f_X11_test x1 x2 x3 D = some (r, D')) : BI G tA z E p l e (rmC 3 0 0) s m args below meth c LAY D r D' 5 0 [(0, .ref (z + 0)), (1, .int x1), (2, .int x2), (3, .int x3)] [] := by
  obtain ⟨hx, hb, -, hown, hts, -⟩ := id O
  unfold f_X11_test at h
  intro H locs ls hH hl
  refine lv_aload_n hx hb dX11_test_0 rfl (lv_at hl 0 rfl) ?_
  refine h_getr O hH ly_0 rfl fl_X11_52 dX11_test_1 ?_
  refine h_getr O hH ly_43 rfl fl_X11_238 dX11_test_4 ?_
  refine lv_astore (lv' := [(4, .ref (z + 76)), (0, .ref (z + 0)), (1, .int x1), (2, .int x2), (3, .int x3)]) hx hb dX11_test_7 hl (by decide) rfl (fun ls hl => ?_)
  refine lv_iload_n hx hb dX11_test_9 rfl (lv_at hl 2 rfl) ?_
  refine lv_if_lt (tgt := 37) hx hb dX11_test_10 (by decide) (fun c1 => ?_) (fun c1 => ?_)
  · have h := it_pos h c1
    refine lv_bipush (v := (-2)) hx hb dX11_test_37 (by decide) ?_
    obtain ⟨rfl, rfl⟩ := ret_i h
    exact h_iret O hr hlk hH dX11_test_39
  · have h := it_neg h c1
    refine lv_iload_n hx hb dX11_test_13 rfl (lv_at hl 2 rfl) ?_
    refine lv_aload hx hb dX11_test_14 (lv_at hl 0 rfl) ?_
    refine h_geti O hH ly_76 rfl fl_X11_242 dX11_test_16 ?_
    refine lv_icmp_ge (tgt := 37) hx hb dX11_test_19 (by decide) (fun c2 => ?_) (fun c2 => ?_)
    · have h := it_pos h c2
      refine lv_bipush (v := (-2)) hx hb dX11_test_37 (by decide) ?_
      obtain ⟨rfl, rfl⟩ := ret_i h
      exact h_iret O hr hlk hH dX11_test_39
    · have h := it_neg h c2
      refine lv_aload hx hb dX11_test_22 (lv_at hl 0 rfl) ?_
      refine h_getr O hH ly_76 rfl fl_X11_260 dX11_test_24 ?_
      refine lv_iload_n hx hb dX11_test_27 rfl (lv_at hl 2 rfl) ?_
      obtain ⟨g3, h⟩ := gd_some h
      refine h_aald O hH ly_77 rfl g3 (ar_77_r g3) dX11_test_28 ?_
      refine lv_iload_n hx hb dX11_test_29 rfl (lv_at hl 3 rfl) ?_
      refine lv_iload_n hx hb dX11_test_30 rfl (lv_at hl 4 rfl) ?_
      obtain ⟨y6, D4, hc5, h⟩ := bI_some h
      refine h_callSi (As := [.ref (z + (ar_77 (Int32.toNatClampNeg x1))), .int x2, .int x3]) (rest := []) O hH (c_X11_lengthOrLetterOf (ar_77_c g3) hc5) ml_X11_202 rfl hl.1 rfl ⟨Nat.le_of_ble_eq_true rfl, Nat.le_of_ble_eq_true rfl⟩ (Nat.le_of_ble_eq_true rfl) dX11_test_31 (fun H locs hH => ?_)
      refine lv_goto (tgt := 39) hx hb dX11_test_34 (by decide) ?_
      obtain ⟨rfl, rfl⟩ := ret_i h
      exact h_iret O hr hlk hH dX11_test_39
set_option maxHeartbeats 4000000 in
theorem c_X11_test {l : Launch} {G : va_G} {tA : Nat → ClassId} {z : Nat} {E : Ex} {x1 : Int32} {x2 : Int32} {x3 : Int32} {D D' : Dm} {r : Int32} (h : f_X11_test x1 x2 x3 D = some (r, D')) : CtI l yX11_test cX11_test 5 (some .int) G tA z E 3 0 0 [.ref (z + 0), .int x1, .int x2, .int x3] LAY D r LAY D' :=
  ct_BI (by decide +kernel) (Nat.le_of_ble_eq_true rfl) (fun _ _ _ _ _ _ _ _ O hr hlk => w_X11_test O hr hlk _ _ _ _ h)
set_option maxHeartbeats 4000000 in
theorem w_X11_registers {G : va_G} {tA : Nat → ClassId} {z : Nat} {E : Ex} {p : Program} {l : Launch} {e : Env} {s : State} {m : MethodId} {args : Array Value} {below : List Frame} {meth : Method} {c : Code} {r : Int32} {D' : Dm} (O : Ok G tA z E cX11_registers RX11 2 p s m args c) (hr : meth.sig.returnType = some .int) (hlk : meth.locks = false) (x1 : Int32) (D : Dm) (h : f_X11_registers x1 D = some (r, D')) : BI G tA z E p l e (rmC 6 0 0) s m args below meth c LAY D r D' 2 0 [(0, .ref (z + 0)), (1, .int x1)] [] := by
  obtain ⟨hx, hb, -, hown, hts, -⟩ := id O
  unfold f_X11_registers at h
  intro H locs ls hH hl
  refine lv_aload_n hx hb dX11_registers_0 rfl (lv_at hl 0 rfl) ?_
  refine h_getr O hH ly_0 rfl fl_X11_52 dX11_registers_1 ?_
  refine lv_iload_n hx hb dX11_registers_4 rfl (lv_at hl 1 rfl) ?_
  obtain ⟨y3, D1, hc2, h⟩ := bI_some h
  refine h_callVi (As := [.int x1]) (rest := []) O hH (c_X3_isShort hc2) ml_X11_221 ly_43 rfl rfl hl.1 rfl ⟨Nat.le_of_ble_eq_true rfl, Nat.le_of_ble_eq_true rfl⟩ (Nat.le_of_ble_eq_true rfl) dX11_registers_5 (fun H locs hH => ?_)
  refine lv_if_ne (tgt := 14) hx hb dX11_registers_8 (by decide) (fun c4 => ?_) (fun c4 => ?_)
  · have h := it_neg h c4
    refine lv_aload_n hx hb dX11_registers_14 rfl (lv_at hl 0 rfl) ?_
    refine h_getr O hH ly_0 rfl fl_X11_52 dX11_registers_15 ?_
    obtain ⟨D5, hc6, h⟩ := bV_some h
    refine h_callVv (As := []) (rest := []) O hH (c_X3_lookAtShortWords hc6) ml_X11_224 ly_43 rfl rfl hl.1 rfl ⟨Nat.le_of_ble_eq_true rfl, Nat.le_of_ble_eq_true rfl⟩ (Nat.le_of_ble_eq_true rfl) dX11_registers_18 (fun H locs hH => ?_)
    refine lv_aload_n hx hb dX11_registers_21 rfl (lv_at hl 0 rfl) ?_
    refine h_getr O hH ly_0 rfl fl_X11_52 dX11_registers_22 ?_
    refine h_getr O hH ly_43 rfl fl_X11_227 dX11_registers_25 ?_
    refine lv_iload_n hx hb dX11_registers_28 rfl (lv_at hl 1 rfl) ?_
    obtain ⟨g7, h⟩ := gd_some h
    refine h_aald O hH ly_45 rfl g7 (ar_45_r g7) dX11_registers_29 ?_
    obtain ⟨y10, D8, hc9, h⟩ := bI_some h
    refine h_callVi (As := []) (rest := []) O hH (c_X6_keptBits (ar_45_c g7) hc9) ml_X11_216 (ar_45_c g7).1 rfl rfl hl.1 rfl ⟨Nat.le_of_ble_eq_true rfl, Nat.le_of_ble_eq_true rfl⟩ (Nat.le_of_ble_eq_true rfl) dX11_registers_30 (fun H locs hH => ?_)
    obtain ⟨rfl, rfl⟩ := ret_i h
    exact h_iret O hr hlk hH dX11_registers_33
  · have h := it_pos h c4
    refine lv_bipush (v := (-2)) hx hb dX11_registers_11 (by decide) ?_
    obtain ⟨rfl, rfl⟩ := ret_i h
    exact h_iret O hr hlk hH dX11_registers_13
set_option maxHeartbeats 4000000 in
theorem c_X11_registers {l : Launch} {G : va_G} {tA : Nat → ClassId} {z : Nat} {E : Ex} {x1 : Int32} {D D' : Dm} {r : Int32} (h : f_X11_registers x1 D = some (r, D')) : CtI l yX11_registers cX11_registers 2 (some .int) G tA z E 6 0 0 [.ref (z + 0), .int x1] LAY D r LAY D' :=
  ct_BI (by decide +kernel) (Nat.le_of_ble_eq_true rfl) (fun _ _ _ _ _ _ _ _ O hr hlk => w_X11_registers O hr hlk _ _ h)
set_option maxHeartbeats 4000000 in
theorem w_X11_goes {G : va_G} {tA : Nat → ClassId} {z : Nat} {E : Ex} {p : Program} {l : Launch} {e : Env} {s : State} {m : MethodId} {args : Array Value} {below : List Frame} {meth : Method} {c : Code} {r : Int32} {D' : Dm} (O : Ok G tA z E cX11_goes RX11 4 p s m args c) (hr : meth.sig.returnType = some .int) (hlk : meth.locks = false) (x1 : Int32) (x2 : Int32) (x3 : Int32) (D : Dm) (h : f_X11_goes x1 x2 x3 D = some (r, D')) : BI G tA z E p l e (rmC 6 0 0) s m args below meth c LAY D r D' 4 0 [(0, .ref (z + 0)), (1, .int x1), (2, .int x2), (3, .int x3)] [] := by
  obtain ⟨hx, hb, -, hown, hts, -⟩ := id O
  unfold f_X11_goes at h
  intro H locs ls hH hl
  refine lv_aload_n hx hb dX11_goes_0 rfl (lv_at hl 0 rfl) ?_
  refine h_getr O hH ly_0 rfl fl_X11_52 dX11_goes_1 ?_
  refine lv_iload_n hx hb dX11_goes_4 rfl (lv_at hl 1 rfl) ?_
  obtain ⟨y3, D1, hc2, h⟩ := bI_some h
  refine h_callVi (As := [.int x1]) (rest := []) O hH (c_X3_isShort hc2) ml_X11_221 ly_43 rfl rfl hl.1 rfl ⟨Nat.le_of_ble_eq_true rfl, Nat.le_of_ble_eq_true rfl⟩ (Nat.le_of_ble_eq_true rfl) dX11_goes_5 (fun H locs hH => ?_)
  refine lv_if_eq (tgt := 28) hx hb dX11_goes_8 (by decide) (fun c4 => ?_) (fun c4 => ?_)
  · have h := it_pos h c4
    refine lv_bipush (v := (-2)) hx hb dX11_goes_28 (by decide) ?_
    obtain ⟨rfl, rfl⟩ := ret_i h
    exact h_iret O hr hlk hH dX11_goes_30
  · have h := it_neg h c4
    refine lv_iload_n hx hb dX11_goes_11 rfl (lv_at hl 2 rfl) ?_
    refine lv_if_lt (tgt := 28) hx hb dX11_goes_12 (by decide) (fun c5 => ?_) (fun c5 => ?_)
    · have h := it_pos h c5
      refine lv_bipush (v := (-2)) hx hb dX11_goes_28 (by decide) ?_
      obtain ⟨rfl, rfl⟩ := ret_i h
      exact h_iret O hr hlk hH dX11_goes_30
    · have h := it_neg h c5
      refine lv_iload_n hx hb dX11_goes_15 rfl (lv_at hl 2 rfl) ?_
      refine lv_aload_n hx hb dX11_goes_16 rfl (lv_at hl 0 rfl) ?_
      refine h_getr O hH ly_0 rfl fl_X11_25 dX11_goes_17 ?_
      refine lv_iconst (v := 0) hx hb dX11_goes_20 (by decide) ?_
      refine h_aald (q := 9) O hH ly_8 rfl (by decide) (by decide) dX11_goes_21 ?_
      refine h_geti O hH ly_9 rfl fl_X11_152 dX11_goes_22 ?_
      refine lv_icmp_lt (tgt := 31) hx hb dX11_goes_25 (by decide) (fun c7 => ?_) (fun c7 => ?_)
      · have h := it_pos h c7
        refine lv_iload_n hx hb dX11_goes_31 rfl (lv_at hl 3 rfl) ?_
        refine lv_if_lt (tgt := 51) hx hb dX11_goes_32 (by decide) (fun c8 => ?_) (fun c8 => ?_)
        · have h := it_pos h c8
          refine lv_bipush (v := (-3)) hx hb dX11_goes_51 (by decide) ?_
          obtain ⟨rfl, rfl⟩ := ret_i h
          exact h_iret O hr hlk hH dX11_goes_53
        · have h := it_neg h c8
          refine lv_iload_n hx hb dX11_goes_35 rfl (lv_at hl 3 rfl) ?_
          refine lv_aload_n hx hb dX11_goes_36 rfl (lv_at hl 0 rfl) ?_
          refine h_getr O hH ly_0 rfl fl_X11_52 dX11_goes_37 ?_
          refine h_getr O hH ly_43 rfl fl_X11_256 dX11_goes_40 ?_
          refine lv_iload_n hx hb dX11_goes_43 rfl (lv_at hl 1 rfl) ?_
          obtain ⟨g9, h⟩ := gd_some h
          refine h_aald O hH ly_44 rfl g9 (ar_44_r g9) dX11_goes_44 ?_
          refine h_geti O hH (ar_44_c g9).1 rfl fl_X11_263 dX11_goes_45 ?_
          refine lv_icmp_le (tgt := 54) hx hb dX11_goes_48 (by decide) (fun c10 => ?_) (fun c10 => ?_)
          · have h := it_pos h c10
            refine lv_aload_n hx hb dX11_goes_54 rfl (lv_at hl 0 rfl) ?_
            refine h_getr O hH ly_0 rfl fl_X11_52 dX11_goes_55 ?_
            obtain ⟨D11, hc12, h⟩ := bV_some h
            refine h_callVv (As := []) (rest := []) O hH (c_X3_lookAtShortWords hc12) ml_X11_224 ly_43 rfl rfl hl.1 rfl ⟨Nat.le_of_ble_eq_true rfl, Nat.le_of_ble_eq_true rfl⟩ (Nat.le_of_ble_eq_true rfl) dX11_goes_58 (fun H locs hH => ?_)
            refine lv_aload_n hx hb dX11_goes_61 rfl (lv_at hl 0 rfl) ?_
            refine h_getr O hH ly_0 rfl fl_X11_52 dX11_goes_62 ?_
            refine lv_iload_n hx hb dX11_goes_65 rfl (lv_at hl 1 rfl) ?_
            refine lv_iload_n hx hb dX11_goes_66 rfl (lv_at hl 2 rfl) ?_
            refine lv_iload_n hx hb dX11_goes_67 rfl (lv_at hl 3 rfl) ?_
            obtain ⟨D13, hc14, h⟩ := bV_some h
            refine h_callVv (As := [.int x1, .int x2, .int x3]) (rest := []) O hH (c_X3_lookAtLonger hc14) ml_X11_266 ly_43 rfl rfl hl.1 rfl ⟨Nat.le_of_ble_eq_true rfl, Nat.le_of_ble_eq_true rfl⟩ (Nat.le_of_ble_eq_true rfl) dX11_goes_68 (fun H locs hH => ?_)
            refine lv_aload_n hx hb dX11_goes_71 rfl (lv_at hl 0 rfl) ?_
            refine h_getr O hH ly_0 rfl fl_X11_52 dX11_goes_72 ?_
            obtain ⟨y17, D15, hc16, h⟩ := bI_some h
            refine h_callVi (As := []) (rest := []) O hH (c_X3_firstAlike hc16) ml_X11_270 ly_43 rfl rfl hl.1 rfl ⟨Nat.le_of_ble_eq_true rfl, Nat.le_of_ble_eq_true rfl⟩ (Nat.le_of_ble_eq_true rfl) dX11_goes_75 (fun H locs hH => ?_)
            obtain ⟨rfl, rfl⟩ := ret_i h
            exact h_iret O hr hlk hH dX11_goes_78
          · have h := it_neg h c10
            refine lv_bipush (v := (-3)) hx hb dX11_goes_51 (by decide) ?_
            obtain ⟨rfl, rfl⟩ := ret_i h
            exact h_iret O hr hlk hH dX11_goes_53
      · have h := it_neg h c7
        refine lv_bipush (v := (-2)) hx hb dX11_goes_28 (by decide) ?_
        obtain ⟨rfl, rfl⟩ := ret_i h
        exact h_iret O hr hlk hH dX11_goes_30
set_option maxHeartbeats 4000000 in
theorem c_X11_goes {l : Launch} {G : va_G} {tA : Nat → ClassId} {z : Nat} {E : Ex} {x1 : Int32} {x2 : Int32} {x3 : Int32} {D D' : Dm} {r : Int32} (h : f_X11_goes x1 x2 x3 D = some (r, D')) : CtI l yX11_goes cX11_goes 4 (some .int) G tA z E 6 0 0 [.ref (z + 0), .int x1, .int x2, .int x3] LAY D r LAY D' :=
  ct_BI (by decide +kernel) (Nat.le_of_ble_eq_true rfl) (fun _ _ _ _ _ _ _ _ O hr hlk => w_X11_goes O hr hlk _ _ _ _ h)
set_option maxHeartbeats 4000000 in
theorem w_X11_stands {G : va_G} {tA : Nat → ClassId} {z : Nat} {E : Ex} {p : Program} {l : Launch} {e : Env} {s : State} {m : MethodId} {args : Array Value} {below : List Frame} {meth : Method} {c : Code} {r : Int32} {D' : Dm} (O : Ok G tA z E cX11_stands RX11 1 p s m args c) (hr : meth.sig.returnType = some .int) (hlk : meth.locks = false)  (D : Dm) (h : f_X11_stands  D = some (r, D')) : BI G tA z E p l e (rmC 7 0 0) s m args below meth c LAY D r D' 1 0 [(0, .ref (z + 0))] [] := by
  obtain ⟨hx, hb, -, hown, hts, -⟩ := id O
  unfold f_X11_stands at h
  intro H locs ls hH hl
  refine lv_aload_n hx hb dX11_stands_0 rfl (lv_at hl 0 rfl) ?_
  refine h_getr O hH ly_0 rfl fl_X11_52 dX11_stands_1 ?_
  obtain ⟨D1, hc2, h⟩ := bV_some h
  refine h_callVv (As := []) (rest := []) O hH (c_X3_decide hc2) ml_X11_250 ly_43 rfl rfl hl.1 rfl ⟨Nat.le_of_ble_eq_true rfl, Nat.le_of_ble_eq_true rfl⟩ (Nat.le_of_ble_eq_true rfl) dX11_stands_4 (fun H locs hH => ?_)
  refine lv_aload_n hx hb dX11_stands_7 rfl (lv_at hl 0 rfl) ?_
  refine h_getr O hH ly_0 rfl fl_X11_52 dX11_stands_8 ?_
  obtain ⟨y5, D3, hc4, h⟩ := bI_some h
  refine h_callVi (As := []) (rest := []) O hH (c_X3_isStanding hc4) ml_X11_273 ly_43 rfl rfl hl.1 rfl ⟨Nat.le_of_ble_eq_true rfl, Nat.le_of_ble_eq_true rfl⟩ (Nat.le_of_ble_eq_true rfl) dX11_stands_11 (fun H locs hH => ?_)
  refine lv_if_ne (tgt := 19) hx hb dX11_stands_14 (by decide) (fun c6 => ?_) (fun c6 => ?_)
  · have h := it_neg h c6
    refine lv_aload_n hx hb dX11_stands_19 rfl (lv_at hl 0 rfl) ?_
    refine h_getr O hH ly_0 rfl fl_X11_52 dX11_stands_20 ?_
    refine h_geti O hH ly_43 rfl fl_X11_276 dX11_stands_23 ?_
    refine lv_iconst (v := 3) hx hb dX11_stands_26 (by decide) ?_
    refine lv_icmp_ne (tgt := 34) hx hb dX11_stands_27 (by decide) (fun c7 => ?_) (fun c7 => ?_)
    · have h := it_neg h c7
      refine lv_iconst (v := 2) hx hb dX11_stands_34 (by decide) ?_
      obtain ⟨rfl, rfl⟩ := ret_i h
      exact h_iret O hr hlk hH dX11_stands_35
    · have h := it_pos h c7
      refine lv_iconst (v := 1) hx hb dX11_stands_30 (by decide) ?_
      refine lv_goto (tgt := 35) hx hb dX11_stands_31 (by decide) ?_
      obtain ⟨rfl, rfl⟩ := ret_i h
      exact h_iret O hr hlk hH dX11_stands_35
  · have h := it_pos h c6
    refine lv_iconst (v := 0) hx hb dX11_stands_17 (by decide) ?_
    obtain ⟨rfl, rfl⟩ := ret_i h
    exact h_iret O hr hlk hH dX11_stands_18
set_option maxHeartbeats 4000000 in
theorem c_X11_stands {l : Launch} {G : va_G} {tA : Nat → ClassId} {z : Nat} {E : Ex}  {D D' : Dm} {r : Int32} (h : f_X11_stands  D = some (r, D')) : CtI l yX11_stands cX11_stands 1 (some .int) G tA z E 7 0 0 [.ref (z + 0)] LAY D r LAY D' :=
  ct_BI (by decide +kernel) (Nat.le_of_ble_eq_true rfl) (fun _ _ _ _ _ _ _ _ O hr hlk => w_X11_stands O hr hlk  _ h)
set_option maxHeartbeats 4000000 in
theorem w_X11_guess {G : va_G} {tA : Nat → ClassId} {z : Nat} {E : Ex} {p : Program} {l : Launch} {e : Env} {s : State} {m : MethodId} {args : Array Value} {below : List Frame} {meth : Method} {c : Code} {r : Int32} {D' : Dm} (O : Ok G tA z E cX11_guess RX11 1 p s m args c) (hr : meth.sig.returnType = some .int) (hlk : meth.locks = false)  (D : Dm) (h : f_X11_guess  D = some (r, D')) : BI G tA z E p l e (rmC 7 0 0) s m args below meth c LAY D r D' 1 0 [(0, .ref (z + 0))] [] := by
  obtain ⟨hx, hb, -, hown, hts, -⟩ := id O
  unfold f_X11_guess at h
  intro H locs ls hH hl
  refine lv_aload_n hx hb dX11_guess_0 rfl (lv_at hl 0 rfl) ?_
  refine h_getr O hH ly_0 rfl fl_X11_52 dX11_guess_1 ?_
  obtain ⟨D1, hc2, h⟩ := bV_some h
  refine h_callVv (As := []) (rest := []) O hH (c_X3_decide hc2) ml_X11_250 ly_43 rfl rfl hl.1 rfl ⟨Nat.le_of_ble_eq_true rfl, Nat.le_of_ble_eq_true rfl⟩ (Nat.le_of_ble_eq_true rfl) dX11_guess_4 (fun H locs hH => ?_)
  refine lv_aload_n hx hb dX11_guess_7 rfl (lv_at hl 0 rfl) ?_
  refine h_getr O hH ly_0 rfl fl_X11_52 dX11_guess_8 ?_
  obtain ⟨y5, D3, hc4, h⟩ := bI_some h
  refine h_callVi (As := []) (rest := []) O hH (c_X3_isStanding hc4) ml_X11_273 ly_43 rfl rfl hl.1 rfl ⟨Nat.le_of_ble_eq_true rfl, Nat.le_of_ble_eq_true rfl⟩ (Nat.le_of_ble_eq_true rfl) dX11_guess_11 (fun H locs hH => ?_)
  refine lv_if_ne (tgt := 20) hx hb dX11_guess_14 (by decide) (fun c6 => ?_) (fun c6 => ?_)
  · have h := it_neg h c6
    refine lv_aload_n hx hb dX11_guess_20 rfl (lv_at hl 0 rfl) ?_
    refine h_getr O hH ly_0 rfl fl_X11_52 dX11_guess_21 ?_
    refine h_getr O hH ly_43 rfl fl_X11_279 dX11_guess_24 ?_
    refine lv_aload_n hx hb dX11_guess_27 rfl (lv_at hl 0 rfl) ?_
    refine h_getr O hH ly_0 rfl fl_X11_62 dX11_guess_28 ?_
    refine lv_aload_n hx hb dX11_guess_31 rfl (lv_at hl 0 rfl) ?_
    refine h_getr O hH ly_0 rfl fl_X11_33 dX11_guess_32 ?_
    refine lv_aload_n hx hb dX11_guess_35 rfl (lv_at hl 0 rfl) ?_
    refine h_getr O hH ly_0 rfl fl_X11_33 dX11_guess_36 ?_
    refine h_geti O hH ly_17 rfl fl_X11_113 dX11_guess_39 ?_
    obtain ⟨D7, hc8, h⟩ := bV_some h
    refine h_callUv (As := [.ref (z + 266), .ref (z + 17), .int (D3 17 3)]) (rest := []) O hH (c_X9_walk_h ic_266 ic_17 hc8) mu_X11_283_2 ly_56 rfl rfl hl.1 rfl ⟨Nat.le_of_ble_eq_true rfl, Nat.le_of_ble_eq_true rfl⟩ (Nat.le_of_ble_eq_true rfl) dX11_guess_42 (fun H locs hH => ?_)
    refine lv_aload_n hx hb dX11_guess_45 rfl (lv_at hl 0 rfl) ?_
    refine h_getr O hH ly_0 rfl fl_X11_52 dX11_guess_46 ?_
    refine h_getr O hH ly_43 rfl fl_X11_279 dX11_guess_49 ?_
    refine lv_aload_n hx hb dX11_guess_52 rfl (lv_at hl 0 rfl) ?_
    refine h_getr O hH ly_0 rfl fl_X11_62 dX11_guess_53 ?_
    obtain ⟨y11, D9, hc10, h⟩ := bI_some h
    refine h_callVi (As := [.ref (z + 266)]) (rest := []) O hH (c_X2_takes ic_266 hc10) ml_X11_286 ly_56 rfl rfl hl.1 rfl ⟨Nat.le_of_ble_eq_true rfl, Nat.le_of_ble_eq_true rfl⟩ (Nat.le_of_ble_eq_true rfl) dX11_guess_56 (fun H locs hH => ?_)
    refine lv_if_eq (tgt := 66) hx hb dX11_guess_59 (by decide) (fun c12 => ?_) (fun c12 => ?_)
    · have h := it_pos h c12
      refine lv_iconst (v := 0) hx hb dX11_guess_66 (by decide) ?_
      obtain ⟨rfl, rfl⟩ := ret_i h
      exact h_iret O hr hlk hH dX11_guess_67
    · have h := it_neg h c12
      refine lv_iconst (v := 1) hx hb dX11_guess_62 (by decide) ?_
      refine lv_goto (tgt := 67) hx hb dX11_guess_63 (by decide) ?_
      obtain ⟨rfl, rfl⟩ := ret_i h
      exact h_iret O hr hlk hH dX11_guess_67
  · have h := it_pos h c6
    refine lv_bipush (v := (-5)) hx hb dX11_guess_17 (by decide) ?_
    obtain ⟨rfl, rfl⟩ := ret_i h
    exact h_iret O hr hlk hH dX11_guess_19
set_option maxHeartbeats 4000000 in
theorem c_X11_guess {l : Launch} {G : va_G} {tA : Nat → ClassId} {z : Nat} {E : Ex}  {D D' : Dm} {r : Int32} (h : f_X11_guess  D = some (r, D')) : CtI l yX11_guess cX11_guess 1 (some .int) G tA z E 7 0 0 [.ref (z + 0)] LAY D r LAY D' :=
  ct_BI (by decide +kernel) (Nat.le_of_ble_eq_true rfl) (fun _ _ _ _ _ _ _ _ O hr hlk => w_X11_guess O hr hlk  _ h)
set_option maxHeartbeats 4000000 in
theorem w_X11_guessed {G : va_G} {tA : Nat → ClassId} {z : Nat} {E : Ex} {p : Program} {l : Launch} {e : Env} {s : State} {m : MethodId} {args : Array Value} {below : List Frame} {meth : Method} {c : Code} {r : Int32} {D' : Dm} (O : Ok G tA z E cX11_guessed RX11 3 p s m args c) (hr : meth.sig.returnType = some .int) (hlk : meth.locks = false) (x1 : Int32) (x2 : Int32) (D : Dm) (h : f_X11_guessed x1 x2 D = some (r, D')) : BI G tA z E p l e (rmC 7 0 0) s m args below meth c LAY D r D' 3 0 [(0, .ref (z + 0)), (1, .int x1), (2, .int x2)] [] := by
  obtain ⟨hx, hb, -, hown, hts, -⟩ := id O
  unfold f_X11_guessed at h
  intro H locs ls hH hl
  refine lv_iload_n hx hb dX11_guessed_0 rfl (lv_at hl 1 rfl) ?_
  refine lv_if_lt (tgt := 15) hx hb dX11_guessed_1 (by decide) (fun c1 => ?_) (fun c1 => ?_)
  · have h := it_pos h c1
    refine lv_bipush (v := (-3)) hx hb dX11_guessed_15 (by decide) ?_
    obtain ⟨rfl, rfl⟩ := ret_i h
    exact h_iret O hr hlk hH dX11_guessed_17
  · have h := it_neg h c1
    refine lv_iload_n hx hb dX11_guessed_4 rfl (lv_at hl 1 rfl) ?_
    refine lv_aload_n hx hb dX11_guessed_5 rfl (lv_at hl 0 rfl) ?_
    refine h_getr O hH ly_0 rfl fl_X11_33 dX11_guessed_6 ?_
    refine h_geti O hH ly_17 rfl fl_X11_113 dX11_guessed_9 ?_
    refine lv_icmp_le (tgt := 18) hx hb dX11_guessed_12 (by decide) (fun c2 => ?_) (fun c2 => ?_)
    · have h := it_pos h c2
      refine lv_iload_n hx hb dX11_guessed_18 rfl (lv_at hl 2 rfl) ?_
      refine lv_if_lt (tgt := 27) hx hb dX11_guessed_19 (by decide) (fun c3 => ?_) (fun c3 => ?_)
      · have h := it_pos h c3
        refine lv_bipush (v := (-2)) hx hb dX11_guessed_27 (by decide) ?_
        obtain ⟨rfl, rfl⟩ := ret_i h
        exact h_iret O hr hlk hH dX11_guessed_29
      · have h := it_neg h c3
        refine lv_iload_n hx hb dX11_guessed_22 rfl (lv_at hl 2 rfl) ?_
        refine lv_iconst (v := 2) hx hb dX11_guessed_23 (by decide) ?_
        refine lv_icmp_le (tgt := 30) hx hb dX11_guessed_24 (by decide) (fun c4 => ?_) (fun c4 => ?_)
        · have h := it_pos h c4
          refine lv_aload_n hx hb dX11_guessed_30 rfl (lv_at hl 0 rfl) ?_
          refine h_getr O hH ly_0 rfl fl_X11_52 dX11_guessed_31 ?_
          obtain ⟨D5, hc6, h⟩ := bV_some h
          refine h_callVv (As := []) (rest := []) O hH (c_X3_decide hc6) ml_X11_250 ly_43 rfl rfl hl.1 rfl ⟨Nat.le_of_ble_eq_true rfl, Nat.le_of_ble_eq_true rfl⟩ (Nat.le_of_ble_eq_true rfl) dX11_guessed_34 (fun H locs hH => ?_)
          refine lv_aload_n hx hb dX11_guessed_37 rfl (lv_at hl 0 rfl) ?_
          refine h_getr O hH ly_0 rfl fl_X11_52 dX11_guessed_38 ?_
          obtain ⟨y9, D7, hc8, h⟩ := bI_some h
          refine h_callVi (As := []) (rest := []) O hH (c_X3_isStanding hc8) ml_X11_273 ly_43 rfl rfl hl.1 rfl ⟨Nat.le_of_ble_eq_true rfl, Nat.le_of_ble_eq_true rfl⟩ (Nat.le_of_ble_eq_true rfl) dX11_guessed_41 (fun H locs hH => ?_)
          refine lv_if_ne (tgt := 50) hx hb dX11_guessed_44 (by decide) (fun c10 => ?_) (fun c10 => ?_)
          · have h := it_neg h c10
            refine lv_aload_n hx hb dX11_guessed_50 rfl (lv_at hl 0 rfl) ?_
            refine h_getr O hH ly_0 rfl fl_X11_52 dX11_guessed_51 ?_
            refine h_getr O hH ly_43 rfl fl_X11_279 dX11_guessed_54 ?_
            refine lv_aload_n hx hb dX11_guessed_57 rfl (lv_at hl 0 rfl) ?_
            refine h_getr O hH ly_0 rfl fl_X11_62 dX11_guessed_58 ?_
            refine lv_aload_n hx hb dX11_guessed_61 rfl (lv_at hl 0 rfl) ?_
            refine h_getr O hH ly_0 rfl fl_X11_33 dX11_guessed_62 ?_
            refine lv_iload_n hx hb dX11_guessed_65 rfl (lv_at hl 1 rfl) ?_
            obtain ⟨D11, hc12, h⟩ := bV_some h
            refine h_callUv (As := [.ref (z + 266), .ref (z + 17), .int x1]) (rest := []) O hH (c_X9_walk_h ic_266 ic_17 hc12) mu_X11_283_2 ly_56 rfl rfl hl.1 rfl ⟨Nat.le_of_ble_eq_true rfl, Nat.le_of_ble_eq_true rfl⟩ (Nat.le_of_ble_eq_true rfl) dX11_guessed_66 (fun H locs hH => ?_)
            refine lv_aload_n hx hb dX11_guessed_69 rfl (lv_at hl 0 rfl) ?_
            refine h_getr O hH ly_0 rfl fl_X11_62 dX11_guessed_70 ?_
            refine lv_iload_n hx hb dX11_guessed_73 rfl (lv_at hl 2 rfl) ?_
            obtain ⟨y15, D13, hc14, h⟩ := bI_some h
            refine h_callVi (As := [.int x2]) (rest := []) O hH (c_X1_told ic_266 hc14) ml_X11_163 ly_266 rfl rfl hl.1 rfl ⟨Nat.le_of_ble_eq_true rfl, Nat.le_of_ble_eq_true rfl⟩ (Nat.le_of_ble_eq_true rfl) dX11_guessed_74 (fun H locs hH => ?_)
            obtain ⟨rfl, rfl⟩ := ret_i h
            exact h_iret O hr hlk hH dX11_guessed_77
          · have h := it_pos h c10
            refine lv_bipush (v := (-5)) hx hb dX11_guessed_47 (by decide) ?_
            obtain ⟨rfl, rfl⟩ := ret_i h
            exact h_iret O hr hlk hH dX11_guessed_49
        · have h := it_neg h c4
          refine lv_bipush (v := (-2)) hx hb dX11_guessed_27 (by decide) ?_
          obtain ⟨rfl, rfl⟩ := ret_i h
          exact h_iret O hr hlk hH dX11_guessed_29
    · have h := it_neg h c2
      refine lv_bipush (v := (-3)) hx hb dX11_guessed_15 (by decide) ?_
      obtain ⟨rfl, rfl⟩ := ret_i h
      exact h_iret O hr hlk hH dX11_guessed_17
set_option maxHeartbeats 4000000 in
theorem c_X11_guessed {l : Launch} {G : va_G} {tA : Nat → ClassId} {z : Nat} {E : Ex} {x1 : Int32} {x2 : Int32} {D D' : Dm} {r : Int32} (h : f_X11_guessed x1 x2 D = some (r, D')) : CtI l yX11_guessed cX11_guessed 3 (some .int) G tA z E 7 0 0 [.ref (z + 0), .int x1, .int x2] LAY D r LAY D' :=
  ct_BI (by decide +kernel) (Nat.le_of_ble_eq_true rfl) (fun _ _ _ _ _ _ _ _ O hr hlk => w_X11_guessed O hr hlk _ _ _ h)
set_option maxHeartbeats 4000000 in
theorem w_X11_refutes_41 {G : va_G} {tA : Nat → ClassId} {z : Nat} {E : Ex} {p : Program} {l : Launch} {e : Env} {s : State} {m : MethodId} {args : Array Value} {below : List Frame} {meth : Method} {c : Code} {r : Int32} {D' : Dm} (O : Ok G tA z E cX11_refutes RX11 3 p s m args c) (hr : meth.sig.returnType = some .int) (hlk : meth.locks = false) (x1 : Int32) (x2 : Int32) (D : Dm) (h : f_X11_refutes_41 x1 x2 D = some (r, D')) : BI G tA z E p l e (rmC 7 0 0) s m args below meth c LAY D r D' 3 41 [(0, .ref (z + 0)), (1, .int x1), (2, .int x2)] [] := by
  obtain ⟨hx, hb, -, hown, hts, -⟩ := id O
  unfold f_X11_refutes_41 at h
  intro H locs ls hH hl
  refine lv_aload_n hx hb dX11_refutes_41 rfl (lv_at hl 0 rfl) ?_
  refine h_getr O hH ly_0 rfl fl_X11_52 dX11_refutes_42 ?_
  refine h_getr O hH ly_43 rfl fl_X11_287 dX11_refutes_45 ?_
  refine lv_iload_n hx hb dX11_refutes_48 rfl (lv_at hl 1 rfl) ?_
  refine lv_iload_n hx hb dX11_refutes_49 rfl (lv_at hl 2 rfl) ?_
  obtain ⟨y3, D1, hc2, h⟩ := bI_some h
  refine h_callSi (As := [.ref (z + 60), .int x1, .int x2]) (rest := []) O hH (c_X11_lengthOrLetterOf ic_60 hc2) ml_X11_202 rfl hl.1 rfl ⟨Nat.le_of_ble_eq_true rfl, Nat.le_of_ble_eq_true rfl⟩ (Nat.le_of_ble_eq_true rfl) dX11_refutes_50 (fun H locs hH => ?_)
  obtain ⟨rfl, rfl⟩ := ret_i h
  exact h_iret O hr hlk hH dX11_refutes_53
set_option maxHeartbeats 4000000 in
theorem w_X11_refutes {G : va_G} {tA : Nat → ClassId} {z : Nat} {E : Ex} {p : Program} {l : Launch} {e : Env} {s : State} {m : MethodId} {args : Array Value} {below : List Frame} {meth : Method} {c : Code} {r : Int32} {D' : Dm} (O : Ok G tA z E cX11_refutes RX11 3 p s m args c) (hr : meth.sig.returnType = some .int) (hlk : meth.locks = false) (x1 : Int32) (x2 : Int32) (D : Dm) (h : f_X11_refutes x1 x2 D = some (r, D')) : BI G tA z E p l e (rmC 7 0 0) s m args below meth c LAY D r D' 3 0 [(0, .ref (z + 0)), (1, .int x1), (2, .int x2)] [] := by
  obtain ⟨hx, hb, -, hown, hts, -⟩ := id O
  unfold f_X11_refutes at h
  intro H locs ls hH hl
  refine lv_aload_n hx hb dX11_refutes_0 rfl (lv_at hl 0 rfl) ?_
  refine h_getr O hH ly_0 rfl fl_X11_52 dX11_refutes_1 ?_
  obtain ⟨D1, hc2, h⟩ := bV_some h
  refine h_callVv (As := []) (rest := []) O hH (c_X3_decide hc2) ml_X11_250 ly_43 rfl rfl hl.1 rfl ⟨Nat.le_of_ble_eq_true rfl, Nat.le_of_ble_eq_true rfl⟩ (Nat.le_of_ble_eq_true rfl) dX11_refutes_4 (fun H locs hH => ?_)
  refine lv_aload_n hx hb dX11_refutes_7 rfl (lv_at hl 0 rfl) ?_
  refine h_getr O hH ly_0 rfl fl_X11_52 dX11_refutes_8 ?_
  obtain ⟨y5, D3, hc4, h⟩ := bI_some h
  refine h_callVi (As := []) (rest := []) O hH (c_X3_isStanding hc4) ml_X11_273 ly_43 rfl rfl hl.1 rfl ⟨Nat.le_of_ble_eq_true rfl, Nat.le_of_ble_eq_true rfl⟩ (Nat.le_of_ble_eq_true rfl) dX11_refutes_11 (fun H locs hH => ?_)
  refine lv_if_ne (tgt := 20) hx hb dX11_refutes_14 (by decide) (fun c6 => ?_) (fun c6 => ?_)
  · have h := it_neg h c6
    refine lv_iload_n hx hb dX11_refutes_20 rfl (lv_at hl 1 rfl) ?_
    refine lv_iconst (v := (-1)) hx hb dX11_refutes_21 (by decide) ?_
    refine lv_icmp_ne (tgt := 41) hx hb dX11_refutes_22 (by decide) (fun c7 => ?_) (fun c7 => ?_)
    · have h := it_neg h c7
      exact w_X11_refutes_41 O hr hlk _ _ _ h _ _ _ hH (lv_sub hl [0, 1, 2] rfl)
    · have h := it_pos h c7
      refine lv_iload_n hx hb dX11_refutes_25 rfl (lv_at hl 2 rfl) ?_
      refine lv_if_ne (tgt := 41) hx hb dX11_refutes_26 (by decide) (fun c8 => ?_) (fun c8 => ?_)
      · have h := it_neg h c8
        exact w_X11_refutes_41 O hr hlk _ _ _ h _ _ _ hH (lv_sub hl [0, 1, 2] rfl)
      · have h := it_pos h c8
        refine lv_aload_n hx hb dX11_refutes_29 rfl (lv_at hl 0 rfl) ?_
        refine h_getr O hH ly_0 rfl fl_X11_52 dX11_refutes_30 ?_
        refine h_geti O hH ly_43 rfl fl_X11_276 dX11_refutes_33 ?_
        refine lv_if_ne (tgt := 41) hx hb dX11_refutes_36 (by decide) (fun c9 => ?_) (fun c9 => ?_)
        · have h := it_neg h c9
          exact w_X11_refutes_41 O hr hlk _ _ _ h _ _ _ hH (lv_sub hl [0, 1, 2] rfl)
        · have h := it_pos h c9
          refine lv_iconst (v := (-1)) hx hb dX11_refutes_39 (by decide) ?_
          obtain ⟨rfl, rfl⟩ := ret_i h
          exact h_iret O hr hlk hH dX11_refutes_40
  · have h := it_pos h c6
    refine lv_bipush (v := (-5)) hx hb dX11_refutes_17 (by decide) ?_
    obtain ⟨rfl, rfl⟩ := ret_i h
    exact h_iret O hr hlk hH dX11_refutes_19
set_option maxHeartbeats 4000000 in
theorem c_X11_refutes {l : Launch} {G : va_G} {tA : Nat → ClassId} {z : Nat} {E : Ex} {x1 : Int32} {x2 : Int32} {D D' : Dm} {r : Int32} (h : f_X11_refutes x1 x2 D = some (r, D')) : CtI l yX11_refutes cX11_refutes 3 (some .int) G tA z E 7 0 0 [.ref (z + 0), .int x1, .int x2] LAY D r LAY D' :=
  ct_BI (by decide +kernel) (Nat.le_of_ble_eq_true rfl) (fun _ _ _ _ _ _ _ _ O hr hlk => w_X11_refutes O hr hlk _ _ _ h)
set_option maxHeartbeats 4000000 in
theorem w_X11_splits {G : va_G} {tA : Nat → ClassId} {z : Nat} {E : Ex} {p : Program} {l : Launch} {e : Env} {s : State} {m : MethodId} {args : Array Value} {below : List Frame} {meth : Method} {c : Code} {r : Int32} {D' : Dm} (O : Ok G tA z E cX11_splits RX11 1 p s m args c) (hr : meth.sig.returnType = some .int) (hlk : meth.locks = false)  (D : Dm) (h : f_X11_splits  D = some (r, D')) : BI G tA z E p l e (rmC 7 0 0) s m args below meth c LAY D r D' 1 0 [(0, .ref (z + 0))] [] := by
  obtain ⟨hx, hb, -, hown, hts, -⟩ := id O
  unfold f_X11_splits at h
  intro H locs ls hH hl
  refine lv_aload_n hx hb dX11_splits_0 rfl (lv_at hl 0 rfl) ?_
  refine h_getr O hH ly_0 rfl fl_X11_52 dX11_splits_1 ?_
  obtain ⟨D1, hc2, h⟩ := bV_some h
  refine h_callVv (As := []) (rest := []) O hH (c_X3_decide hc2) ml_X11_250 ly_43 rfl rfl hl.1 rfl ⟨Nat.le_of_ble_eq_true rfl, Nat.le_of_ble_eq_true rfl⟩ (Nat.le_of_ble_eq_true rfl) dX11_splits_4 (fun H locs hH => ?_)
  refine lv_aload_n hx hb dX11_splits_7 rfl (lv_at hl 0 rfl) ?_
  refine h_getr O hH ly_0 rfl fl_X11_52 dX11_splits_8 ?_
  obtain ⟨y5, D3, hc4, h⟩ := bI_some h
  refine h_callVi (As := []) (rest := []) O hH (c_X3_isStanding hc4) ml_X11_273 ly_43 rfl rfl hl.1 rfl ⟨Nat.le_of_ble_eq_true rfl, Nat.le_of_ble_eq_true rfl⟩ (Nat.le_of_ble_eq_true rfl) dX11_splits_11 (fun H locs hH => ?_)
  refine lv_if_eq (tgt := 27) hx hb dX11_splits_14 (by decide) (fun c6 => ?_) (fun c6 => ?_)
  · have h := it_pos h c6
    refine lv_bipush (v := (-5)) hx hb dX11_splits_27 (by decide) ?_
    obtain ⟨rfl, rfl⟩ := ret_i h
    exact h_iret O hr hlk hH dX11_splits_29
  · have h := it_neg h c6
    refine lv_aload_n hx hb dX11_splits_17 rfl (lv_at hl 0 rfl) ?_
    refine h_getr O hH ly_0 rfl fl_X11_52 dX11_splits_18 ?_
    refine h_geti O hH ly_43 rfl fl_X11_290 dX11_splits_21 ?_
    refine lv_goto (tgt := 29) hx hb dX11_splits_24 (by decide) ?_
    obtain ⟨rfl, rfl⟩ := ret_i h
    exact h_iret O hr hlk hH dX11_splits_29
set_option maxHeartbeats 4000000 in
theorem c_X11_splits {l : Launch} {G : va_G} {tA : Nat → ClassId} {z : Nat} {E : Ex}  {D D' : Dm} {r : Int32} (h : f_X11_splits  D = some (r, D')) : CtI l yX11_splits cX11_splits 1 (some .int) G tA z E 7 0 0 [.ref (z + 0)] LAY D r LAY D' :=
  ct_BI (by decide +kernel) (Nat.le_of_ble_eq_true rfl) (fun _ _ _ _ _ _ _ _ O hr hlk => w_X11_splits O hr hlk  _ h)
set_option maxHeartbeats 4000000 in
theorem w_X11_spare {G : va_G} {tA : Nat → ClassId} {z : Nat} {E : Ex} {p : Program} {l : Launch} {e : Env} {s : State} {m : MethodId} {args : Array Value} {below : List Frame} {meth : Method} {c : Code} {r : Int32} {D' : Dm} (O : Ok G tA z E cX11_spare RX11 1 p s m args c) (hr : meth.sig.returnType = some .int) (hlk : meth.locks = false)  (D : Dm) (h : f_X11_spare  D = some (r, D')) : BI G tA z E p l e (rmC 7 0 0) s m args below meth c LAY D r D' 1 0 [(0, .ref (z + 0))] [] := by
  obtain ⟨hx, hb, -, hown, hts, -⟩ := id O
  unfold f_X11_spare at h
  intro H locs ls hH hl
  refine lv_aload_n hx hb dX11_spare_0 rfl (lv_at hl 0 rfl) ?_
  refine h_getr O hH ly_0 rfl fl_X11_52 dX11_spare_1 ?_
  obtain ⟨D1, hc2, h⟩ := bV_some h
  refine h_callVv (As := []) (rest := []) O hH (c_X3_decide hc2) ml_X11_250 ly_43 rfl rfl hl.1 rfl ⟨Nat.le_of_ble_eq_true rfl, Nat.le_of_ble_eq_true rfl⟩ (Nat.le_of_ble_eq_true rfl) dX11_spare_4 (fun H locs hH => ?_)
  refine lv_aload_n hx hb dX11_spare_7 rfl (lv_at hl 0 rfl) ?_
  refine h_getr O hH ly_0 rfl fl_X11_52 dX11_spare_8 ?_
  obtain ⟨y5, D3, hc4, h⟩ := bI_some h
  refine h_callVi (As := []) (rest := []) O hH (c_X3_isStanding hc4) ml_X11_273 ly_43 rfl rfl hl.1 rfl ⟨Nat.le_of_ble_eq_true rfl, Nat.le_of_ble_eq_true rfl⟩ (Nat.le_of_ble_eq_true rfl) dX11_spare_11 (fun H locs hH => ?_)
  refine lv_if_eq (tgt := 37) hx hb dX11_spare_14 (by decide) (fun c6 => ?_) (fun c6 => ?_)
  · have h := it_pos h c6
    refine lv_bipush (v := (-5)) hx hb dX11_spare_37 (by decide) ?_
    obtain ⟨rfl, rfl⟩ := ret_i h
    exact h_iret O hr hlk hH dX11_spare_39
  · have h := it_neg h c6
    refine lv_aload_n hx hb dX11_spare_17 rfl (lv_at hl 0 rfl) ?_
    refine h_getr O hH ly_0 rfl fl_X11_25 dX11_spare_18 ?_
    refine lv_iconst (v := 0) hx hb dX11_spare_21 (by decide) ?_
    refine h_aald (q := 9) O hH ly_8 rfl (by decide) (by decide) dX11_spare_22 ?_
    refine h_geti O hH ly_9 rfl fl_X11_149 dX11_spare_23 ?_
    refine lv_aload_n hx hb dX11_spare_26 rfl (lv_at hl 0 rfl) ?_
    refine h_getr O hH ly_0 rfl fl_X11_52 dX11_spare_27 ?_
    obtain ⟨y10, D8, hc9, h⟩ := bI_some h
    refine h_callVi (As := []) (rest := [.int (D3 9 1)]) O hH (c_X3_mostKept hc9) ml_X11_293 ly_43 rfl rfl hl.1 rfl ⟨Nat.le_of_ble_eq_true rfl, Nat.le_of_ble_eq_true rfl⟩ (Nat.le_of_ble_eq_true rfl) dX11_spare_30 (fun H locs hH => ?_)
    refine lv_isub hx hb dX11_spare_33 ?_
    refine lv_goto (tgt := 39) hx hb dX11_spare_34 (by decide) ?_
    obtain ⟨rfl, rfl⟩ := ret_i h
    exact h_iret O hr hlk hH dX11_spare_39
set_option maxHeartbeats 4000000 in
theorem c_X11_spare {l : Launch} {G : va_G} {tA : Nat → ClassId} {z : Nat} {E : Ex}  {D D' : Dm} {r : Int32} (h : f_X11_spare  D = some (r, D')) : CtI l yX11_spare cX11_spare 1 (some .int) G tA z E 7 0 0 [.ref (z + 0)] LAY D r LAY D' :=
  ct_BI (by decide +kernel) (Nat.le_of_ble_eq_true rfl) (fun _ _ _ _ _ _ _ _ O hr hlk => w_X11_spare O hr hlk  _ h)
set_option maxHeartbeats 4000000 in
theorem w_X11_lettersOf_s_4_b {G : va_G} {tA : Nat → ClassId} {z : Nat} {E : Ex} {p : Program} {l : Launch} {e : Env} {s : State} {m : MethodId} {args : Array Value} {below : List Frame} {meth : Method} {c : Code} {r : Int32} {D' : Dm} (O : Ok G tA z E cX11_lettersOf RX11 4 p s m args c) (hr : meth.sig.returnType = some .int) (hlk : meth.locks = false) {k4 : Int32 → Int32 → Int32 → Dm → Option (Int32 × Dm)} (hk4 : ∀ (x1 : Int32) (x2 : Int32) (x3 : Int32) (D : Dm), k4 x1 x2 x3 D = some (r, D') → BI G tA z E p l e (rmC 1 0 0) s m args below meth c LAY D r D' 4 4 [(0, .ref (z + 44)), (1, .int x1), (2, .int x2), (3, .int x3)] []) (x1 : Int32) (x2 : Int32) (x3 : Int32) (D : Dm) (h : f_X11_lettersOf_s_4_b k4 x1 x2 x3 D = some (r, D')) : BI G tA z E p l e (rmC 1 0 0) s m args below meth c LAY D r D' 4 4 [(0, .ref (z + 44)), (1, .int x1), (2, .int x2), (3, .int x3)] [] := by
  obtain ⟨hx, hb, -, hown, hts, -⟩ := id O
  unfold f_X11_lettersOf_s_4_b at h
  intro H locs ls hH hl
  refine lv_iload_n hx hb dX11_lettersOf_4 rfl (lv_at hl 3 rfl) ?_
  refine lv_iload_n hx hb dX11_lettersOf_5 rfl (lv_at hl 1 rfl) ?_
  refine lv_icmp_ge (tgt := 30) hx hb dX11_lettersOf_6 (by decide) (fun c1 => ?_) (fun c1 => ?_)
  · have h := it_pos h c1
    refine lv_iload_n hx hb dX11_lettersOf_30 rfl (lv_at hl 2 rfl) ?_
    obtain ⟨rfl, rfl⟩ := ret_i h
    exact h_iret O hr hlk hH dX11_lettersOf_31
  · have h := it_neg h c1
    refine lv_iload_n hx hb dX11_lettersOf_9 rfl (lv_at hl 3 rfl) ?_
    refine lv_aload_n hx hb dX11_lettersOf_10 rfl (lv_at hl 0 rfl) ?_
    refine h_alenr (v := 10) O hH ly_44 rfl (by decide) dX11_lettersOf_11 ?_
    refine lv_icmp_ge (tgt := 30) hx hb dX11_lettersOf_12 (by decide) (fun c2 => ?_) (fun c2 => ?_)
    · have h := it_pos h c2
      refine lv_iload_n hx hb dX11_lettersOf_30 rfl (lv_at hl 2 rfl) ?_
      obtain ⟨rfl, rfl⟩ := ret_i h
      exact h_iret O hr hlk hH dX11_lettersOf_31
    · have h := it_neg h c2
      refine lv_iload_n hx hb dX11_lettersOf_15 rfl (lv_at hl 2 rfl) ?_
      refine lv_aload_n hx hb dX11_lettersOf_16 rfl (lv_at hl 0 rfl) ?_
      refine lv_iload_n hx hb dX11_lettersOf_17 rfl (lv_at hl 3 rfl) ?_
      obtain ⟨g3, h⟩ := gd_some h
      refine h_aald O hH ly_44 rfl g3 (ar_44_r g3) dX11_lettersOf_18 ?_
      refine h_geti O hH (ar_44_c g3).1 rfl fl_X11_113 dX11_lettersOf_19 ?_
      refine lv_iadd hx hb dX11_lettersOf_22 ?_
      refine lv_topi (fun y4 e5 => ?_)
      have h := lt_at e5 h
      refine lv_istore_n (lv' := [(2, .int y4), (0, .ref (z + 44)), (1, .int x1), (3, .int x3)]) hx hb dX11_lettersOf_23 rfl hl (by decide) rfl (fun ls hl => ?_)
      obtain ⟨y6, e7, h⟩ := lt_some h
      refine lv_iinc (v := y6) (lv' := [(3, .int y6), (2, .int y4), (0, .ref (z + 44)), (1, .int x1)]) hx hb dX11_lettersOf_24 hl (k := 3) rfl (by rw [e7]; rfl) (by decide) rfl (fun ls hl => ?_)
      refine lv_goto (tgt := 4) hx hb dX11_lettersOf_27 (by decide) ?_
      exact hk4 _ _ _ _ h _ _ _ hH (lv_sub hl [2, 3, 1, 0] rfl)
set_option maxHeartbeats 4000000 in
theorem w_X11_lettersOf_s_4 {G : va_G} {tA : Nat → ClassId} {z : Nat} {E : Ex} {p : Program} {l : Launch} {e : Env} {s : State} {m : MethodId} {args : Array Value} {below : List Frame} {meth : Method} {c : Code} {r : Int32} {D' : Dm} (O : Ok G tA z E cX11_lettersOf RX11 4 p s m args c) (hr : meth.sig.returnType = some .int) (hlk : meth.locks = false) : ∀ (n : Nat) (x1 : Int32) (x2 : Int32) (x3 : Int32) (D : Dm) (h : f_X11_lettersOf_s_4 n x1 x2 x3 D = some (r, D')), BI G tA z E p l e (rmC 1 0 0) s m args below meth c LAY D r D' 4 4 [(0, .ref (z + 44)), (1, .int x1), (2, .int x2), (3, .int x3)] [] := by
  intro n
  induction n with
  | zero => intro x1 x2 x3 D h; exact no_some h
  | succ n ih => intro x1 x2 x3 D h; exact w_X11_lettersOf_s_4_b O hr hlk (fun x1 x2 x3 D h => ih x1 x2 x3 D h) x1 x2 x3 D h
set_option maxHeartbeats 4000000 in
theorem w_X11_lettersOf_s {G : va_G} {tA : Nat → ClassId} {z : Nat} {E : Ex} {p : Program} {l : Launch} {e : Env} {s : State} {m : MethodId} {args : Array Value} {below : List Frame} {meth : Method} {c : Code} {r : Int32} {D' : Dm} (O : Ok G tA z E cX11_lettersOf RX11 4 p s m args c) (hr : meth.sig.returnType = some .int) (hlk : meth.locks = false) (x1 : Int32) (D : Dm) (h : f_X11_lettersOf_s x1 D = some (r, D')) : BI G tA z E p l e (rmC 1 0 0) s m args below meth c LAY D r D' 4 0 [(0, .ref (z + 44)), (1, .int x1)] [] := by
  obtain ⟨hx, hb, -, hown, hts, -⟩ := id O
  unfold f_X11_lettersOf_s at h
  intro H locs ls hH hl
  refine lv_iconst (v := 0) hx hb dX11_lettersOf_0 (by decide) ?_
  refine lv_istore_n (lv' := [(2, .int 0), (0, .ref (z + 44)), (1, .int x1)]) hx hb dX11_lettersOf_1 rfl hl (by decide) rfl (fun ls hl => ?_)
  refine lv_iconst (v := 0) hx hb dX11_lettersOf_2 (by decide) ?_
  refine lv_istore_n (lv' := [(3, .int 0), (2, .int 0), (0, .ref (z + 44)), (1, .int x1)]) hx hb dX11_lettersOf_3 rfl hl (by decide) rfl (fun ls hl => ?_)
  exact w_X11_lettersOf_s_4 O hr hlk FU _ _ _ _ h _ _ _ hH (lv_sub hl [2, 3, 1, 0] rfl)
set_option maxHeartbeats 4000000 in
theorem c_X11_lettersOf_s {l : Launch} {G : va_G} {tA : Nat → ClassId} {z : Nat} {E : Ex} {x1 : Int32} {D D' : Dm} {r : Int32} (h : f_X11_lettersOf_s x1 D = some (r, D')) : CtI l yX11_lettersOf cX11_lettersOf 4 (some .int) G tA z E 1 0 0 [.ref (z + 44), .int x1] LAY D r LAY D' :=
  ct_BI (by decide +kernel) (Nat.le_of_ble_eq_true rfl) (fun _ _ _ _ _ _ _ _ O hr hlk => w_X11_lettersOf_s O hr hlk _ _ h)
set_option maxHeartbeats 4000000 in
theorem w_X11_lettersOf_t_4_b {G : va_G} {tA : Nat → ClassId} {z : Nat} {E : Ex} {p : Program} {l : Launch} {e : Env} {s : State} {m : MethodId} {args : Array Value} {below : List Frame} {meth : Method} {c : Code} {r : Int32} {D' : Dm} (O : Ok G tA z E cX11_lettersOf RX11 4 p s m args c) (hr : meth.sig.returnType = some .int) (hlk : meth.locks = false) {k4 : Int32 → Int32 → Int32 → Dm → Option (Int32 × Dm)} (hk4 : ∀ (x1 : Int32) (x2 : Int32) (x3 : Int32) (D : Dm), k4 x1 x2 x3 D = some (r, D') → BI G tA z E p l e (rmC 1 0 0) s m args below meth c LAY D r D' 4 4 [(0, .ref (z + 77)), (1, .int x1), (2, .int x2), (3, .int x3)] []) (x1 : Int32) (x2 : Int32) (x3 : Int32) (D : Dm) (h : f_X11_lettersOf_t_4_b k4 x1 x2 x3 D = some (r, D')) : BI G tA z E p l e (rmC 1 0 0) s m args below meth c LAY D r D' 4 4 [(0, .ref (z + 77)), (1, .int x1), (2, .int x2), (3, .int x3)] [] := by
  obtain ⟨hx, hb, -, hown, hts, -⟩ := id O
  unfold f_X11_lettersOf_t_4_b at h
  intro H locs ls hH hl
  refine lv_iload_n hx hb dX11_lettersOf_4 rfl (lv_at hl 3 rfl) ?_
  refine lv_iload_n hx hb dX11_lettersOf_5 rfl (lv_at hl 1 rfl) ?_
  refine lv_icmp_ge (tgt := 30) hx hb dX11_lettersOf_6 (by decide) (fun c1 => ?_) (fun c1 => ?_)
  · have h := it_pos h c1
    refine lv_iload_n hx hb dX11_lettersOf_30 rfl (lv_at hl 2 rfl) ?_
    obtain ⟨rfl, rfl⟩ := ret_i h
    exact h_iret O hr hlk hH dX11_lettersOf_31
  · have h := it_neg h c1
    refine lv_iload_n hx hb dX11_lettersOf_9 rfl (lv_at hl 3 rfl) ?_
    refine lv_aload_n hx hb dX11_lettersOf_10 rfl (lv_at hl 0 rfl) ?_
    refine h_alenr (v := 10) O hH ly_77 rfl (by decide) dX11_lettersOf_11 ?_
    refine lv_icmp_ge (tgt := 30) hx hb dX11_lettersOf_12 (by decide) (fun c2 => ?_) (fun c2 => ?_)
    · have h := it_pos h c2
      refine lv_iload_n hx hb dX11_lettersOf_30 rfl (lv_at hl 2 rfl) ?_
      obtain ⟨rfl, rfl⟩ := ret_i h
      exact h_iret O hr hlk hH dX11_lettersOf_31
    · have h := it_neg h c2
      refine lv_iload_n hx hb dX11_lettersOf_15 rfl (lv_at hl 2 rfl) ?_
      refine lv_aload_n hx hb dX11_lettersOf_16 rfl (lv_at hl 0 rfl) ?_
      refine lv_iload_n hx hb dX11_lettersOf_17 rfl (lv_at hl 3 rfl) ?_
      obtain ⟨g3, h⟩ := gd_some h
      refine h_aald O hH ly_77 rfl g3 (ar_77_r g3) dX11_lettersOf_18 ?_
      refine h_geti O hH (ar_77_c g3).1 rfl fl_X11_113 dX11_lettersOf_19 ?_
      refine lv_iadd hx hb dX11_lettersOf_22 ?_
      refine lv_topi (fun y4 e5 => ?_)
      have h := lt_at e5 h
      refine lv_istore_n (lv' := [(2, .int y4), (0, .ref (z + 77)), (1, .int x1), (3, .int x3)]) hx hb dX11_lettersOf_23 rfl hl (by decide) rfl (fun ls hl => ?_)
      obtain ⟨y6, e7, h⟩ := lt_some h
      refine lv_iinc (v := y6) (lv' := [(3, .int y6), (2, .int y4), (0, .ref (z + 77)), (1, .int x1)]) hx hb dX11_lettersOf_24 hl (k := 3) rfl (by rw [e7]; rfl) (by decide) rfl (fun ls hl => ?_)
      refine lv_goto (tgt := 4) hx hb dX11_lettersOf_27 (by decide) ?_
      exact hk4 _ _ _ _ h _ _ _ hH (lv_sub hl [2, 3, 1, 0] rfl)
set_option maxHeartbeats 4000000 in
theorem w_X11_lettersOf_t_4 {G : va_G} {tA : Nat → ClassId} {z : Nat} {E : Ex} {p : Program} {l : Launch} {e : Env} {s : State} {m : MethodId} {args : Array Value} {below : List Frame} {meth : Method} {c : Code} {r : Int32} {D' : Dm} (O : Ok G tA z E cX11_lettersOf RX11 4 p s m args c) (hr : meth.sig.returnType = some .int) (hlk : meth.locks = false) : ∀ (n : Nat) (x1 : Int32) (x2 : Int32) (x3 : Int32) (D : Dm) (h : f_X11_lettersOf_t_4 n x1 x2 x3 D = some (r, D')), BI G tA z E p l e (rmC 1 0 0) s m args below meth c LAY D r D' 4 4 [(0, .ref (z + 77)), (1, .int x1), (2, .int x2), (3, .int x3)] [] := by
  intro n
  induction n with
  | zero => intro x1 x2 x3 D h; exact no_some h
  | succ n ih => intro x1 x2 x3 D h; exact w_X11_lettersOf_t_4_b O hr hlk (fun x1 x2 x3 D h => ih x1 x2 x3 D h) x1 x2 x3 D h
set_option maxHeartbeats 4000000 in
theorem w_X11_lettersOf_t {G : va_G} {tA : Nat → ClassId} {z : Nat} {E : Ex} {p : Program} {l : Launch} {e : Env} {s : State} {m : MethodId} {args : Array Value} {below : List Frame} {meth : Method} {c : Code} {r : Int32} {D' : Dm} (O : Ok G tA z E cX11_lettersOf RX11 4 p s m args c) (hr : meth.sig.returnType = some .int) (hlk : meth.locks = false) (x1 : Int32) (D : Dm) (h : f_X11_lettersOf_t x1 D = some (r, D')) : BI G tA z E p l e (rmC 1 0 0) s m args below meth c LAY D r D' 4 0 [(0, .ref (z + 77)), (1, .int x1)] [] := by
  obtain ⟨hx, hb, -, hown, hts, -⟩ := id O
  unfold f_X11_lettersOf_t at h
  intro H locs ls hH hl
  refine lv_iconst (v := 0) hx hb dX11_lettersOf_0 (by decide) ?_
  refine lv_istore_n (lv' := [(2, .int 0), (0, .ref (z + 77)), (1, .int x1)]) hx hb dX11_lettersOf_1 rfl hl (by decide) rfl (fun ls hl => ?_)
  refine lv_iconst (v := 0) hx hb dX11_lettersOf_2 (by decide) ?_
  refine lv_istore_n (lv' := [(3, .int 0), (2, .int 0), (0, .ref (z + 77)), (1, .int x1)]) hx hb dX11_lettersOf_3 rfl hl (by decide) rfl (fun ls hl => ?_)
  exact w_X11_lettersOf_t_4 O hr hlk FU _ _ _ _ h _ _ _ hH (lv_sub hl [2, 3, 1, 0] rfl)
set_option maxHeartbeats 4000000 in
theorem c_X11_lettersOf_t {l : Launch} {G : va_G} {tA : Nat → ClassId} {z : Nat} {E : Ex} {x1 : Int32} {D D' : Dm} {r : Int32} (h : f_X11_lettersOf_t x1 D = some (r, D')) : CtI l yX11_lettersOf cX11_lettersOf 4 (some .int) G tA z E 1 0 0 [.ref (z + 77), .int x1] LAY D r LAY D' :=
  ct_BI (by decide +kernel) (Nat.le_of_ble_eq_true rfl) (fun _ _ _ _ _ _ _ _ O hr hlk => w_X11_lettersOf_t O hr hlk _ _ h)
set_option maxHeartbeats 4000000 in
theorem w_X11_count {G : va_G} {tA : Nat → ClassId} {z : Nat} {E : Ex} {p : Program} {l : Launch} {e : Env} {s : State} {m : MethodId} {args : Array Value} {below : List Frame} {meth : Method} {c : Code} {r : Int32} {D' : Dm} (O : Ok G tA z E cX11_count RX11 2 p s m args c) (hr : meth.sig.returnType = some .int) (hlk : meth.locks = false) (x1 : Int32) (D : Dm) (h : f_X11_count x1 D = some (r, D')) : BI G tA z E p l e (rmC 7 0 0) s m args below meth c LAY D r D' 2 0 [(0, .ref (z + 0)), (1, .int x1)] [] := by
  obtain ⟨hx, hb, -, hown, hts, -⟩ := id O
  unfold f_X11_count at h
  intro H locs ls hH hl
  refine lv_iload_n hx hb dX11_count_0 rfl (lv_at hl 1 rfl) ?_
  by_cases c1 : x1 = 0
  · have h := it_pos h c1
    refine lv_tableIn (off := 43) (tgt := 44) hx hb dX11_count_1 (by rw [c1]; decide) (by rw [c1]; decide) (by rw [c1]; rfl) (by decide) ?_
    refine lv_aload_n hx hb dX11_count_44 rfl (lv_at hl 0 rfl) ?_
    refine h_getr O hH ly_0 rfl fl_X11_52 dX11_count_45 ?_
    refine h_geti O hH ly_43 rfl fl_X11_235 dX11_count_48 ?_
    obtain ⟨rfl, rfl⟩ := ret_i h
    exact h_iret O hr hlk hH dX11_count_51
  have h := it_neg h c1
  by_cases c2 : x1 = 1
  · have h := it_pos h c2
    refine lv_tableIn (off := 51) (tgt := 52) hx hb dX11_count_1 (by rw [c2]; decide) (by rw [c2]; decide) (by rw [c2]; rfl) (by decide) ?_
    refine lv_aload_n hx hb dX11_count_52 rfl (lv_at hl 0 rfl) ?_
    refine h_getr O hH ly_0 rfl fl_X11_52 dX11_count_53 ?_
    refine h_getr O hH ly_43 rfl fl_X11_238 dX11_count_56 ?_
    refine h_geti O hH ly_76 rfl fl_X11_242 dX11_count_59 ?_
    obtain ⟨rfl, rfl⟩ := ret_i h
    exact h_iret O hr hlk hH dX11_count_62
  have h := it_neg h c2
  by_cases c3 : x1 = 2
  · have h := it_pos h c3
    refine lv_tableIn (off := 62) (tgt := 63) hx hb dX11_count_1 (by rw [c3]; decide) (by rw [c3]; decide) (by rw [c3]; rfl) (by decide) ?_
    refine lv_aload_n hx hb dX11_count_63 rfl (lv_at hl 0 rfl) ?_
    refine h_getr O hH ly_0 rfl fl_X11_52 dX11_count_64 ?_
    refine h_getr O hH ly_43 rfl fl_X11_256 dX11_count_67 ?_
    refine lv_aload_n hx hb dX11_count_70 rfl (lv_at hl 0 rfl) ?_
    refine h_getr O hH ly_0 rfl fl_X11_52 dX11_count_71 ?_
    refine h_geti O hH ly_43 rfl fl_X11_235 dX11_count_74 ?_
    obtain ⟨y6, D4, hc5, h⟩ := bI_some h
    refine h_callSi (As := [.ref (z + 44), .int (D 43 4)]) (rest := []) O hH (c_X11_lettersOf_s hc5) ml_X11_296 rfl hl.1 rfl ⟨Nat.le_of_ble_eq_true rfl, Nat.le_of_ble_eq_true rfl⟩ (Nat.le_of_ble_eq_true rfl) dX11_count_77 (fun H locs hH => ?_)
    obtain ⟨rfl, rfl⟩ := ret_i h
    exact h_iret O hr hlk hH dX11_count_80
  have h := it_neg h c3
  by_cases c7 : x1 = 3
  · have h := it_pos h c7
    refine lv_tableIn (off := 80) (tgt := 81) hx hb dX11_count_1 (by rw [c7]; decide) (by rw [c7]; decide) (by rw [c7]; rfl) (by decide) ?_
    refine lv_aload_n hx hb dX11_count_81 rfl (lv_at hl 0 rfl) ?_
    refine h_getr O hH ly_0 rfl fl_X11_52 dX11_count_82 ?_
    refine h_getr O hH ly_43 rfl fl_X11_238 dX11_count_85 ?_
    refine h_getr O hH ly_76 rfl fl_X11_260 dX11_count_88 ?_
    refine lv_aload_n hx hb dX11_count_91 rfl (lv_at hl 0 rfl) ?_
    refine h_getr O hH ly_0 rfl fl_X11_52 dX11_count_92 ?_
    refine h_getr O hH ly_43 rfl fl_X11_238 dX11_count_95 ?_
    refine h_geti O hH ly_76 rfl fl_X11_242 dX11_count_98 ?_
    obtain ⟨y10, D8, hc9, h⟩ := bI_some h
    refine h_callSi (As := [.ref (z + 77), .int (D 76 2)]) (rest := []) O hH (c_X11_lettersOf_t hc9) ml_X11_296 rfl hl.1 rfl ⟨Nat.le_of_ble_eq_true rfl, Nat.le_of_ble_eq_true rfl⟩ (Nat.le_of_ble_eq_true rfl) dX11_count_101 (fun H locs hH => ?_)
    obtain ⟨rfl, rfl⟩ := ret_i h
    exact h_iret O hr hlk hH dX11_count_104
  have h := it_neg h c7
  by_cases c11 : x1 = 4
  · have h := it_pos h c11
    refine lv_tableIn (off := 104) (tgt := 105) hx hb dX11_count_1 (by rw [c11]; decide) (by rw [c11]; decide) (by rw [c11]; rfl) (by decide) ?_
    refine lv_aload_n hx hb dX11_count_105 rfl (lv_at hl 0 rfl) ?_
    refine h_getr O hH ly_0 rfl fl_X11_52 dX11_count_106 ?_
    obtain ⟨y14, D12, hc13, h⟩ := bI_some h
    refine h_callVi (As := []) (rest := []) O hH (c_X3_countLongWords hc13) ml_X11_300 ly_43 rfl rfl hl.1 rfl ⟨Nat.le_of_ble_eq_true rfl, Nat.le_of_ble_eq_true rfl⟩ (Nat.le_of_ble_eq_true rfl) dX11_count_109 (fun H locs hH => ?_)
    obtain ⟨rfl, rfl⟩ := ret_i h
    exact h_iret O hr hlk hH dX11_count_112
  have h := it_neg h c11
  by_cases c15 : x1 = 5
  · have h := it_pos h c15
    refine lv_tableIn (off := 112) (tgt := 113) hx hb dX11_count_1 (by rw [c15]; decide) (by rw [c15]; decide) (by rw [c15]; rfl) (by decide) ?_
    refine lv_aload_n hx hb dX11_count_113 rfl (lv_at hl 0 rfl) ?_
    refine h_getr O hH ly_0 rfl fl_X11_10 dX11_count_114 ?_
    refine h_geti O hH ly_1 rfl fl_X11_70 dX11_count_117 ?_
    obtain ⟨rfl, rfl⟩ := ret_i h
    exact h_iret O hr hlk hH dX11_count_120
  have h := it_neg h c15
  by_cases c16 : x1 = 6
  · have h := it_pos h c16
    refine lv_tableIn (off := 120) (tgt := 121) hx hb dX11_count_1 (by rw [c16]; decide) (by rw [c16]; decide) (by rw [c16]; rfl) (by decide) ?_
    refine lv_aload_n hx hb dX11_count_121 rfl (lv_at hl 0 rfl) ?_
    refine h_getr O hH ly_0 rfl fl_X11_52 dX11_count_122 ?_
    obtain ⟨y19, D17, hc18, h⟩ := bI_some h
    refine h_callVi (As := []) (rest := []) O hH (c_X3_countTakenShorts hc18) ml_X11_303 ly_43 rfl rfl hl.1 rfl ⟨Nat.le_of_ble_eq_true rfl, Nat.le_of_ble_eq_true rfl⟩ (Nat.le_of_ble_eq_true rfl) dX11_count_125 (fun H locs hH => ?_)
    obtain ⟨rfl, rfl⟩ := ret_i h
    exact h_iret O hr hlk hH dX11_count_128
  have h := it_neg h c16
  refine lv_tableOut (tgt := 129) hx hb dX11_count_1 (by have a0 := ne_toInt c1 (k := 0) (by decide); have a1 := ne_toInt c2 (k := 1) (by decide); have a2 := ne_toInt c3 (k := 2) (by decide); have a3 := ne_toInt c7 (k := 3) (by decide); have a4 := ne_toInt c11 (k := 4) (by decide); have a5 := ne_toInt c15 (k := 5) (by decide); have a6 := ne_toInt c16 (k := 6) (by decide); omega) (by decide) ?_
  refine lv_iconst (v := (-1)) hx hb dX11_count_129 (by decide) ?_
  obtain ⟨rfl, rfl⟩ := ret_i h
  exact h_iret O hr hlk hH dX11_count_130
set_option maxHeartbeats 4000000 in
theorem c_X11_count {l : Launch} {G : va_G} {tA : Nat → ClassId} {z : Nat} {E : Ex} {x1 : Int32} {D D' : Dm} {r : Int32} (h : f_X11_count x1 D = some (r, D')) : CtI l yX11_count cX11_count 2 (some .int) G tA z E 7 0 0 [.ref (z + 0), .int x1] LAY D r LAY D' :=
  ct_BI (by decide +kernel) (Nat.le_of_ble_eq_true rfl) (fun _ _ _ _ _ _ _ _ O hr hlk => w_X11_count O hr hlk _ _ h)
