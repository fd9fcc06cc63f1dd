theorem dX10_lay_10 : decode cX10_lay 10 = .ok (.putfield 410, 3) := by decide +kernel
theorem dX10_lay_13 : decode cX10_lay 13 = .ok (.aload_n 0, 1) := by decide +kernel
theorem dX10_lay_14 : decode cX10_lay 14 = .ok (.iconst 0, 1) := by decide +kernel
theorem dX10_lay_15 : decode cX10_lay 15 = .ok (.putfield 492, 3) := by decide +kernel
theorem dX10_lay_18 : decode cX10_lay 18 = .ok (.aload_n 0, 1) := by decide +kernel
theorem dX10_lay_19 : decode cX10_lay 19 = .ok (.iconst 0, 1) := by decide +kernel
theorem dX10_lay_20 : decode cX10_lay 20 = .ok (.putfield 495, 3) := by decide +kernel
theorem dX10_lay_23 : decode cX10_lay 23 = .ok (.aload_n 0, 1) := by decide +kernel
theorem dX10_lay_24 : decode cX10_lay 24 = .ok (.iconst 0, 1) := by decide +kernel
theorem dX10_lay_25 : decode cX10_lay 25 = .ok (.putfield 498, 3) := by decide +kernel
theorem dX10_lay_28 : decode cX10_lay 28 = .ok (.aload_n 0, 1) := by decide +kernel
theorem dX10_lay_29 : decode cX10_lay 29 = .ok (.invokevirtual 501, 3) := by decide +kernel
theorem dX10_lay_32 : decode cX10_lay 32 = .ok (.aload_n 0, 1) := by decide +kernel
theorem dX10_lay_33 : decode cX10_lay 33 = .ok (.invokevirtual 504, 3) := by decide +kernel
theorem dX10_lay_36 : decode cX10_lay 36 = .ok (.return_, 1) := by decide +kernel
theorem dX10_isKept_0 : decode cX10_isKept 0 = .ok (.aload_n 0, 1) := by decide +kernel
theorem dX10_isKept_1 : decode cX10_isKept 1 = .ok (.getfield 163, 3) := by decide +kernel
theorem dX10_isKept_4 : decode cX10_isKept 4 = .ok (.bipush 6, 2) := by decide +kernel
theorem dX10_isKept_6 : decode cX10_isKept 6 = .ok (.iload_n 1, 1) := by decide +kernel
theorem dX10_isKept_7 : decode cX10_isKept 7 = .ok (.imul, 1) := by decide +kernel
theorem dX10_isKept_8 : decode cX10_isKept 8 = .ok (.iload_n 2, 1) := by decide +kernel
theorem dX10_isKept_9 : decode cX10_isKept 9 = .ok (.iadd, 1) := by decide +kernel
theorem dX10_isKept_10 : decode cX10_isKept 10 = .ok (.baload, 1) := by decide +kernel
theorem dX10_isKept_11 : decode cX10_isKept 11 = .ok (.ifCond .ne 5, 3) := by decide +kernel
theorem dX10_isKept_14 : decode cX10_isKept 14 = .ok (.iconst 0, 1) := by decide +kernel
theorem dX10_isKept_15 : decode cX10_isKept 15 = .ok (.ireturn, 1) := by decide +kernel
theorem dX10_isKept_16 : decode cX10_isKept 16 = .ok (.aload_n 0, 1) := by decide +kernel
theorem dX10_isKept_17 : decode cX10_isKept 17 = .ok (.getfield 157, 3) := by decide +kernel
theorem dX10_isKept_20 : decode cX10_isKept 20 = .ok (.iload_n 1, 1) := by decide +kernel
theorem dX10_isKept_21 : decode cX10_isKept 21 = .ok (.iaload, 1) := by decide +kernel
theorem dX10_isKept_22 : decode cX10_isKept 22 = .ok (.istore 4, 2) := by decide +kernel
theorem dX10_isKept_24 : decode cX10_isKept 24 = .ok (.iload 4, 2) := by decide +kernel
theorem dX10_isKept_26 : decode cX10_isKept 26 = .ok (.aload_n 0, 1) := by decide +kernel
theorem dX10_isKept_27 : decode cX10_isKept 27 = .ok (.getfield 160, 3) := by decide +kernel
theorem dX10_isKept_30 : decode cX10_isKept 30 = .ok (.iload_n 1, 1) := by decide +kernel
theorem dX10_isKept_31 : decode cX10_isKept 31 = .ok (.iaload, 1) := by decide +kernel
theorem dX10_isKept_32 : decode cX10_isKept 32 = .ok (.if_icmp .gt 51, 3) := by decide +kernel
theorem dX10_isKept_35 : decode cX10_isKept 35 = .ok (.aload_n 0, 1) := by decide +kernel
theorem dX10_isKept_36 : decode cX10_isKept 36 = .ok (.iload_n 1, 1) := by decide +kernel
theorem dX10_isKept_37 : decode cX10_isKept 37 = .ok (.iload_n 2, 1) := by decide +kernel
theorem dX10_isKept_38 : decode cX10_isKept 38 = .ok (.iload 4, 2) := by decide +kernel
theorem dX10_isKept_40 : decode cX10_isKept 40 = .ok (.invokevirtual 507, 3) := by decide +kernel
theorem dX10_isKept_43 : decode cX10_isKept 43 = .ok (.istore 5, 2) := by decide +kernel
theorem dX10_isKept_45 : decode cX10_isKept 45 = .ok (.iload 5, 2) := by decide +kernel
theorem dX10_isKept_47 : decode cX10_isKept 47 = .ok (.bipush (-2), 2) := by decide +kernel
theorem dX10_isKept_49 : decode cX10_isKept 49 = .ok (.if_icmp .eq 26, 3) := by decide +kernel
theorem dX10_isKept_52 : decode cX10_isKept 52 = .ok (.aload_n 0, 1) := by decide +kernel
theorem dX10_isKept_53 : decode cX10_isKept 53 = .ok (.getfield 170, 3) := by decide +kernel
theorem dX10_isKept_56 : decode cX10_isKept 56 = .ok (.iload 5, 2) := by decide +kernel
theorem dX10_isKept_58 : decode cX10_isKept 58 = .ok (.iaload, 1) := by decide +kernel
theorem dX10_isKept_59 : decode cX10_isKept 59 = .ok (.bipush (-2), 2) := by decide +kernel
theorem dX10_isKept_61 : decode cX10_isKept 61 = .ok (.if_icmp .eq 16, 3) := by decide +kernel
theorem dX10_isKept_64 : decode cX10_isKept 64 = .ok (.aload_n 0, 1) := by decide +kernel
theorem dX10_isKept_65 : decode cX10_isKept 65 = .ok (.getfield 170, 3) := by decide +kernel
theorem dX10_isKept_68 : decode cX10_isKept 68 = .ok (.iload 5, 2) := by decide +kernel
theorem dX10_isKept_70 : decode cX10_isKept 70 = .ok (.iaload, 1) := by decide +kernel
theorem dX10_isKept_71 : decode cX10_isKept 71 = .ok (.iload_n 3, 1) := by decide +kernel
theorem dX10_isKept_72 : decode cX10_isKept 72 = .ok (.if_icmp .ge 5, 3) := by decide +kernel
theorem dX10_isKept_75 : decode cX10_isKept 75 = .ok (.iconst 0, 1) := by decide +kernel
theorem dX10_isKept_76 : decode cX10_isKept 76 = .ok (.ireturn, 1) := by decide +kernel
theorem dX10_isKept_77 : decode cX10_isKept 77 = .ok (.iinc 4 1, 3) := by decide +kernel
theorem dX10_isKept_80 : decode cX10_isKept 80 = .ok (.goto (-56), 3) := by decide +kernel
theorem dX10_isKept_83 : decode cX10_isKept 83 = .ok (.iconst 1, 1) := by decide +kernel
theorem dX10_isKept_84 : decode cX10_isKept 84 = .ok (.ireturn, 1) := by decide +kernel
theorem dX10_fates_0 : decode cX10_fates 0 = .ok (.iconst 0, 1) := by decide +kernel
theorem dX10_fates_1 : decode cX10_fates 1 = .ok (.istore_n 1, 1) := by decide +kernel
theorem dX10_fates_2 : decode cX10_fates 2 = .ok (.iload_n 1, 1) := by decide +kernel
theorem dX10_fates_3 : decode cX10_fates 3 = .ok (.sipush 2079, 3) := by decide +kernel
theorem dX10_fates_6 : decode cX10_fates 6 = .ok (.if_icmp .ge 17, 3) := by decide +kernel
theorem dX10_fates_9 : decode cX10_fates 9 = .ok (.aload_n 0, 1) := by decide +kernel
theorem dX10_fates_10 : decode cX10_fates 10 = .ok (.getfield 170, 3) := by decide +kernel
theorem dX10_fates_13 : decode cX10_fates 13 = .ok (.iload_n 1, 1) := by decide +kernel
theorem dX10_fates_14 : decode cX10_fates 14 = .ok (.bipush (-2), 2) := by decide +kernel
theorem dX10_fates_16 : decode cX10_fates 16 = .ok (.iastore, 1) := by decide +kernel
theorem dX10_fates_17 : decode cX10_fates 17 = .ok (.iinc 1 1, 3) := by decide +kernel
theorem dX10_fates_20 : decode cX10_fates 20 = .ok (.goto (-18), 3) := by decide +kernel
theorem dX10_fates_23 : decode cX10_fates 23 = .ok (.iconst 1, 1) := by decide +kernel
theorem dX10_fates_24 : decode cX10_fates 24 = .ok (.istore_n 1, 1) := by decide +kernel
theorem dX10_fates_25 : decode cX10_fates 25 = .ok (.iconst 0, 1) := by decide +kernel
theorem dX10_fates_26 : decode cX10_fates 26 = .ok (.istore_n 2, 1) := by decide +kernel
theorem dX10_fates_27 : decode cX10_fates 27 = .ok (.iload_n 1, 1) := by decide +kernel
theorem dX10_fates_28 : decode cX10_fates 28 = .ok (.ifCond .eq 109, 3) := by decide +kernel
theorem dX10_fates_31 : decode cX10_fates 31 = .ok (.iconst 0, 1) := by decide +kernel
theorem dX10_fates_32 : decode cX10_fates 32 = .ok (.istore_n 1, 1) := by decide +kernel
theorem dX10_fates_33 : decode cX10_fates 33 = .ok (.iconst 0, 1) := by decide +kernel
theorem dX10_fates_34 : decode cX10_fates 34 = .ok (.istore_n 3, 1) := by decide +kernel
theorem dX10_fates_35 : decode cX10_fates 35 = .ok (.iload_n 3, 1) := by decide +kernel
theorem dX10_fates_36 : decode cX10_fates 36 = .ok (.sipush 2079, 3) := by decide +kernel
theorem dX10_fates_39 : decode cX10_fates 39 = .ok (.if_icmp .ge 92, 3) := by decide +kernel
theorem dX10_fates_42 : decode cX10_fates 42 = .ok (.aload_n 0, 1) := by decide +kernel
theorem dX10_fates_43 : decode cX10_fates 43 = .ok (.iload_n 3, 1) := by decide +kernel
theorem dX10_fates_44 : decode cX10_fates 44 = .ok (.invokevirtual 476, 3) := by decide +kernel
theorem dX10_fates_47 : decode cX10_fates 47 = .ok (.ifCond .eq 78, 3) := by decide +kernel
theorem dX10_fates_50 : decode cX10_fates 50 = .ok (.aload_n 0, 1) := by decide +kernel
theorem dX10_fates_51 : decode cX10_fates 51 = .ok (.getfield 170, 3) := by decide +kernel
theorem dX10_fates_54 : decode cX10_fates 54 = .ok (.iload_n 3, 1) := by decide +kernel
theorem dX10_fates_55 : decode cX10_fates 55 = .ok (.iaload, 1) := by decide +kernel
theorem dX10_fates_56 : decode cX10_fates 56 = .ok (.bipush (-2), 2) := by decide +kernel
theorem dX10_fates_58 : decode cX10_fates 58 = .ok (.if_icmp .ne 67, 3) := by decide +kernel
theorem dX10_fates_61 : decode cX10_fates 61 = .ok (.aload_n 0, 1) := by decide +kernel
theorem dX10_fates_62 : decode cX10_fates 62 = .ok (.iload_n 3, 1) := by decide +kernel
theorem dX10_fates_63 : decode cX10_fates 63 = .ok (.invokevirtual 460, 3) := by decide +kernel
theorem dX10_fates_66 : decode cX10_fates 66 = .ok (.ifCond .eq 6, 3) := by decide +kernel
theorem dX10_fates_69 : decode cX10_fates 69 = .ok (.goto 56, 3) := by decide +kernel
theorem dX10_fates_72 : decode cX10_fates 72 = .ok (.iconst 0, 1) := by decide +kernel
theorem dX10_fates_73 : decode cX10_fates 73 = .ok (.istore 4, 2) := by decide +kernel
theorem dX10_fates_75 : decode cX10_fates 75 = .ok (.iconst 0, 1) := by decide +kernel
theorem dX10_fates_76 : decode cX10_fates 76 = .ok (.istore 5, 2) := by decide +kernel
theorem dX10_fates_78 : decode cX10_fates 78 = .ok (.iload 5, 2) := by decide +kernel
theorem dX10_fates_80 : decode cX10_fates 80 = .ok (.aload_n 0, 1) := by decide +kernel
theorem dX10_fates_81 : decode cX10_fates 81 = .ok (.invokevirtual 482, 3) := by decide +kernel
theorem dX10_fates_84 : decode cX10_fates 84 = .ok (.if_icmp .ge 24, 3) := by decide +kernel
theorem dX10_fates_87 : decode cX10_fates 87 = .ok (.iload 4, 2) := by decide +kernel
theorem dX10_fates_89 : decode cX10_fates 89 = .ok (.ifCond .ne 19, 3) := by decide +kernel
theorem dX10_fates_92 : decode cX10_fates 92 = .ok (.aload_n 0, 1) := by decide +kernel
theorem dX10_fates_93 : decode cX10_fates 93 = .ok (.iload_n 3, 1) := by decide +kernel
theorem dX10_fates_94 : decode cX10_fates 94 = .ok (.iload 5, 2) := by decide +kernel
theorem dX10_fates_96 : decode cX10_fates 96 = .ok (.iload_n 2, 1) := by decide +kernel
theorem dX10_fates_97 : decode cX10_fates 97 = .ok (.invokevirtual 510, 3) := by decide +kernel
theorem dX10_fates_100 : decode cX10_fates 100 = .ok (.istore 4, 2) := by decide +kernel
theorem dX10_fates_102 : decode cX10_fates 102 = .ok (.iinc 5 1, 3) := by decide +kernel
theorem dX10_fates_105 : decode cX10_fates 105 = .ok (.goto (-27), 3) := by decide +kernel
theorem dX10_fates_108 : decode cX10_fates 108 = .ok (.iload 4, 2) := by decide +kernel
theorem dX10_fates_110 : decode cX10_fates 110 = .ok (.ifCond .eq 6, 3) := by decide +kernel
theorem dX10_fates_113 : decode cX10_fates 113 = .ok (.goto 12, 3) := by decide +kernel
theorem dX10_fates_116 : decode cX10_fates 116 = .ok (.aload_n 0, 1) := by decide +kernel
theorem dX10_fates_117 : decode cX10_fates 117 = .ok (.getfield 170, 3) := by decide +kernel
theorem dX10_fates_120 : decode cX10_fates 120 = .ok (.iload_n 3, 1) := by decide +kernel
theorem dX10_fates_121 : decode cX10_fates 121 = .ok (.iload_n 2, 1) := by decide +kernel
theorem dX10_fates_122 : decode cX10_fates 122 = .ok (.iastore, 1) := by decide +kernel
theorem dX10_fates_123 : decode cX10_fates 123 = .ok (.iconst 1, 1) := by decide +kernel
theorem dX10_fates_124 : decode cX10_fates 124 = .ok (.istore_n 1, 1) := by decide +kernel
theorem dX10_fates_125 : decode cX10_fates 125 = .ok (.iinc 3 1, 3) := by decide +kernel
theorem dX10_fates_128 : decode cX10_fates 128 = .ok (.goto (-93), 3) := by decide +kernel
theorem dX10_fates_131 : decode cX10_fates 131 = .ok (.iinc 2 1, 3) := by decide +kernel
theorem dX10_fates_134 : decode cX10_fates 134 = .ok (.goto (-107), 3) := by decide +kernel
theorem dX10_fates_137 : decode cX10_fates 137 = .ok (.return_, 1) := by decide +kernel
theorem dX10_isSafe_0 : decode cX10_isSafe 0 = .ok (.aload_n 0, 1) := by decide +kernel
theorem dX10_isSafe_1 : decode cX10_isSafe 1 = .ok (.getfield 170, 3) := by decide +kernel
theorem dX10_isSafe_4 : decode cX10_isSafe 4 = .ok (.iload_n 1, 1) := by decide +kernel
theorem dX10_isSafe_5 : decode cX10_isSafe 5 = .ok (.iaload, 1) := by decide +kernel
theorem dX10_isSafe_6 : decode cX10_isSafe 6 = .ok (.bipush (-2), 2) := by decide +kernel
theorem dX10_isSafe_8 : decode cX10_isSafe 8 = .ok (.if_icmp .ne 7, 3) := by decide +kernel
theorem dX10_isSafe_11 : decode cX10_isSafe 11 = .ok (.iconst 1, 1) := by decide +kernel
theorem dX10_isSafe_12 : decode cX10_isSafe 12 = .ok (.goto 4, 3) := by decide +kernel
theorem dX10_isSafe_15 : decode cX10_isSafe 15 = .ok (.iconst 0, 1) := by decide +kernel
theorem dX10_isSafe_16 : decode cX10_isSafe 16 = .ok (.ireturn, 1) := by decide +kernel
theorem dX10_state_0 : decode cX10_state 0 = .ok (.aload_n 0, 1) := by decide +kernel
theorem dX10_state_1 : decode cX10_state 1 = .ok (.iload_n 1, 1) := by decide +kernel
theorem dX10_state_2 : decode cX10_state 2 = .ok (.iload_n 2, 1) := by decide +kernel
theorem dX10_state_3 : decode cX10_state 3 = .ok (.iload_n 3, 1) := by decide +kernel
theorem dX10_state_4 : decode cX10_state 4 = .ok (.invokevirtual 456, 3) := by decide +kernel
theorem dX10_state_7 : decode cX10_state 7 = .ok (.ifCond .eq 12, 3) := by decide +kernel
theorem dX10_state_10 : decode cX10_state 10 = .ok (.iload_n 1, 1) := by decide +kernel
theorem dX10_state_11 : decode cX10_state 11 = .ok (.iload_n 2, 1) := by decide +kernel
theorem dX10_state_12 : decode cX10_state 12 = .ok (.iload_n 3, 1) := by decide +kernel
theorem dX10_state_13 : decode cX10_state 13 = .ok (.invokestatic 472, 3) := by decide +kernel
theorem dX10_state_16 : decode cX10_state 16 = .ok (.goto 4, 3) := by decide +kernel
theorem dX10_state_19 : decode cX10_state 19 = .ok (.iconst (-1), 1) := by decide +kernel
theorem dX10_state_20 : decode cX10_state 20 = .ok (.ireturn, 1) := by decide +kernel
theorem dX10_isAct_0 : decode cX10_isAct 0 = .ok (.iload_n 1, 1) := by decide +kernel
theorem dX10_isAct_1 : decode cX10_isAct 1 = .ok (.ifCond .lt 15, 3) := by decide +kernel
theorem dX10_isAct_4 : decode cX10_isAct 4 = .ok (.iload_n 1, 1) := by decide +kernel
theorem dX10_isAct_5 : decode cX10_isAct 5 = .ok (.aload_n 0, 1) := by decide +kernel
theorem dX10_isAct_6 : decode cX10_isAct 6 = .ok (.invokevirtual 482, 3) := by decide +kernel
theorem dX10_isAct_9 : decode cX10_isAct 9 = .ok (.if_icmp .ge 7, 3) := by decide +kernel
theorem dX10_isAct_12 : decode cX10_isAct 12 = .ok (.iconst 1, 1) := by decide +kernel
theorem dX10_isAct_13 : decode cX10_isAct 13 = .ok (.goto 4, 3) := by decide +kernel
theorem dX10_isAct_16 : decode cX10_isAct 16 = .ok (.iconst 0, 1) := by decide +kernel
theorem dX10_isAct_17 : decode cX10_isAct 17 = .ok (.ireturn, 1) := by decide +kernel
theorem dX10_can_0 : decode cX10_can 0 = .ok (.aload_n 0, 1) := by decide +kernel
theorem dX10_can_1 : decode cX10_can 1 = .ok (.iload_n 1, 1) := by decide +kernel
theorem dX10_can_2 : decode cX10_can 2 = .ok (.invokevirtual 476, 3) := by decide +kernel
theorem dX10_can_5 : decode cX10_can 5 = .ok (.ifCond .eq 11, 3) := by decide +kernel
theorem dX10_can_8 : decode cX10_can 8 = .ok (.aload_n 0, 1) := by decide +kernel
theorem dX10_can_9 : decode cX10_can 9 = .ok (.iload_n 2, 1) := by decide +kernel
theorem dX10_can_10 : decode cX10_can 10 = .ok (.invokevirtual 513, 3) := by decide +kernel
theorem dX10_can_13 : decode cX10_can 13 = .ok (.ifCond .ne 5, 3) := by decide +kernel
theorem dX10_can_16 : decode cX10_can 16 = .ok (.iconst (-1), 1) := by decide +kernel
theorem dX10_can_17 : decode cX10_can 17 = .ok (.ireturn, 1) := by decide +kernel
theorem dX10_can_18 : decode cX10_can 18 = .ok (.aload_n 0, 1) := by decide +kernel
theorem dX10_can_19 : decode cX10_can 19 = .ok (.invokevirtual 516, 3) := by decide +kernel
theorem dX10_can_22 : decode cX10_can 22 = .ok (.aload_n 0, 1) := by decide +kernel
theorem dX10_can_23 : decode cX10_can 23 = .ok (.getfield 163, 3) := by decide +kernel
theorem dX10_can_26 : decode cX10_can 26 = .ok (.bipush 6, 2) := by decide +kernel
theorem dX10_can_28 : decode cX10_can 28 = .ok (.iload_n 1, 1) := by decide +kernel
theorem dX10_can_29 : decode cX10_can 29 = .ok (.imul, 1) := by decide +kernel
theorem dX10_can_30 : decode cX10_can 30 = .ok (.iload_n 2, 1) := by decide +kernel
theorem dX10_can_31 : decode cX10_can 31 = .ok (.iadd, 1) := by decide +kernel
theorem dX10_can_32 : decode cX10_can 32 = .ok (.baload, 1) := by decide +kernel
theorem dX10_can_33 : decode cX10_can 33 = .ok (.ifCond .eq 7, 3) := by decide +kernel
theorem dX10_can_36 : decode cX10_can 36 = .ok (.iconst 1, 1) := by decide +kernel
theorem dX10_can_37 : decode cX10_can 37 = .ok (.goto 4, 3) := by decide +kernel
theorem dX10_can_40 : decode cX10_can 40 = .ok (.iconst 0, 1) := by decide +kernel
theorem dX10_can_41 : decode cX10_can 41 = .ok (.ireturn, 1) := by decide +kernel
theorem dX10_gust_0 : decode cX10_gust 0 = .ok (.aload_n 0, 1) := by decide +kernel
theorem dX10_gust_1 : decode cX10_gust 1 = .ok (.iload_n 1, 1) := by decide +kernel
theorem dX10_gust_2 : decode cX10_gust 2 = .ok (.invokevirtual 476, 3) := by decide +kernel
theorem dX10_gust_5 : decode cX10_gust 5 = .ok (.ifCond .ne 6, 3) := by decide +kernel
theorem dX10_gust_8 : decode cX10_gust 8 = .ok (.bipush (-100), 2) := by decide +kernel
theorem dX10_gust_10 : decode cX10_gust 10 = .ok (.ireturn, 1) := by decide +kernel
theorem dX10_gust_11 : decode cX10_gust 11 = .ok (.aload_n 0, 1) := by decide +kernel
theorem dX10_gust_12 : decode cX10_gust 12 = .ok (.invokevirtual 516, 3) := by decide +kernel
theorem dX10_gust_15 : decode cX10_gust 15 = .ok (.iload_n 2, 1) := by decide +kernel
theorem dX10_gust_16 : decode cX10_gust 16 = .ok (.ifCond .eq 12, 3) := by decide +kernel
theorem dX10_gust_19 : decode cX10_gust 19 = .ok (.aload_n 0, 1) := by decide +kernel
theorem dX10_gust_20 : decode cX10_gust 20 = .ok (.getfield 160, 3) := by decide +kernel
theorem dX10_gust_23 : decode cX10_gust 23 = .ok (.iload_n 1, 1) := by decide +kernel
theorem dX10_gust_24 : decode cX10_gust 24 = .ok (.iaload, 1) := by decide +kernel
theorem dX10_gust_25 : decode cX10_gust 25 = .ok (.goto 9, 3) := by decide +kernel
theorem dX10_gust_28 : decode cX10_gust 28 = .ok (.aload_n 0, 1) := by decide +kernel
theorem dX10_gust_29 : decode cX10_gust 29 = .ok (.getfield 157, 3) := by decide +kernel
theorem dX10_gust_32 : decode cX10_gust 32 = .ok (.iload_n 1, 1) := by decide +kernel
theorem dX10_gust_33 : decode cX10_gust 33 = .ok (.iaload, 1) := by decide +kernel
theorem dX10_gust_34 : decode cX10_gust 34 = .ok (.ireturn, 1) := by decide +kernel
theorem dX10_next_0 : decode cX10_next 0 = .ok (.aload_n 0, 1) := by decide +kernel
theorem dX10_next_1 : decode cX10_next 1 = .ok (.iload_n 1, 1) := by decide +kernel
theorem dX10_next_2 : decode cX10_next 2 = .ok (.invokevirtual 476, 3) := by decide +kernel
theorem dX10_next_5 : decode cX10_next 5 = .ok (.ifCond .eq 23, 3) := by decide +kernel
theorem dX10_next_8 : decode cX10_next 8 = .ok (.aload_n 0, 1) := by decide +kernel
theorem dX10_next_9 : decode cX10_next 9 = .ok (.iload_n 2, 1) := by decide +kernel
theorem dX10_next_10 : decode cX10_next 10 = .ok (.invokevirtual 513, 3) := by decide +kernel
theorem dX10_next_13 : decode cX10_next 13 = .ok (.ifCond .eq 15, 3) := by decide +kernel
theorem dX10_next_16 : decode cX10_next 16 = .ok (.iload_n 3, 1) := by decide +kernel
theorem dX10_next_17 : decode cX10_next 17 = .ok (.bipush (-12), 2) := by decide +kernel
theorem dX10_next_19 : decode cX10_next 19 = .ok (.if_icmp .lt 9, 3) := by decide +kernel
theorem dX10_next_22 : decode cX10_next 22 = .ok (.iload_n 3, 1) := by decide +kernel
theorem dX10_next_23 : decode cX10_next 23 = .ok (.bipush 12, 2) := by decide +kernel
theorem dX10_next_25 : decode cX10_next 25 = .ok (.if_icmp .le 5, 3) := by decide +kernel
theorem dX10_next_28 : decode cX10_next 28 = .ok (.iconst (-1), 1) := by decide +kernel
theorem dX10_next_29 : decode cX10_next 29 = .ok (.ireturn, 1) := by decide +kernel
theorem dX10_next_30 : decode cX10_next 30 = .ok (.aload_n 0, 1) := by decide +kernel
theorem dX10_next_31 : decode cX10_next 31 = .ok (.invokevirtual 516, 3) := by decide +kernel
theorem dX10_next_34 : decode cX10_next 34 = .ok (.aload_n 0, 1) := by decide +kernel
theorem dX10_next_35 : decode cX10_next 35 = .ok (.getfield 163, 3) := by decide +kernel
theorem dX10_next_38 : decode cX10_next 38 = .ok (.bipush 6, 2) := by decide +kernel
theorem dX10_next_40 : decode cX10_next 40 = .ok (.iload_n 1, 1) := by decide +kernel
theorem dX10_next_41 : decode cX10_next 41 = .ok (.imul, 1) := by decide +kernel
theorem dX10_next_42 : decode cX10_next 42 = .ok (.iload_n 2, 1) := by decide +kernel
theorem dX10_next_43 : decode cX10_next 43 = .ok (.iadd, 1) := by decide +kernel
theorem dX10_next_44 : decode cX10_next 44 = .ok (.baload, 1) := by decide +kernel
theorem dX10_next_45 : decode cX10_next 45 = .ok (.ifCond .eq 13, 3) := by decide +kernel
theorem dX10_next_48 : decode cX10_next 48 = .ok (.aload_n 0, 1) := by decide +kernel
theorem dX10_next_49 : decode cX10_next 49 = .ok (.iload_n 1, 1) := by decide +kernel
theorem dX10_next_50 : decode cX10_next 50 = .ok (.iload_n 2, 1) := by decide +kernel
theorem dX10_next_51 : decode cX10_next 51 = .ok (.iload_n 3, 1) := by decide +kernel
theorem dX10_next_52 : decode cX10_next 52 = .ok (.invokevirtual 507, 3) := by decide +kernel
theorem dX10_next_55 : decode cX10_next 55 = .ok (.goto 5, 3) := by decide +kernel
theorem dX10_next_58 : decode cX10_next 58 = .ok (.bipush (-3), 2) := by decide +kernel
theorem dX10_next_60 : decode cX10_next 60 = .ok (.ireturn, 1) := by decide +kernel
theorem dX10_fate_0 : decode cX10_fate 0 = .ok (.aload_n 0, 1) := by decide +kernel
theorem dX10_fate_1 : decode cX10_fate 1 = .ok (.iload_n 1, 1) := by decide +kernel
theorem dX10_fate_2 : decode cX10_fate 2 = .ok (.invokevirtual 476, 3) := by decide +kernel
theorem dX10_fate_5 : decode cX10_fate 5 = .ok (.ifCond .ne 5, 3) := by decide +kernel
theorem dX10_fate_8 : decode cX10_fate 8 = .ok (.iconst (-1), 1) := by decide +kernel
theorem dX10_fate_9 : decode cX10_fate 9 = .ok (.ireturn, 1) := by decide +kernel
theorem dX10_fate_10 : decode cX10_fate 10 = .ok (.aload_n 0, 1) := by decide +kernel
theorem dX10_fate_11 : decode cX10_fate 11 = .ok (.invokevirtual 516, 3) := by decide +kernel
theorem dX10_fate_14 : decode cX10_fate 14 = .ok (.aload_n 0, 1) := by decide +kernel
theorem dX10_fate_15 : decode cX10_fate 15 = .ok (.getfield 170, 3) := by decide +kernel
theorem dX10_fate_18 : decode cX10_fate 18 = .ok (.iload_n 1, 1) := by decide +kernel
theorem dX10_fate_19 : decode cX10_fate 19 = .ok (.iaload, 1) := by decide +kernel
theorem dX10_fate_20 : decode cX10_fate 20 = .ok (.ireturn, 1) := by decide +kernel
theorem dX10_keepOf_0 : decode cX10_keepOf 0 = .ok (.iconst 0, 1) := by decide +kernel
theorem dX10_keepOf_1 : decode cX10_keepOf 1 = .ok (.istore_n 2, 1) := by decide +kernel
theorem dX10_keepOf_2 : decode cX10_keepOf 2 = .ok (.iload_n 2, 1) := by decide +kernel
theorem dX10_keepOf_3 : decode cX10_keepOf 3 = .ok (.aload_n 0, 1) := by decide +kernel
theorem dX10_keepOf_4 : decode cX10_keepOf 4 = .ok (.invokevirtual 482, 3) := by decide +kernel
theorem dX10_keepOf_7 : decode cX10_keepOf 7 = .ok (.if_icmp .ge 76, 3) := by decide +kernel
theorem dX10_keepOf_10 : decode cX10_keepOf 10 = .ok (.aload_n 0, 1) := by decide +kernel
theorem dX10_keepOf_11 : decode cX10_keepOf 11 = .ok (.getfield 163, 3) := by decide +kernel
theorem dX10_keepOf_14 : decode cX10_keepOf 14 = .ok (.bipush 6, 2) := by decide +kernel
theorem dX10_keepOf_16 : decode cX10_keepOf 16 = .ok (.iload_n 1, 1) := by decide +kernel
theorem dX10_keepOf_17 : decode cX10_keepOf 17 = .ok (.imul, 1) := by decide +kernel
theorem dX10_keepOf_18 : decode cX10_keepOf 18 = .ok (.iload_n 2, 1) := by decide +kernel
theorem dX10_keepOf_19 : decode cX10_keepOf 19 = .ok (.iadd, 1) := by decide +kernel
theorem dX10_keepOf_20 : decode cX10_keepOf 20 = .ok (.baload, 1) := by decide +kernel
theorem dX10_keepOf_21 : decode cX10_keepOf 21 = .ok (.ifCond .ne 6, 3) := by decide +kernel
theorem dX10_keepOf_24 : decode cX10_keepOf 24 = .ok (.goto 53, 3) := by decide +kernel
theorem dX10_keepOf_27 : decode cX10_keepOf 27 = .ok (.aload_n 0, 1) := by decide +kernel
theorem dX10_keepOf_28 : decode cX10_keepOf 28 = .ok (.getfield 170, 3) := by decide +kernel
theorem dX10_keepOf_31 : decode cX10_keepOf 31 = .ok (.iload_n 1, 1) := by decide +kernel
theorem dX10_keepOf_32 : decode cX10_keepOf 32 = .ok (.iaload, 1) := by decide +kernel
theorem dX10_keepOf_33 : decode cX10_keepOf 33 = .ok (.ifCond .ne 5, 3) := by decide +kernel
theorem dX10_keepOf_36 : decode cX10_keepOf 36 = .ok (.iload_n 2, 1) := by decide +kernel
theorem dX10_keepOf_37 : decode cX10_keepOf 37 = .ok (.ireturn, 1) := by decide +kernel
theorem dX10_keepOf_38 : decode cX10_keepOf 38 = .ok (.aload_n 0, 1) := by decide +kernel
theorem dX10_keepOf_39 : decode cX10_keepOf 39 = .ok (.iload_n 1, 1) := by decide +kernel
theorem dX10_keepOf_40 : decode cX10_keepOf 40 = .ok (.invokevirtual 519, 3) := by decide +kernel
theorem dX10_keepOf_43 : decode cX10_keepOf 43 = .ok (.ifCond .eq 15, 3) := by decide +kernel
theorem dX10_keepOf_46 : decode cX10_keepOf 46 = .ok (.aload_n 0, 1) := by decide +kernel
theorem dX10_keepOf_47 : decode cX10_keepOf 47 = .ok (.iload_n 1, 1) := by decide +kernel
theorem dX10_keepOf_48 : decode cX10_keepOf 48 = .ok (.iload_n 2, 1) := by decide +kernel
theorem dX10_keepOf_49 : decode cX10_keepOf 49 = .ok (.invokevirtual 522, 3) := by decide +kernel
theorem dX10_keepOf_52 : decode cX10_keepOf 52 = .ok (.ifCond .eq 25, 3) := by decide +kernel
theorem dX10_keepOf_55 : decode cX10_keepOf 55 = .ok (.goto 20, 3) := by decide +kernel
theorem dX10_keepOf_58 : decode cX10_keepOf 58 = .ok (.aload_n 0, 1) := by decide +kernel
theorem dX10_keepOf_59 : decode cX10_keepOf 59 = .ok (.iload_n 1, 1) := by decide +kernel
theorem dX10_keepOf_60 : decode cX10_keepOf 60 = .ok (.iload_n 2, 1) := by decide +kernel
theorem dX10_keepOf_61 : decode cX10_keepOf 61 = .ok (.aload_n 0, 1) := by decide +kernel
theorem dX10_keepOf_62 : decode cX10_keepOf 62 = .ok (.getfield 170, 3) := by decide +kernel
theorem dX10_keepOf_65 : decode cX10_keepOf 65 = .ok (.iload_n 1, 1) := by decide +kernel
theorem dX10_keepOf_66 : decode cX10_keepOf 66 = .ok (.iaload, 1) := by decide +kernel
theorem dX10_keepOf_67 : decode cX10_keepOf 67 = .ok (.iconst 1, 1) := by decide +kernel
theorem dX10_keepOf_68 : decode cX10_keepOf 68 = .ok (.isub, 1) := by decide +kernel
theorem dX10_keepOf_69 : decode cX10_keepOf 69 = .ok (.invokevirtual 510, 3) := by decide +kernel
theorem dX10_keepOf_72 : decode cX10_keepOf 72 = .ok (.ifCond .eq 5, 3) := by decide +kernel
theorem dX10_keepOf_75 : decode cX10_keepOf 75 = .ok (.iload_n 2, 1) := by decide +kernel
theorem dX10_keepOf_76 : decode cX10_keepOf 76 = .ok (.ireturn, 1) := by decide +kernel
theorem dX10_keepOf_77 : decode cX10_keepOf 77 = .ok (.iinc 2 1, 3) := by decide +kernel
theorem dX10_keepOf_80 : decode cX10_keepOf 80 = .ok (.goto (-78), 3) := by decide +kernel
theorem dX10_keepOf_83 : decode cX10_keepOf 83 = .ok (.bipush (-2), 2) := by decide +kernel
theorem dX10_keepOf_85 : decode cX10_keepOf 85 = .ok (.ireturn, 1) := by decide +kernel
theorem dX10_isSafeBy_0 : decode cX10_isSafeBy 0 = .ok (.aload_n 0, 1) := by decide +kernel
theorem dX10_isSafeBy_1 : decode cX10_isSafeBy 1 = .ok (.getfield 157, 3) := by decide +kernel
theorem dX10_isSafeBy_4 : decode cX10_isSafeBy 4 = .ok (.iload_n 1, 1) := by decide +kernel
theorem dX10_isSafeBy_5 : decode cX10_isSafeBy 5 = .ok (.iaload, 1) := by decide +kernel
theorem dX10_isSafeBy_6 : decode cX10_isSafeBy 6 = .ok (.istore_n 3, 1) := by decide +kernel
theorem dX10_isSafeBy_7 : decode cX10_isSafeBy 7 = .ok (.iload_n 3, 1) := by decide +kernel
theorem dX10_isSafeBy_8 : decode cX10_isSafeBy 8 = .ok (.aload_n 0, 1) := by decide +kernel
theorem dX10_isSafeBy_9 : decode cX10_isSafeBy 9 = .ok (.getfield 160, 3) := by decide +kernel
theorem dX10_isSafeBy_12 : decode cX10_isSafeBy 12 = .ok (.iload_n 1, 1) := by decide +kernel
theorem dX10_isSafeBy_13 : decode cX10_isSafeBy 13 = .ok (.iaload, 1) := by decide +kernel
theorem dX10_isSafeBy_14 : decode cX10_isSafeBy 14 = .ok (.if_icmp .gt 36, 3) := by decide +kernel
theorem dX10_isSafeBy_17 : decode cX10_isSafeBy 17 = .ok (.aload_n 0, 1) := by decide +kernel
theorem dX10_isSafeBy_18 : decode cX10_isSafeBy 18 = .ok (.iload_n 1, 1) := by decide +kernel
theorem dX10_isSafeBy_19 : decode cX10_isSafeBy 19 = .ok (.iload_n 2, 1) := by decide +kernel
theorem dX10_isSafeBy_20 : decode cX10_isSafeBy 20 = .ok (.iload_n 3, 1) := by decide +kernel
theorem dX10_isSafeBy_21 : decode cX10_isSafeBy 21 = .ok (.invokevirtual 507, 3) := by decide +kernel
theorem dX10_isSafeBy_24 : decode cX10_isSafeBy 24 = .ok (.istore 4, 2) := by decide +kernel
theorem dX10_isSafeBy_26 : decode cX10_isSafeBy 26 = .ok (.iload 4, 2) := by decide +kernel
theorem dX10_isSafeBy_28 : decode cX10_isSafeBy 28 = .ok (.bipush (-2), 2) := by decide +kernel
theorem dX10_isSafeBy_30 : decode cX10_isSafeBy 30 = .ok (.if_icmp .eq 12, 3) := by decide +kernel
theorem dX10_isSafeBy_33 : decode cX10_isSafeBy 33 = .ok (.aload_n 0, 1) := by decide +kernel
theorem dX10_isSafeBy_34 : decode cX10_isSafeBy 34 = .ok (.iload 4, 2) := by decide +kernel
theorem dX10_isSafeBy_36 : decode cX10_isSafeBy 36 = .ok (.invokevirtual 519, 3) := by decide +kernel
theorem dX10_isSafeBy_39 : decode cX10_isSafeBy 39 = .ok (.ifCond .ne 5, 3) := by decide +kernel
theorem dX10_isSafeBy_42 : decode cX10_isSafeBy 42 = .ok (.iconst 0, 1) := by decide +kernel
theorem dX10_isSafeBy_43 : decode cX10_isSafeBy 43 = .ok (.ireturn, 1) := by decide +kernel
theorem dX10_isSafeBy_44 : decode cX10_isSafeBy 44 = .ok (.iinc 3 1, 3) := by decide +kernel
theorem dX10_isSafeBy_47 : decode cX10_isSafeBy 47 = .ok (.goto (-40), 3) := by decide +kernel
theorem dX10_isSafeBy_50 : decode cX10_isSafeBy 50 = .ok (.iconst 1, 1) := by decide +kernel
theorem dX10_isSafeBy_51 : decode cX10_isSafeBy 51 = .ok (.ireturn, 1) := by decide +kernel
theorem dX10_keep_0 : decode cX10_keep 0 = .ok (.aload_n 0, 1) := by decide +kernel
theorem dX10_keep_1 : decode cX10_keep 1 = .ok (.iload_n 1, 1) := by decide +kernel
theorem dX10_keep_2 : decode cX10_keep 2 = .ok (.invokevirtual 476, 3) := by decide +kernel
theorem dX10_keep_5 : decode cX10_keep 5 = .ok (.ifCond .ne 5, 3) := by decide +kernel
theorem dX10_keep_8 : decode cX10_keep 8 = .ok (.iconst (-1), 1) := by decide +kernel
theorem dX10_keep_9 : decode cX10_keep 9 = .ok (.ireturn, 1) := by decide +kernel
theorem dX10_keep_10 : decode cX10_keep 10 = .ok (.aload_n 0, 1) := by decide +kernel
theorem dX10_keep_11 : decode cX10_keep 11 = .ok (.invokevirtual 516, 3) := by decide +kernel
theorem dX10_keep_14 : decode cX10_keep 14 = .ok (.aload_n 0, 1) := by decide +kernel
theorem dX10_keep_15 : decode cX10_keep 15 = .ok (.iload_n 1, 1) := by decide +kernel
theorem dX10_keep_16 : decode cX10_keep 16 = .ok (.invokevirtual 525, 3) := by decide +kernel
theorem dX10_keep_19 : decode cX10_keep 19 = .ok (.ireturn, 1) := by decide +kernel
theorem dX10_isNearer_0 : decode cX10_isNearer 0 = .ok (.aload_n 0, 1) := by decide +kernel
theorem dX10_isNearer_1 : decode cX10_isNearer 1 = .ok (.getfield 163, 3) := by decide +kernel
theorem dX10_isNearer_4 : decode cX10_isNearer 4 = .ok (.bipush 6, 2) := by decide +kernel
theorem dX10_isNearer_6 : decode cX10_isNearer 6 = .ok (.iload_n 1, 1) := by decide +kernel
theorem dX10_isNearer_7 : decode cX10_isNearer 7 = .ok (.imul, 1) := by decide +kernel
theorem dX10_isNearer_8 : decode cX10_isNearer 8 = .ok (.iload_n 2, 1) := by decide +kernel
theorem dX10_isNearer_9 : decode cX10_isNearer 9 = .ok (.iadd, 1) := by decide +kernel
theorem dX10_isNearer_10 : decode cX10_isNearer 10 = .ok (.baload, 1) := by decide +kernel
theorem dX10_isNearer_11 : decode cX10_isNearer 11 = .ok (.ifCond .ne 5, 3) := by decide +kernel
theorem dX10_isNearer_14 : decode cX10_isNearer 14 = .ok (.iconst 0, 1) := by decide +kernel
theorem dX10_isNearer_15 : decode cX10_isNearer 15 = .ok (.ireturn, 1) := by decide +kernel
theorem dX10_isNearer_16 : decode cX10_isNearer 16 = .ok (.aload_n 0, 1) := by decide +kernel
theorem dX10_isNearer_17 : decode cX10_isNearer 17 = .ok (.getfield 157, 3) := by decide +kernel
theorem dX10_isNearer_20 : decode cX10_isNearer 20 = .ok (.iload_n 1, 1) := by decide +kernel
theorem dX10_isNearer_21 : decode cX10_isNearer 21 = .ok (.iaload, 1) := by decide +kernel
theorem dX10_isNearer_22 : decode cX10_isNearer 22 = .ok (.istore 4, 2) := by decide +kernel
theorem dX10_isNearer_24 : decode cX10_isNearer 24 = .ok (.iload 4, 2) := by decide +kernel
theorem dX10_isNearer_26 : decode cX10_isNearer 26 = .ok (.aload_n 0, 1) := by decide +kernel
theorem dX10_isNearer_27 : decode cX10_isNearer 27 = .ok (.getfield 160, 3) := by decide +kernel
theorem dX10_isNearer_30 : decode cX10_isNearer 30 = .ok (.iload_n 1, 1) := by decide +kernel
theorem dX10_isNearer_31 : decode cX10_isNearer 31 = .ok (.iaload, 1) := by decide +kernel
theorem dX10_isNearer_32 : decode cX10_isNearer 32 = .ok (.if_icmp .gt 49, 3) := by decide +kernel
theorem dX10_isNearer_35 : decode cX10_isNearer 35 = .ok (.aload_n 0, 1) := by decide +kernel
theorem dX10_isNearer_36 : decode cX10_isNearer 36 = .ok (.iload_n 1, 1) := by decide +kernel
theorem dX10_isNearer_37 : decode cX10_isNearer 37 = .ok (.iload_n 2, 1) := by decide +kernel
theorem dX10_isNearer_38 : decode cX10_isNearer 38 = .ok (.iload 4, 2) := by decide +kernel
theorem dX10_isNearer_40 : decode cX10_isNearer 40 = .ok (.invokevirtual 507, 3) := by decide +kernel
theorem dX10_isNearer_43 : decode cX10_isNearer 43 = .ok (.istore 5, 2) := by decide +kernel
theorem dX10_isNearer_45 : decode cX10_isNearer 45 = .ok (.iload 5, 2) := by decide +kernel
theorem dX10_isNearer_47 : decode cX10_isNearer 47 = .ok (.bipush (-2), 2) := by decide +kernel
theorem dX10_isNearer_49 : decode cX10_isNearer 49 = .ok (.if_icmp .eq 24, 3) := by decide +kernel
theorem dX10_isNearer_52 : decode cX10_isNearer 52 = .ok (.aload_n 0, 1) := by decide +kernel
theorem dX10_isNearer_53 : decode cX10_isNearer 53 = .ok (.getfield 173, 3) := by decide +kernel
theorem dX10_isNearer_56 : decode cX10_isNearer 56 = .ok (.iload 5, 2) := by decide +kernel
theorem dX10_isNearer_58 : decode cX10_isNearer 58 = .ok (.iaload, 1) := by decide +kernel
theorem dX10_isNearer_59 : decode cX10_isNearer 59 = .ok (.ifCond .lt 14, 3) := by decide +kernel
theorem dX10_isNearer_62 : decode cX10_isNearer 62 = .ok (.aload_n 0, 1) := by decide +kernel
theorem dX10_isNearer_63 : decode cX10_isNearer 63 = .ok (.getfield 173, 3) := by decide +kernel
theorem dX10_isNearer_66 : decode cX10_isNearer 66 = .ok (.iload 5, 2) := by decide +kernel
theorem dX10_isNearer_68 : decode cX10_isNearer 68 = .ok (.iaload, 1) := by decide +kernel
theorem dX10_isNearer_69 : decode cX10_isNearer 69 = .ok (.iload_n 3, 1) := by decide +kernel
theorem dX10_isNearer_70 : decode cX10_isNearer 70 = .ok (.if_icmp .lt 5, 3) := by decide +kernel
theorem dX10_isNearer_73 : decode cX10_isNearer 73 = .ok (.iconst 0, 1) := by decide +kernel
theorem dX10_isNearer_74 : decode cX10_isNearer 74 = .ok (.ireturn, 1) := by decide +kernel
theorem dX10_isNearer_75 : decode cX10_isNearer 75 = .ok (.iinc 4 1, 3) := by decide +kernel
theorem dX10_isNearer_78 : decode cX10_isNearer 78 = .ok (.goto (-54), 3) := by decide +kernel
theorem dX10_isNearer_81 : decode cX10_isNearer 81 = .ok (.iconst 1, 1) := by decide +kernel
theorem dX10_isNearer_82 : decode cX10_isNearer 82 = .ok (.ireturn, 1) := by decide +kernel
theorem dX10_reaches_0 : decode cX10_reaches 0 = .ok (.aload_n 0, 1) := by decide +kernel
theorem dX10_reaches_1 : decode cX10_reaches 1 = .ok (.invokevirtual 516, 3) := by decide +kernel
theorem dX10_reaches_4 : decode cX10_reaches 4 = .ok (.aload_n 0, 1) := by decide +kernel
theorem dX10_reaches_5 : decode cX10_reaches 5 = .ok (.getfield 495, 3) := by decide +kernel
theorem dX10_reaches_8 : decode cX10_reaches 8 = .ok (.ifCond .eq 4, 3) := by decide +kernel
theorem dX10_reaches_11 : decode cX10_reaches 11 = .ok (.return_, 1) := by decide +kernel
theorem dX10_reaches_12 : decode cX10_reaches 12 = .ok (.aload_n 0, 1) := by decide +kernel
theorem dX10_reaches_13 : decode cX10_reaches 13 = .ok (.iconst 1, 1) := by decide +kernel
theorem dX10_reaches_14 : decode cX10_reaches 14 = .ok (.putfield 495, 3) := by decide +kernel
theorem dX10_reaches_17 : decode cX10_reaches 17 = .ok (.iconst 0, 1) := by decide +kernel
theorem dX10_reaches_18 : decode cX10_reaches 18 = .ok (.istore_n 1, 1) := by decide +kernel
theorem dX10_reaches_19 : decode cX10_reaches 19 = .ok (.iload_n 1, 1) := by decide +kernel
theorem dX10_reaches_20 : decode cX10_reaches 20 = .ok (.sipush 2079, 3) := by decide +kernel
theorem dX10_reaches_23 : decode cX10_reaches 23 = .ok (.if_icmp .ge 37, 3) := by decide +kernel
theorem dX10_reaches_26 : decode cX10_reaches 26 = .ok (.aload_n 0, 1) := by decide +kernel
theorem dX10_reaches_27 : decode cX10_reaches 27 = .ok (.getfield 173, 3) := by decide +kernel
theorem dX10_reaches_30 : decode cX10_reaches 30 = .ok (.iload_n 1, 1) := by decide +kernel
theorem dX10_reaches_31 : decode cX10_reaches 31 = .ok (.aload_n 0, 1) := by decide +kernel
theorem dX10_reaches_32 : decode cX10_reaches 32 = .ok (.iload_n 1, 1) := by decide +kernel
theorem dX10_reaches_33 : decode cX10_reaches 33 = .ok (.invokevirtual 476, 3) := by decide +kernel
theorem dX10_reaches_36 : decode cX10_reaches 36 = .ok (.ifCond .eq 15, 3) := by decide +kernel
theorem dX10_reaches_39 : decode cX10_reaches 39 = .ok (.aload_n 0, 1) := by decide +kernel
theorem dX10_reaches_40 : decode cX10_reaches 40 = .ok (.iload_n 1, 1) := by decide +kernel
theorem dX10_reaches_41 : decode cX10_reaches 41 = .ok (.invokevirtual 460, 3) := by decide +kernel
theorem dX10_reaches_44 : decode cX10_reaches 44 = .ok (.ifCond .eq 7, 3) := by decide +kernel
theorem dX10_reaches_47 : decode cX10_reaches 47 = .ok (.iconst 0, 1) := by decide +kernel
theorem dX10_reaches_48 : decode cX10_reaches 48 = .ok (.goto 5, 3) := by decide +kernel
theorem dX10_reaches_51 : decode cX10_reaches 51 = .ok (.bipush (-2), 2) := by decide +kernel
theorem dX10_reaches_53 : decode cX10_reaches 53 = .ok (.iastore, 1) := by decide +kernel
theorem dX10_reaches_54 : decode cX10_reaches 54 = .ok (.iinc 1 1, 3) := by decide +kernel
theorem dX10_reaches_57 : decode cX10_reaches 57 = .ok (.goto (-38), 3) := by decide +kernel
theorem dX10_reaches_60 : decode cX10_reaches 60 = .ok (.iconst 1, 1) := by decide +kernel
theorem dX10_reaches_61 : decode cX10_reaches 61 = .ok (.istore_n 1, 1) := by decide +kernel
theorem dX10_reaches_62 : decode cX10_reaches 62 = .ok (.iconst 1, 1) := by decide +kernel
theorem dX10_reaches_63 : decode cX10_reaches 63 = .ok (.istore_n 2, 1) := by decide +kernel
theorem dX10_reaches_64 : decode cX10_reaches 64 = .ok (.iload_n 1, 1) := by decide +kernel
theorem dX10_reaches_65 : decode cX10_reaches 65 = .ok (.ifCond .eq 99, 3) := by decide +kernel
theorem dX10_reaches_68 : decode cX10_reaches 68 = .ok (.iconst 0, 1) := by decide +kernel
theorem dX10_reaches_69 : decode cX10_reaches 69 = .ok (.istore_n 1, 1) := by decide +kernel
theorem dX10_reaches_70 : decode cX10_reaches 70 = .ok (.iconst 0, 1) := by decide +kernel
theorem dX10_reaches_71 : decode cX10_reaches 71 = .ok (.istore_n 3, 1) := by decide +kernel
theorem dX10_reaches_72 : decode cX10_reaches 72 = .ok (.iload_n 3, 1) := by decide +kernel
theorem dX10_reaches_73 : decode cX10_reaches 73 = .ok (.sipush 2079, 3) := by decide +kernel
theorem dX10_reaches_76 : decode cX10_reaches 76 = .ok (.if_icmp .ge 82, 3) := by decide +kernel
theorem dX10_reaches_79 : decode cX10_reaches 79 = .ok (.aload_n 0, 1) := by decide +kernel
theorem dX10_reaches_80 : decode cX10_reaches 80 = .ok (.iload_n 3, 1) := by decide +kernel
theorem dX10_reaches_81 : decode cX10_reaches 81 = .ok (.invokevirtual 476, 3) := by decide +kernel
theorem dX10_reaches_84 : decode cX10_reaches 84 = .ok (.ifCond .eq 68, 3) := by decide +kernel
theorem dX10_reaches_87 : decode cX10_reaches 87 = .ok (.aload_n 0, 1) := by decide +kernel
theorem dX10_reaches_88 : decode cX10_reaches 88 = .ok (.getfield 173, 3) := by decide +kernel
theorem dX10_reaches_91 : decode cX10_reaches 91 = .ok (.iload_n 3, 1) := by decide +kernel
theorem dX10_reaches_92 : decode cX10_reaches 92 = .ok (.iaload, 1) := by decide +kernel
theorem dX10_reaches_93 : decode cX10_reaches 93 = .ok (.ifCond .lt 6, 3) := by decide +kernel
theorem dX10_reaches_96 : decode cX10_reaches 96 = .ok (.goto 56, 3) := by decide +kernel
theorem dX10_reaches_99 : decode cX10_reaches 99 = .ok (.iconst 0, 1) := by decide +kernel
theorem dX10_reaches_100 : decode cX10_reaches 100 = .ok (.istore 4, 2) := by decide +kernel
theorem dX10_reaches_102 : decode cX10_reaches 102 = .ok (.iconst 0, 1) := by decide +kernel
theorem dX10_reaches_103 : decode cX10_reaches 103 = .ok (.istore 5, 2) := by decide +kernel
theorem dX10_reaches_105 : decode cX10_reaches 105 = .ok (.iload 5, 2) := by decide +kernel
theorem dX10_reaches_107 : decode cX10_reaches 107 = .ok (.aload_n 0, 1) := by decide +kernel
theorem dX10_reaches_108 : decode cX10_reaches 108 = .ok (.invokevirtual 482, 3) := by decide +kernel
theorem dX10_reaches_111 : decode cX10_reaches 111 = .ok (.if_icmp .ge 24, 3) := by decide +kernel
theorem dX10_reaches_114 : decode cX10_reaches 114 = .ok (.iload 4, 2) := by decide +kernel
theorem dX10_reaches_116 : decode cX10_reaches 116 = .ok (.ifCond .ne 19, 3) := by decide +kernel
theorem dX10_reaches_119 : decode cX10_reaches 119 = .ok (.aload_n 0, 1) := by decide +kernel
theorem dX10_reaches_120 : decode cX10_reaches 120 = .ok (.iload_n 3, 1) := by decide +kernel
theorem dX10_reaches_121 : decode cX10_reaches 121 = .ok (.iload 5, 2) := by decide +kernel
theorem dX10_reaches_123 : decode cX10_reaches 123 = .ok (.iload_n 2, 1) := by decide +kernel
theorem dX10_reaches_124 : decode cX10_reaches 124 = .ok (.invokevirtual 528, 3) := by decide +kernel
theorem dX10_reaches_127 : decode cX10_reaches 127 = .ok (.istore 4, 2) := by decide +kernel
theorem dX10_reaches_129 : decode cX10_reaches 129 = .ok (.iinc 5 1, 3) := by decide +kernel
theorem dX10_reaches_132 : decode cX10_reaches 132 = .ok (.goto (-27), 3) := by decide +kernel
theorem dX10_reaches_135 : decode cX10_reaches 135 = .ok (.iload 4, 2) := by decide +kernel
theorem dX10_reaches_137 : decode cX10_reaches 137 = .ok (.ifCond .ne 6, 3) := by decide +kernel
theorem dX10_reaches_140 : decode cX10_reaches 140 = .ok (.goto 12, 3) := by decide +kernel
theorem dX10_reaches_143 : decode cX10_reaches 143 = .ok (.aload_n 0, 1) := by decide +kernel
theorem dX10_reaches_144 : decode cX10_reaches 144 = .ok (.getfield 173, 3) := by decide +kernel
theorem dX10_reaches_147 : decode cX10_reaches 147 = .ok (.iload_n 3, 1) := by decide +kernel
theorem dX10_reaches_148 : decode cX10_reaches 148 = .ok (.iload_n 2, 1) := by decide +kernel
theorem dX10_reaches_149 : decode cX10_reaches 149 = .ok (.iastore, 1) := by decide +kernel
theorem dX10_reaches_150 : decode cX10_reaches 150 = .ok (.iconst 1, 1) := by decide +kernel
theorem dX10_reaches_151 : decode cX10_reaches 151 = .ok (.istore_n 1, 1) := by decide +kernel
theorem dX10_reaches_152 : decode cX10_reaches 152 = .ok (.iinc 3 1, 3) := by decide +kernel
theorem dX10_reaches_155 : decode cX10_reaches 155 = .ok (.goto (-83), 3) := by decide +kernel
theorem dX10_reaches_158 : decode cX10_reaches 158 = .ok (.iinc 2 1, 3) := by decide +kernel
theorem dX10_reaches_161 : decode cX10_reaches 161 = .ok (.goto (-97), 3) := by decide +kernel
theorem dX10_reaches_164 : decode cX10_reaches 164 = .ok (.return_, 1) := by decide +kernel
theorem dX10_reach_0 : decode cX10_reach 0 = .ok (.aload_n 0, 1) := by decide +kernel
theorem dX10_reach_1 : decode cX10_reach 1 = .ok (.iload_n 1, 1) := by decide +kernel
theorem dX10_reach_2 : decode cX10_reach 2 = .ok (.invokevirtual 476, 3) := by decide +kernel
theorem dX10_reach_5 : decode cX10_reach 5 = .ok (.ifCond .ne 5, 3) := by decide +kernel
theorem dX10_reach_8 : decode cX10_reach 8 = .ok (.iconst (-1), 1) := by decide +kernel
theorem dX10_reach_9 : decode cX10_reach 9 = .ok (.ireturn, 1) := by decide +kernel
theorem dX10_reach_10 : decode cX10_reach 10 = .ok (.aload_n 0, 1) := by decide +kernel
theorem dX10_reach_11 : decode cX10_reach 11 = .ok (.invokevirtual 531, 3) := by decide +kernel
theorem dX10_reach_14 : decode cX10_reach 14 = .ok (.aload_n 0, 1) := by decide +kernel
theorem dX10_reach_15 : decode cX10_reach 15 = .ok (.getfield 173, 3) := by decide +kernel
theorem dX10_reach_18 : decode cX10_reach 18 = .ok (.iload_n 1, 1) := by decide +kernel
theorem dX10_reach_19 : decode cX10_reach 19 = .ok (.iaload, 1) := by decide +kernel
theorem dX10_reach_20 : decode cX10_reach 20 = .ok (.ireturn, 1) := by decide +kernel
theorem dX10_lead_0 : decode cX10_lead 0 = .ok (.aload_n 0, 1) := by decide +kernel
theorem dX10_lead_1 : decode cX10_lead 1 = .ok (.iload_n 1, 1) := by decide +kernel
theorem dX10_lead_2 : decode cX10_lead 2 = .ok (.invokevirtual 476, 3) := by decide +kernel
theorem dX10_lead_5 : decode cX10_lead 5 = .ok (.ifCond .ne 5, 3) := by decide +kernel
theorem dX10_lead_8 : decode cX10_lead 8 = .ok (.iconst (-1), 1) := by decide +kernel
theorem dX10_lead_9 : decode cX10_lead 9 = .ok (.ireturn, 1) := by decide +kernel
theorem dX10_lead_10 : decode cX10_lead 10 = .ok (.aload_n 0, 1) := by decide +kernel
theorem dX10_lead_11 : decode cX10_lead 11 = .ok (.invokevirtual 531, 3) := by decide +kernel
theorem dX10_lead_14 : decode cX10_lead 14 = .ok (.aload_n 0, 1) := by decide +kernel
theorem dX10_lead_15 : decode cX10_lead 15 = .ok (.getfield 173, 3) := by decide +kernel
theorem dX10_lead_18 : decode cX10_lead 18 = .ok (.iload_n 1, 1) := by decide +kernel
theorem dX10_lead_19 : decode cX10_lead 19 = .ok (.iaload, 1) := by decide +kernel
theorem dX10_lead_20 : decode cX10_lead 20 = .ok (.iconst 1, 1) := by decide +kernel
theorem dX10_lead_21 : decode cX10_lead 21 = .ok (.if_icmp .ge 6, 3) := by decide +kernel
theorem dX10_lead_24 : decode cX10_lead 24 = .ok (.bipush (-2), 2) := by decide +kernel
theorem dX10_lead_26 : decode cX10_lead 26 = .ok (.ireturn, 1) := by decide +kernel
theorem dX10_lead_27 : decode cX10_lead 27 = .ok (.iconst 0, 1) := by decide +kernel
theorem dX10_lead_28 : decode cX10_lead 28 = .ok (.istore_n 2, 1) := by decide +kernel
theorem dX10_lead_29 : decode cX10_lead 29 = .ok (.iload_n 2, 1) := by decide +kernel
theorem dX10_lead_30 : decode cX10_lead 30 = .ok (.aload_n 0, 1) := by decide +kernel
theorem dX10_lead_31 : decode cX10_lead 31 = .ok (.invokevirtual 482, 3) := by decide +kernel
theorem dX10_lead_34 : decode cX10_lead 34 = .ok (.if_icmp .ge 26, 3) := by decide +kernel
theorem dX10_lead_37 : decode cX10_lead 37 = .ok (.aload_n 0, 1) := by decide +kernel
theorem dX10_lead_38 : decode cX10_lead 38 = .ok (.iload_n 1, 1) := by decide +kernel
theorem dX10_lead_39 : decode cX10_lead 39 = .ok (.iload_n 2, 1) := by decide +kernel
theorem dX10_lead_40 : decode cX10_lead 40 = .ok (.aload_n 0, 1) := by decide +kernel
theorem dX10_lead_41 : decode cX10_lead 41 = .ok (.getfield 173, 3) := by decide +kernel
theorem dX10_lead_44 : decode cX10_lead 44 = .ok (.iload_n 1, 1) := by decide +kernel
theorem dX10_lead_45 : decode cX10_lead 45 = .ok (.iaload, 1) := by decide +kernel
theorem dX10_lead_46 : decode cX10_lead 46 = .ok (.invokevirtual 528, 3) := by decide +kernel
theorem dX10_lead_49 : decode cX10_lead 49 = .ok (.ifCond .eq 5, 3) := by decide +kernel
theorem dX10_lead_52 : decode cX10_lead 52 = .ok (.iload_n 2, 1) := by decide +kernel
theorem dX10_lead_53 : decode cX10_lead 53 = .ok (.ireturn, 1) := by decide +kernel
theorem dX10_lead_54 : decode cX10_lead 54 = .ok (.iinc 2 1, 3) := by decide +kernel
theorem dX10_lead_57 : decode cX10_lead 57 = .ok (.goto (-28), 3) := by decide +kernel
theorem dX10_lead_60 : decode cX10_lead 60 = .ok (.bipush (-2), 2) := by decide +kernel
theorem dX10_lead_62 : decode cX10_lead 62 = .ok (.ireturn, 1) := by decide +kernel
theorem dX10_safe_0 : decode cX10_safe 0 = .ok (.iload_n 1, 1) := by decide +kernel
theorem dX10_safe_1 : decode cX10_safe 1 = .ok (.ifCond .lt 16, 3) := by decide +kernel
theorem dX10_safe_4 : decode cX10_safe 4 = .ok (.iload_n 1, 1) := by decide +kernel
theorem dX10_safe_5 : decode cX10_safe 5 = .ok (.aload_n 0, 1) := by decide +kernel
theorem dX10_safe_6 : decode cX10_safe 6 = .ok (.getfield 30, 3) := by decide +kernel
theorem dX10_safe_9 : decode cX10_safe 9 = .ok (.aload_n 0, 1) := by decide +kernel
theorem dX10_safe_10 : decode cX10_safe 10 = .ok (.getfield 388, 3) := by decide +kernel
theorem dX10_safe_13 : decode cX10_safe 13 = .ok (.iaload, 1) := by decide +kernel
theorem dX10_safe_14 : decode cX10_safe 14 = .ok (.if_icmp .le 5, 3) := by decide +kernel
theorem dX10_safe_17 : decode cX10_safe 17 = .ok (.iconst (-1), 1) := by decide +kernel
theorem dX10_safe_18 : decode cX10_safe 18 = .ok (.ireturn, 1) := by decide +kernel
theorem dX10_safe_19 : decode cX10_safe 19 = .ok (.aload_n 0, 1) := by decide +kernel
theorem dX10_safe_20 : decode cX10_safe 20 = .ok (.invokevirtual 516, 3) := by decide +kernel
theorem dX10_safe_23 : decode cX10_safe 23 = .ok (.iconst 0, 1) := by decide +kernel
theorem dX10_safe_24 : decode cX10_safe 24 = .ok (.istore_n 2, 1) := by decide +kernel
theorem dX10_safe_25 : decode cX10_safe 25 = .ok (.sipush 231, 3) := by decide +kernel
theorem dX10_safe_28 : decode cX10_safe 28 = .ok (.iload_n 1, 1) := by decide +kernel
theorem dX10_safe_29 : decode cX10_safe 29 = .ok (.imul, 1) := by decide +kernel
theorem dX10_safe_30 : decode cX10_safe 30 = .ok (.istore_n 3, 1) := by decide +kernel
theorem dX10_safe_31 : decode cX10_safe 31 = .ok (.iload_n 3, 1) := by decide +kernel
theorem dX10_safe_32 : decode cX10_safe 32 = .ok (.sipush 231, 3) := by decide +kernel
theorem dX10_safe_35 : decode cX10_safe 35 = .ok (.iload_n 1, 1) := by decide +kernel
theorem dX10_safe_36 : decode cX10_safe 36 = .ok (.imul, 1) := by decide +kernel
theorem dX10_safe_37 : decode cX10_safe 37 = .ok (.sipush 231, 3) := by decide +kernel
theorem dX10_safe_40 : decode cX10_safe 40 = .ok (.iadd, 1) := by decide +kernel
theorem dX10_safe_41 : decode cX10_safe 41 = .ok (.if_icmp .ge 33, 3) := by decide +kernel
theorem dX10_safe_44 : decode cX10_safe 44 = .ok (.iload_n 2, 1) := by decide +kernel
theorem dX10_safe_45 : decode cX10_safe 45 = .ok (.aload_n 0, 1) := by decide +kernel
theorem dX10_safe_46 : decode cX10_safe 46 = .ok (.iload_n 3, 1) := by decide +kernel
theorem dX10_safe_47 : decode cX10_safe 47 = .ok (.invokevirtual 476, 3) := by decide +kernel
theorem dX10_safe_50 : decode cX10_safe 50 = .ok (.ifCond .eq 15, 3) := by decide +kernel
theorem dX10_safe_53 : decode cX10_safe 53 = .ok (.aload_n 0, 1) := by decide +kernel
theorem dX10_safe_54 : decode cX10_safe 54 = .ok (.iload_n 3, 1) := by decide +kernel
theorem dX10_safe_55 : decode cX10_safe 55 = .ok (.invokevirtual 519, 3) := by decide +kernel
theorem dX10_safe_58 : decode cX10_safe 58 = .ok (.ifCond .eq 7, 3) := by decide +kernel
theorem dX10_safe_61 : decode cX10_safe 61 = .ok (.iconst 1, 1) := by decide +kernel
theorem dX10_safe_62 : decode cX10_safe 62 = .ok (.goto 4, 3) := by decide +kernel
theorem dX10_safe_65 : decode cX10_safe 65 = .ok (.iconst 0, 1) := by decide +kernel
theorem dX10_safe_66 : decode cX10_safe 66 = .ok (.iadd, 1) := by decide +kernel
theorem dX10_safe_67 : decode cX10_safe 67 = .ok (.istore_n 2, 1) := by decide +kernel
theorem dX10_safe_68 : decode cX10_safe 68 = .ok (.iinc 3 1, 3) := by decide +kernel
theorem dX10_safe_71 : decode cX10_safe 71 = .ok (.goto (-40), 3) := by decide +kernel
theorem dX10_safe_74 : decode cX10_safe 74 = .ok (.iload_n 2, 1) := by decide +kernel
theorem dX10_safe_75 : decode cX10_safe 75 = .ok (.ireturn, 1) := by decide +kernel
theorem dX10_edge_0 : decode cX10_edge 0 = .ok (.aload_n 0, 1) := by decide +kernel
theorem dX10_edge_1 : decode cX10_edge 1 = .ok (.iload_n 1, 1) := by decide +kernel
theorem dX10_edge_2 : decode cX10_edge 2 = .ok (.iconst 0, 1) := by decide +kernel
theorem dX10_edge_3 : decode cX10_edge 3 = .ok (.iload_n 2, 1) := by decide +kernel
theorem dX10_edge_4 : decode cX10_edge 4 = .ok (.invokevirtual 456, 3) := by decide +kernel
theorem dX10_edge_7 : decode cX10_edge 7 = .ok (.ifCond .ne 6, 3) := by decide +kernel
theorem dX10_edge_10 : decode cX10_edge 10 = .ok (.bipush (-100), 2) := by decide +kernel
theorem dX10_edge_12 : decode cX10_edge 12 = .ok (.ireturn, 1) := by decide +kernel
theorem dX10_edge_13 : decode cX10_edge 13 = .ok (.aload_n 0, 1) := by decide +kernel
theorem dX10_edge_14 : decode cX10_edge 14 = .ok (.invokevirtual 516, 3) := by decide +kernel
theorem dX10_edge_17 : decode cX10_edge 17 = .ok (.bipush (-100), 2) := by decide +kernel
theorem dX10_edge_19 : decode cX10_edge 19 = .ok (.istore 4, 2) := by decide +kernel
theorem dX10_edge_21 : decode cX10_edge 21 = .ok (.aload_n 0, 1) := by decide +kernel
theorem dX10_edge_22 : decode cX10_edge 22 = .ok (.getfield 33, 3) := by decide +kernel
theorem dX10_edge_25 : decode cX10_edge 25 = .ok (.aload_n 0, 1) := by decide +kernel
theorem dX10_edge_26 : decode cX10_edge 26 = .ok (.getfield 388, 3) := by decide +kernel
theorem dX10_edge_29 : decode cX10_edge 29 = .ok (.iaload, 1) := by decide +kernel
theorem dX10_edge_30 : decode cX10_edge 30 = .ok (.ineg, 1) := by decide +kernel
theorem dX10_edge_31 : decode cX10_edge 31 = .ok (.istore 5, 2) := by decide +kernel
theorem dX10_edge_33 : decode cX10_edge 33 = .ok (.iload 5, 2) := by decide +kernel
theorem dX10_edge_35 : decode cX10_edge 35 = .ok (.aload_n 0, 1) := by decide +kernel
theorem dX10_edge_36 : decode cX10_edge 36 = .ok (.getfield 33, 3) := by decide +kernel
theorem dX10_edge_39 : decode cX10_edge 39 = .ok (.aload_n 0, 1) := by decide +kernel
theorem dX10_edge_40 : decode cX10_edge 40 = .ok (.getfield 388, 3) := by decide +kernel
theorem dX10_edge_43 : decode cX10_edge 43 = .ok (.iaload, 1) := by decide +kernel
theorem dX10_edge_44 : decode cX10_edge 44 = .ok (.if_icmp .gt 41, 3) := by decide +kernel
theorem dX10_edge_47 : decode cX10_edge 47 = .ok (.aload_n 0, 1) := by decide +kernel
theorem dX10_edge_48 : decode cX10_edge 48 = .ok (.iload_n 1, 1) := by decide +kernel
theorem dX10_edge_49 : decode cX10_edge 49 = .ok (.iload 5, 2) := by decide +kernel
theorem dX10_edge_51 : decode cX10_edge 51 = .ok (.iload_n 2, 1) := by decide +kernel
theorem dX10_edge_52 : decode cX10_edge 52 = .ok (.invokestatic 472, 3) := by decide +kernel
theorem dX10_edge_55 : decode cX10_edge 55 = .ok (.invokevirtual 519, 3) := by decide +kernel
theorem dX10_edge_58 : decode cX10_edge 58 = .ok (.ifCond .ne 6, 3) := by decide +kernel
theorem dX10_edge_61 : decode cX10_edge 61 = .ok (.goto 18, 3) := by decide +kernel
theorem dX10_edge_64 : decode cX10_edge 64 = .ok (.iload_n 3, 1) := by decide +kernel
theorem dX10_edge_65 : decode cX10_edge 65 = .ok (.ifCond .ne 10, 3) := by decide +kernel
theorem dX10_edge_68 : decode cX10_edge 68 = .ok (.iload 4, 2) := by decide +kernel
theorem dX10_edge_70 : decode cX10_edge 70 = .ok (.bipush (-100), 2) := by decide +kernel
theorem dX10_edge_72 : decode cX10_edge 72 = .ok (.if_icmp .ne 7, 3) := by decide +kernel
theorem dX10_edge_75 : decode cX10_edge 75 = .ok (.iload 5, 2) := by decide +kernel
theorem dX10_edge_77 : decode cX10_edge 77 = .ok (.istore 4, 2) := by decide +kernel
theorem dX10_edge_79 : decode cX10_edge 79 = .ok (.iinc 5 1, 3) := by decide +kernel
theorem dX10_edge_82 : decode cX10_edge 82 = .ok (.goto (-49), 3) := by decide +kernel
theorem dX10_edge_85 : decode cX10_edge 85 = .ok (.iload 4, 2) := by decide +kernel
theorem dX10_edge_87 : decode cX10_edge 87 = .ok (.ireturn, 1) := by decide +kernel
theorem dX10_doom_0 : decode cX10_doom 0 = .ok (.aload_n 0, 1) := by decide +kernel
theorem dX10_doom_1 : decode cX10_doom 1 = .ok (.invokevirtual 516, 3) := by decide +kernel
theorem dX10_doom_4 : decode cX10_doom 4 = .ok (.iconst (-1), 1) := by decide +kernel
theorem dX10_doom_5 : decode cX10_doom 5 = .ok (.istore_n 1, 1) := by decide +kernel
theorem dX10_doom_6 : decode cX10_doom 6 = .ok (.iconst 0, 1) := by decide +kernel
theorem dX10_doom_7 : decode cX10_doom 7 = .ok (.istore_n 2, 1) := by decide +kernel
theorem dX10_doom_8 : decode cX10_doom 8 = .ok (.iload_n 2, 1) := by decide +kernel
theorem dX10_doom_9 : decode cX10_doom 9 = .ok (.sipush 2079, 3) := by decide +kernel
theorem dX10_doom_12 : decode cX10_doom 12 = .ok (.if_icmp .ge 42, 3) := by decide +kernel
theorem dX10_doom_15 : decode cX10_doom 15 = .ok (.aload_n 0, 1) := by decide +kernel
theorem dX10_doom_16 : decode cX10_doom 16 = .ok (.iload_n 2, 1) := by decide +kernel
theorem dX10_doom_17 : decode cX10_doom 17 = .ok (.invokevirtual 476, 3) := by decide +kernel
theorem dX10_doom_20 : decode cX10_doom 20 = .ok (.ifCond .eq 28, 3) := by decide +kernel
theorem dX10_doom_23 : decode cX10_doom 23 = .ok (.aload_n 0, 1) := by decide +kernel
theorem dX10_doom_24 : decode cX10_doom 24 = .ok (.iload_n 2, 1) := by decide +kernel
theorem dX10_doom_25 : decode cX10_doom 25 = .ok (.invokevirtual 519, 3) := by decide +kernel
theorem dX10_doom_28 : decode cX10_doom 28 = .ok (.ifCond .ne 20, 3) := by decide +kernel
theorem dX10_doom_31 : decode cX10_doom 31 = .ok (.aload_n 0, 1) := by decide +kernel
theorem dX10_doom_32 : decode cX10_doom 32 = .ok (.getfield 170, 3) := by decide +kernel
theorem dX10_doom_35 : decode cX10_doom 35 = .ok (.iload_n 2, 1) := by decide +kernel
theorem dX10_doom_36 : decode cX10_doom 36 = .ok (.iaload, 1) := by decide +kernel
theorem dX10_doom_37 : decode cX10_doom 37 = .ok (.iload_n 1, 1) := by decide +kernel
theorem dX10_doom_38 : decode cX10_doom 38 = .ok (.if_icmp .le 10, 3) := by decide +kernel
theorem dX10_doom_41 : decode cX10_doom 41 = .ok (.aload_n 0, 1) := by decide +kernel
theorem dX10_doom_42 : decode cX10_doom 42 = .ok (.getfield 170, 3) := by decide +kernel
theorem dX10_doom_45 : decode cX10_doom 45 = .ok (.iload_n 2, 1) := by decide +kernel
theorem dX10_doom_46 : decode cX10_doom 46 = .ok (.iaload, 1) := by decide +kernel
theorem dX10_doom_47 : decode cX10_doom 47 = .ok (.istore_n 1, 1) := by decide +kernel
theorem dX10_doom_48 : decode cX10_doom 48 = .ok (.iinc 2 1, 3) := by decide +kernel
theorem dX10_doom_51 : decode cX10_doom 51 = .ok (.goto (-43), 3) := by decide +kernel
theorem dX10_doom_54 : decode cX10_doom 54 = .ok (.iload_n 1, 1) := by decide +kernel
theorem dX10_doom_55 : decode cX10_doom 55 = .ok (.ireturn, 1) := by decide +kernel
theorem dX10_saves_0 : decode cX10_saves 0 = .ok (.iconst 0, 1) := by decide +kernel
theorem dX10_saves_1 : decode cX10_saves 1 = .ok (.istore_n 2, 1) := by decide +kernel
theorem dX10_saves_2 : decode cX10_saves 2 = .ok (.iload_n 2, 1) := by decide +kernel
theorem dX10_saves_3 : decode cX10_saves 3 = .ok (.sipush 2079, 3) := by decide +kernel
theorem dX10_saves_6 : decode cX10_saves 6 = .ok (.if_icmp .ge 20, 3) := by decide +kernel
theorem dX10_saves_9 : decode cX10_saves 9 = .ok (.aload_n 0, 1) := by decide +kernel
theorem dX10_saves_10 : decode cX10_saves 10 = .ok (.getfield 182, 3) := by decide +kernel
theorem dX10_saves_13 : decode cX10_saves 13 = .ok (.iload_n 2, 1) := by decide +kernel
theorem dX10_saves_14 : decode cX10_saves 14 = .ok (.aload_n 0, 1) := by decide +kernel
theorem dX10_saves_15 : decode cX10_saves 15 = .ok (.iload_n 2, 1) := by decide +kernel
theorem dX10_saves_16 : decode cX10_saves 16 = .ok (.invokevirtual 476, 3) := by decide +kernel
theorem dX10_saves_19 : decode cX10_saves 19 = .ok (.bastore, 1) := by decide +kernel
theorem dX10_saves_20 : decode cX10_saves 20 = .ok (.iinc 2 1, 3) := by decide +kernel
theorem dX10_saves_23 : decode cX10_saves 23 = .ok (.goto (-21), 3) := by decide +kernel
theorem dX10_saves_26 : decode cX10_saves 26 = .ok (.iconst 1, 1) := by decide +kernel
theorem dX10_saves_27 : decode cX10_saves 27 = .ok (.istore_n 2, 1) := by decide +kernel
theorem dX10_saves_28 : decode cX10_saves 28 = .ok (.iload_n 2, 1) := by decide +kernel
theorem dX10_saves_29 : decode cX10_saves 29 = .ok (.ifCond .eq 119, 3) := by decide +kernel
theorem dX10_saves_32 : decode cX10_saves 32 = .ok (.iconst 0, 1) := by decide +kernel
theorem dX10_saves_33 : decode cX10_saves 33 = .ok (.istore_n 2, 1) := by decide +kernel
theorem dX10_saves_34 : decode cX10_saves 34 = .ok (.iconst 0, 1) := by decide +kernel
theorem dX10_saves_35 : decode cX10_saves 35 = .ok (.istore_n 3, 1) := by decide +kernel
theorem dX10_saves_36 : decode cX10_saves 36 = .ok (.iload_n 3, 1) := by decide +kernel
theorem dX10_saves_37 : decode cX10_saves 37 = .ok (.sipush 2079, 3) := by decide +kernel
theorem dX10_saves_40 : decode cX10_saves 40 = .ok (.if_icmp .ge 105, 3) := by decide +kernel
theorem dX10_saves_43 : decode cX10_saves 43 = .ok (.aload_n 0, 1) := by decide +kernel
theorem dX10_saves_44 : decode cX10_saves 44 = .ok (.getfield 182, 3) := by decide +kernel
theorem dX10_saves_47 : decode cX10_saves 47 = .ok (.iload_n 3, 1) := by decide +kernel
theorem dX10_saves_48 : decode cX10_saves 48 = .ok (.baload, 1) := by decide +kernel
theorem dX10_saves_49 : decode cX10_saves 49 = .ok (.ifCond .eq 90, 3) := by decide +kernel
theorem dX10_saves_52 : decode cX10_saves 52 = .ok (.aload_n 0, 1) := by decide +kernel
theorem dX10_saves_53 : decode cX10_saves 53 = .ok (.iload_n 3, 1) := by decide +kernel
theorem dX10_saves_54 : decode cX10_saves 54 = .ok (.invokevirtual 460, 3) := by decide +kernel
theorem dX10_saves_57 : decode cX10_saves 57 = .ok (.ifCond .eq 6, 3) := by decide +kernel
theorem dX10_saves_60 : decode cX10_saves 60 = .ok (.goto 79, 3) := by decide +kernel
theorem dX10_saves_63 : decode cX10_saves 63 = .ok (.iconst 0, 1) := by decide +kernel
theorem dX10_saves_64 : decode cX10_saves 64 = .ok (.istore 4, 2) := by decide +kernel
theorem dX10_saves_66 : decode cX10_saves 66 = .ok (.iconst 0, 1) := by decide +kernel
theorem dX10_saves_67 : decode cX10_saves 67 = .ok (.istore 5, 2) := by decide +kernel
theorem dX10_saves_69 : decode cX10_saves 69 = .ok (.iload 5, 2) := by decide +kernel
theorem dX10_saves_71 : decode cX10_saves 71 = .ok (.aload_n 0, 1) := by decide +kernel
theorem dX10_saves_72 : decode cX10_saves 72 = .ok (.invokevirtual 482, 3) := by decide +kernel
theorem dX10_saves_75 : decode cX10_saves 75 = .ok (.if_icmp .ge 47, 3) := by decide +kernel
theorem dX10_saves_78 : decode cX10_saves 78 = .ok (.iload 4, 2) := by decide +kernel
theorem dX10_saves_80 : decode cX10_saves 80 = .ok (.ifCond .ne 42, 3) := by decide +kernel
theorem dX10_saves_83 : decode cX10_saves 83 = .ok (.aload_n 0, 1) := by decide +kernel
theorem dX10_saves_84 : decode cX10_saves 84 = .ok (.getfield 163, 3) := by decide +kernel
theorem dX10_saves_87 : decode cX10_saves 87 = .ok (.bipush 6, 2) := by decide +kernel
theorem dX10_saves_89 : decode cX10_saves 89 = .ok (.iload_n 3, 1) := by decide +kernel
theorem dX10_saves_90 : decode cX10_saves 90 = .ok (.imul, 1) := by decide +kernel
theorem dX10_saves_91 : decode cX10_saves 91 = .ok (.iload 5, 2) := by decide +kernel
theorem dX10_saves_93 : decode cX10_saves 93 = .ok (.iadd, 1) := by decide +kernel
theorem dX10_saves_94 : decode cX10_saves 94 = .ok (.baload, 1) := by decide +kernel
theorem dX10_saves_95 : decode cX10_saves 95 = .ok (.ifCond .eq 18, 3) := by decide +kernel
theorem dX10_saves_98 : decode cX10_saves 98 = .ok (.aload_n 0, 1) := by decide +kernel
theorem dX10_saves_99 : decode cX10_saves 99 = .ok (.iload_n 3, 1) := by decide +kernel
theorem dX10_saves_100 : decode cX10_saves 100 = .ok (.iload 5, 2) := by decide +kernel
theorem dX10_saves_102 : decode cX10_saves 102 = .ok (.iload_n 1, 1) := by decide +kernel
theorem dX10_saves_103 : decode cX10_saves 103 = .ok (.invokevirtual 534, 3) := by decide +kernel
theorem dX10_saves_106 : decode cX10_saves 106 = .ok (.ifCond .eq 7, 3) := by decide +kernel
theorem dX10_saves_109 : decode cX10_saves 109 = .ok (.iconst 1, 1) := by decide +kernel
theorem dX10_saves_110 : decode cX10_saves 110 = .ok (.goto 4, 3) := by decide +kernel
theorem dX10_saves_113 : decode cX10_saves 113 = .ok (.iconst 0, 1) := by decide +kernel
theorem dX10_saves_114 : decode cX10_saves 114 = .ok (.istore 4, 2) := by decide +kernel
theorem dX10_saves_116 : decode cX10_saves 116 = .ok (.iinc 5 1, 3) := by decide +kernel
theorem dX10_saves_119 : decode cX10_saves 119 = .ok (.goto (-50), 3) := by decide +kernel
theorem dX10_saves_122 : decode cX10_saves 122 = .ok (.iload 4, 2) := by decide +kernel
theorem dX10_saves_124 : decode cX10_saves 124 = .ok (.ifCond .eq 6, 3) := by decide +kernel
theorem dX10_saves_127 : decode cX10_saves 127 = .ok (.goto 12, 3) := by decide +kernel
theorem dX10_saves_130 : decode cX10_saves 130 = .ok (.aload_n 0, 1) := by decide +kernel
theorem dX10_saves_131 : decode cX10_saves 131 = .ok (.getfield 182, 3) := by decide +kernel
theorem dX10_saves_134 : decode cX10_saves 134 = .ok (.iload_n 3, 1) := by decide +kernel
theorem dX10_saves_135 : decode cX10_saves 135 = .ok (.iconst 0, 1) := by decide +kernel
theorem dX10_saves_136 : decode cX10_saves 136 = .ok (.bastore, 1) := by decide +kernel
theorem dX10_saves_137 : decode cX10_saves 137 = .ok (.iconst 1, 1) := by decide +kernel
theorem dX10_saves_138 : decode cX10_saves 138 = .ok (.istore_n 2, 1) := by decide +kernel
theorem dX10_saves_139 : decode cX10_saves 139 = .ok (.iinc 3 1, 3) := by decide +kernel
theorem dX10_saves_142 : decode cX10_saves 142 = .ok (.goto (-106), 3) := by decide +kernel
theorem dX10_saves_145 : decode cX10_saves 145 = .ok (.goto (-117), 3) := by decide +kernel
theorem dX10_saves_148 : decode cX10_saves 148 = .ok (.return_, 1) := by decide +kernel
theorem dX10_isSaved_0 : decode cX10_isSaved 0 = .ok (.aload_n 0, 1) := by decide +kernel
theorem dX10_isSaved_1 : decode cX10_isSaved 1 = .ok (.getfield 157, 3) := by decide +kernel
theorem dX10_isSaved_4 : decode cX10_isSaved 4 = .ok (.iload_n 1, 1) := by decide +kernel
theorem dX10_isSaved_5 : decode cX10_isSaved 5 = .ok (.iaload, 1) := by decide +kernel
theorem dX10_isSaved_6 : decode cX10_isSaved 6 = .ok (.iload_n 3, 1) := by decide +kernel
theorem dX10_isSaved_7 : decode cX10_isSaved 7 = .ok (.isub, 1) := by decide +kernel
theorem dX10_isSaved_8 : decode cX10_isSaved 8 = .ok (.istore 4, 2) := by decide +kernel
theorem dX10_isSaved_10 : decode cX10_isSaved 10 = .ok (.iload 4, 2) := by decide +kernel
theorem dX10_isSaved_12 : decode cX10_isSaved 12 = .ok (.aload_n 0, 1) := by decide +kernel
theorem dX10_isSaved_13 : decode cX10_isSaved 13 = .ok (.getfield 160, 3) := by decide +kernel
theorem dX10_isSaved_16 : decode cX10_isSaved 16 = .ok (.iload_n 1, 1) := by decide +kernel
theorem dX10_isSaved_17 : decode cX10_isSaved 17 = .ok (.iaload, 1) := by decide +kernel
theorem dX10_isSaved_18 : decode cX10_isSaved 18 = .ok (.iload_n 3, 1) := by decide +kernel
theorem dX10_isSaved_19 : decode cX10_isSaved 19 = .ok (.iadd, 1) := by decide +kernel
theorem dX10_isSaved_20 : decode cX10_isSaved 20 = .ok (.if_icmp .gt 38, 3) := by decide +kernel
theorem dX10_isSaved_23 : decode cX10_isSaved 23 = .ok (.aload_n 0, 1) := by decide +kernel
theorem dX10_isSaved_24 : decode cX10_isSaved 24 = .ok (.iload_n 1, 1) := by decide +kernel
theorem dX10_isSaved_25 : decode cX10_isSaved 25 = .ok (.iload_n 2, 1) := by decide +kernel
theorem dX10_isSaved_26 : decode cX10_isSaved 26 = .ok (.iload 4, 2) := by decide +kernel
theorem dX10_isSaved_28 : decode cX10_isSaved 28 = .ok (.invokevirtual 507, 3) := by decide +kernel
theorem dX10_isSaved_31 : decode cX10_isSaved 31 = .ok (.istore 5, 2) := by decide +kernel
theorem dX10_isSaved_33 : decode cX10_isSaved 33 = .ok (.iload 5, 2) := by decide +kernel
theorem dX10_isSaved_35 : decode cX10_isSaved 35 = .ok (.bipush (-2), 2) := by decide +kernel
theorem dX10_isSaved_37 : decode cX10_isSaved 37 = .ok (.if_icmp .eq 13, 3) := by decide +kernel
theorem dX10_isSaved_40 : decode cX10_isSaved 40 = .ok (.aload_n 0, 1) := by decide +kernel
theorem dX10_isSaved_41 : decode cX10_isSaved 41 = .ok (.getfield 182, 3) := by decide +kernel
theorem dX10_isSaved_44 : decode cX10_isSaved 44 = .ok (.iload 5, 2) := by decide +kernel
theorem dX10_isSaved_46 : decode cX10_isSaved 46 = .ok (.baload, 1) := by decide +kernel
theorem dX10_isSaved_47 : decode cX10_isSaved 47 = .ok (.ifCond .ne 5, 3) := by decide +kernel
theorem dX10_isSaved_50 : decode cX10_isSaved 50 = .ok (.iconst 0, 1) := by decide +kernel
theorem dX10_isSaved_51 : decode cX10_isSaved 51 = .ok (.ireturn, 1) := by decide +kernel
theorem dX10_isSaved_52 : decode cX10_isSaved 52 = .ok (.iinc 4 1, 3) := by decide +kernel
theorem dX10_isSaved_55 : decode cX10_isSaved 55 = .ok (.goto (-45), 3) := by decide +kernel
theorem dX10_isSaved_58 : decode cX10_isSaved 58 = .ok (.iconst 1, 1) := by decide +kernel
theorem dX10_isSaved_59 : decode cX10_isSaved 59 = .ok (.ireturn, 1) := by decide +kernel
theorem dX10_borne_0 : decode cX10_borne 0 = .ok (.aload_n 0, 1) := by decide +kernel
theorem dX10_borne_1 : decode cX10_borne 1 = .ok (.iload_n 1, 1) := by decide +kernel
theorem dX10_borne_2 : decode cX10_borne 2 = .ok (.invokevirtual 476, 3) := by decide +kernel
theorem dX10_borne_5 : decode cX10_borne 5 = .ok (.ifCond .ne 5, 3) := by decide +kernel
theorem dX10_borne_8 : decode cX10_borne 8 = .ok (.iconst (-1), 1) := by decide +kernel
theorem dX10_borne_9 : decode cX10_borne 9 = .ok (.ireturn, 1) := by decide +kernel
theorem dX10_borne_10 : decode cX10_borne 10 = .ok (.aload_n 0, 1) := by decide +kernel
theorem dX10_borne_11 : decode cX10_borne 11 = .ok (.invokevirtual 516, 3) := by decide +kernel
theorem dX10_borne_14 : decode cX10_borne 14 = .ok (.aload_n 0, 1) := by decide +kernel
theorem dX10_borne_15 : decode cX10_borne 15 = .ok (.getfield 492, 3) := by decide +kernel
theorem dX10_borne_18 : decode cX10_borne 18 = .ok (.ifCond .ne 81, 3) := by decide +kernel
theorem dX10_borne_21 : decode cX10_borne 21 = .ok (.aload_n 0, 1) := by decide +kernel
theorem dX10_borne_22 : decode cX10_borne 22 = .ok (.iconst 1, 1) := by decide +kernel
theorem dX10_borne_23 : decode cX10_borne 23 = .ok (.putfield 492, 3) := by decide +kernel
theorem dX10_borne_26 : decode cX10_borne 26 = .ok (.iconst 0, 1) := by decide +kernel
theorem dX10_borne_27 : decode cX10_borne 27 = .ok (.istore_n 2, 1) := by decide +kernel
theorem dX10_borne_28 : decode cX10_borne 28 = .ok (.iload_n 2, 1) := by decide +kernel
theorem dX10_borne_29 : decode cX10_borne 29 = .ok (.sipush 2079, 3) := by decide +kernel
theorem dX10_borne_32 : decode cX10_borne 32 = .ok (.if_icmp .ge 17, 3) := by decide +kernel
theorem dX10_borne_35 : decode cX10_borne 35 = .ok (.aload_n 0, 1) := by decide +kernel
theorem dX10_borne_36 : decode cX10_borne 36 = .ok (.getfield 176, 3) := by decide +kernel
theorem dX10_borne_39 : decode cX10_borne 39 = .ok (.iload_n 2, 1) := by decide +kernel
theorem dX10_borne_40 : decode cX10_borne 40 = .ok (.bipush (-2), 2) := by decide +kernel
theorem dX10_borne_42 : decode cX10_borne 42 = .ok (.iastore, 1) := by decide +kernel
theorem dX10_borne_43 : decode cX10_borne 43 = .ok (.iinc 2 1, 3) := by decide +kernel
theorem dX10_borne_46 : decode cX10_borne 46 = .ok (.goto (-18), 3) := by decide +kernel
theorem dX10_borne_49 : decode cX10_borne 49 = .ok (.iconst 0, 1) := by decide +kernel
theorem dX10_borne_50 : decode cX10_borne 50 = .ok (.istore_n 2, 1) := by decide +kernel
theorem dX10_borne_51 : decode cX10_borne 51 = .ok (.iload_n 2, 1) := by decide +kernel
theorem dX10_borne_52 : decode cX10_borne 52 = .ok (.bipush 7, 2) := by decide +kernel
theorem dX10_borne_54 : decode cX10_borne 54 = .ok (.if_icmp .ge 45, 3) := by decide +kernel
theorem dX10_borne_57 : decode cX10_borne 57 = .ok (.aload_n 0, 1) := by decide +kernel
theorem dX10_borne_58 : decode cX10_borne 58 = .ok (.iload_n 2, 1) := by decide +kernel
theorem dX10_borne_59 : decode cX10_borne 59 = .ok (.invokevirtual 537, 3) := by decide +kernel
theorem dX10_borne_62 : decode cX10_borne 62 = .ok (.iconst 0, 1) := by decide +kernel
theorem dX10_borne_63 : decode cX10_borne 63 = .ok (.istore_n 3, 1) := by decide +kernel
theorem dX10_borne_64 : decode cX10_borne 64 = .ok (.iload_n 3, 1) := by decide +kernel
theorem dX10_borne_65 : decode cX10_borne 65 = .ok (.sipush 2079, 3) := by decide +kernel
theorem dX10_borne_68 : decode cX10_borne 68 = .ok (.if_icmp .ge 25, 3) := by decide +kernel
theorem dX10_borne_71 : decode cX10_borne 71 = .ok (.aload_n 0, 1) := by decide +kernel
theorem dX10_borne_72 : decode cX10_borne 72 = .ok (.getfield 182, 3) := by decide +kernel
theorem dX10_borne_75 : decode cX10_borne 75 = .ok (.iload_n 3, 1) := by decide +kernel
theorem dX10_borne_76 : decode cX10_borne 76 = .ok (.baload, 1) := by decide +kernel
theorem dX10_borne_77 : decode cX10_borne 77 = .ok (.ifCond .eq 10, 3) := by decide +kernel
theorem dX10_borne_80 : decode cX10_borne 80 = .ok (.aload_n 0, 1) := by decide +kernel
theorem dX10_borne_81 : decode cX10_borne 81 = .ok (.getfield 176, 3) := by decide +kernel
theorem dX10_borne_84 : decode cX10_borne 84 = .ok (.iload_n 3, 1) := by decide +kernel
theorem dX10_borne_85 : decode cX10_borne 85 = .ok (.iload_n 2, 1) := by decide +kernel
theorem dX10_borne_86 : decode cX10_borne 86 = .ok (.iastore, 1) := by decide +kernel
theorem dX10_borne_87 : decode cX10_borne 87 = .ok (.iinc 3 1, 3) := by decide +kernel
theorem dX10_borne_90 : decode cX10_borne 90 = .ok (.goto (-26), 3) := by decide +kernel
theorem dX10_borne_93 : decode cX10_borne 93 = .ok (.iinc 2 1, 3) := by decide +kernel
theorem dX10_borne_96 : decode cX10_borne 96 = .ok (.goto (-45), 3) := by decide +kernel
theorem dX10_borne_99 : decode cX10_borne 99 = .ok (.aload_n 0, 1) := by decide +kernel
theorem dX10_borne_100 : decode cX10_borne 100 = .ok (.getfield 176, 3) := by decide +kernel
theorem dX10_borne_103 : decode cX10_borne 103 = .ok (.iload_n 1, 1) := by decide +kernel
theorem dX10_borne_104 : decode cX10_borne 104 = .ok (.iaload, 1) := by decide +kernel
theorem dX10_borne_105 : decode cX10_borne 105 = .ok (.ireturn, 1) := by decide +kernel
theorem dX10_poles_0 : decode cX10_poles 0 = .ok (.aload_n 0, 1) := by decide +kernel
theorem dX10_poles_1 : decode cX10_poles 1 = .ok (.iload_n 1, 1) := by decide +kernel
theorem dX10_poles_2 : decode cX10_poles 2 = .ok (.invokevirtual 476, 3) := by decide +kernel
theorem dX10_poles_5 : decode cX10_poles 5 = .ok (.ifCond .ne 5, 3) := by decide +kernel
theorem dX10_poles_8 : decode cX10_poles 8 = .ok (.iconst (-1), 1) := by decide +kernel
theorem dX10_poles_9 : decode cX10_poles 9 = .ok (.ireturn, 1) := by decide +kernel
theorem dX10_poles_10 : decode cX10_poles 10 = .ok (.aload_n 0, 1) := by decide +kernel
theorem dX10_poles_11 : decode cX10_poles 11 = .ok (.getfield 413, 3) := by decide +kernel
theorem dX10_poles_14 : decode cX10_poles 14 = .ok (.ifCond .ne 114, 3) := by decide +kernel
theorem dX10_poles_17 : decode cX10_poles 17 = .ok (.aload_n 0, 1) := by decide +kernel
theorem dX10_poles_18 : decode cX10_poles 18 = .ok (.iconst 1, 1) := by decide +kernel
theorem dX10_poles_19 : decode cX10_poles 19 = .ok (.putfield 413, 3) := by decide +kernel
theorem dX10_poles_22 : decode cX10_poles 22 = .ok (.aload_n 0, 1) := by decide +kernel
theorem dX10_poles_23 : decode cX10_poles 23 = .ok (.getfield 127, 3) := by decide +kernel
theorem dX10_poles_26 : decode cX10_poles 26 = .ok (.istore_n 2, 1) := by decide +kernel
theorem dX10_poles_27 : decode cX10_poles 27 = .ok (.iconst 0, 1) := by decide +kernel
theorem dX10_poles_28 : decode cX10_poles 28 = .ok (.istore_n 3, 1) := by decide +kernel
theorem dX10_poles_29 : decode cX10_poles 29 = .ok (.iload_n 3, 1) := by decide +kernel
theorem dX10_poles_30 : decode cX10_poles 30 = .ok (.sipush 2079, 3) := by decide +kernel
theorem dX10_poles_33 : decode cX10_poles 33 = .ok (.if_icmp .ge 17, 3) := by decide +kernel
theorem dX10_poles_36 : decode cX10_poles 36 = .ok (.aload_n 0, 1) := by decide +kernel
theorem dX10_poles_37 : decode cX10_poles 37 = .ok (.getfield 179, 3) := by decide +kernel
theorem dX10_poles_40 : decode cX10_poles 40 = .ok (.iload_n 3, 1) := by decide +kernel
theorem dX10_poles_41 : decode cX10_poles 41 = .ok (.bipush (-2), 2) := by decide +kernel
theorem dX10_poles_43 : decode cX10_poles 43 = .ok (.iastore, 1) := by decide +kernel
theorem dX10_poles_44 : decode cX10_poles 44 = .ok (.iinc 3 1, 3) := by decide +kernel
theorem dX10_poles_47 : decode cX10_poles 47 = .ok (.goto (-18), 3) := by decide +kernel
theorem dX10_poles_50 : decode cX10_poles 50 = .ok (.aload_n 0, 1) := by decide +kernel
theorem dX10_poles_51 : decode cX10_poles 51 = .ok (.iconst 4, 1) := by decide +kernel
theorem dX10_poles_52 : decode cX10_poles 52 = .ok (.putfield 127, 3) := by decide +kernel
theorem dX10_poles_55 : decode cX10_poles 55 = .ok (.aload_n 0, 1) := by decide +kernel
theorem dX10_poles_56 : decode cX10_poles 56 = .ok (.getfield 127, 3) := by decide +kernel
theorem dX10_poles_59 : decode cX10_poles 59 = .ok (.ifCond .le 59, 3) := by decide +kernel
theorem dX10_poles_62 : decode cX10_poles 62 = .ok (.aload_n 0, 1) := by decide +kernel
theorem dX10_poles_63 : decode cX10_poles 63 = .ok (.invokevirtual 501, 3) := by decide +kernel
theorem dX10_poles_66 : decode cX10_poles 66 = .ok (.aload_n 0, 1) := by decide +kernel
theorem dX10_poles_67 : decode cX10_poles 67 = .ok (.iconst 0, 1) := by decide +kernel
theorem dX10_poles_68 : decode cX10_poles 68 = .ok (.invokevirtual 537, 3) := by decide +kernel
theorem dX10_poles_71 : decode cX10_poles 71 = .ok (.iconst 0, 1) := by decide +kernel
theorem dX10_poles_72 : decode cX10_poles 72 = .ok (.istore_n 3, 1) := by decide +kernel
theorem dX10_poles_73 : decode cX10_poles 73 = .ok (.iload_n 3, 1) := by decide +kernel
theorem dX10_poles_74 : decode cX10_poles 74 = .ok (.sipush 2079, 3) := by decide +kernel
theorem dX10_poles_77 : decode cX10_poles 77 = .ok (.if_icmp .ge 28, 3) := by decide +kernel
theorem dX10_poles_80 : decode cX10_poles 80 = .ok (.aload_n 0, 1) := by decide +kernel
theorem dX10_poles_81 : decode cX10_poles 81 = .ok (.getfield 182, 3) := by decide +kernel
theorem dX10_poles_84 : decode cX10_poles 84 = .ok (.iload_n 3, 1) := by decide +kernel
theorem dX10_poles_85 : decode cX10_poles 85 = .ok (.baload, 1) := by decide +kernel
theorem dX10_poles_86 : decode cX10_poles 86 = .ok (.ifCond .eq 13, 3) := by decide +kernel
theorem dX10_poles_89 : decode cX10_poles 89 = .ok (.aload_n 0, 1) := by decide +kernel
theorem dX10_poles_90 : decode cX10_poles 90 = .ok (.getfield 179, 3) := by decide +kernel
theorem dX10_poles_93 : decode cX10_poles 93 = .ok (.iload_n 3, 1) := by decide +kernel
theorem dX10_poles_94 : decode cX10_poles 94 = .ok (.aload_n 0, 1) := by decide +kernel
theorem dX10_poles_95 : decode cX10_poles 95 = .ok (.getfield 127, 3) := by decide +kernel
theorem dX10_poles_98 : decode cX10_poles 98 = .ok (.iastore, 1) := by decide +kernel
theorem dX10_poles_99 : decode cX10_poles 99 = .ok (.iinc 3 1, 3) := by decide +kernel
theorem dX10_poles_102 : decode cX10_poles 102 = .ok (.goto (-29), 3) := by decide +kernel
theorem dX10_poles_105 : decode cX10_poles 105 = .ok (.aload_n 0, 1) := by decide +kernel
theorem dX10_poles_106 : decode cX10_poles 106 = .ok (.dup, 1) := by decide +kernel
theorem dX10_poles_107 : decode cX10_poles 107 = .ok (.getfield 127, 3) := by decide +kernel
theorem dX10_poles_110 : decode cX10_poles 110 = .ok (.iconst 1, 1) := by decide +kernel
theorem dX10_poles_111 : decode cX10_poles 111 = .ok (.isub, 1) := by decide +kernel
theorem dX10_poles_112 : decode cX10_poles 112 = .ok (.putfield 127, 3) := by decide +kernel
theorem dX10_poles_115 : decode cX10_poles 115 = .ok (.goto (-60), 3) := by decide +kernel
theorem dX10_poles_118 : decode cX10_poles 118 = .ok (.aload_n 0, 1) := by decide +kernel
theorem dX10_poles_119 : decode cX10_poles 119 = .ok (.iload_n 2, 1) := by decide +kernel
theorem dX10_poles_120 : decode cX10_poles 120 = .ok (.putfield 127, 3) := by decide +kernel
theorem dX10_poles_123 : decode cX10_poles 123 = .ok (.aload_n 0, 1) := by decide +kernel
theorem dX10_poles_124 : decode cX10_poles 124 = .ok (.iconst 0, 1) := by decide +kernel
theorem dX10_poles_125 : decode cX10_poles 125 = .ok (.putfield 410, 3) := by decide +kernel
theorem dX10_poles_128 : decode cX10_poles 128 = .ok (.aload_n 0, 1) := by decide +kernel
theorem dX10_poles_129 : decode cX10_poles 129 = .ok (.getfield 179, 3) := by decide +kernel
theorem dX10_poles_132 : decode cX10_poles 132 = .ok (.iload_n 1, 1) := by decide +kernel
theorem dX10_poles_133 : decode cX10_poles 133 = .ok (.iaload, 1) := by decide +kernel
theorem dX10_poles_134 : decode cX10_poles 134 = .ok (.ireturn, 1) := by decide +kernel
theorem dX10_forecast_0 : decode cX10_forecast 0 = .ok (.aload_n 0, 1) := by decide +kernel
theorem dX10_forecast_1 : decode cX10_forecast 1 = .ok (.getfield 394, 3) := by decide +kernel
theorem dX10_forecast_4 : decode cX10_forecast 4 = .ok (.bipush 24, 2) := by decide +kernel
theorem dX10_forecast_6 : decode cX10_forecast 6 = .ok (.if_icmp .eq 15, 3) := by decide +kernel
theorem dX10_forecast_9 : decode cX10_forecast 9 = .ok (.iload_n 1, 1) := by decide +kernel
theorem dX10_forecast_10 : decode cX10_forecast 10 = .ok (.bipush (-12), 2) := by decide +kernel
theorem dX10_forecast_12 : decode cX10_forecast 12 = .ok (.if_icmp .lt 9, 3) := by decide +kernel
theorem dX10_forecast_15 : decode cX10_forecast 15 = .ok (.iload_n 1, 1) := by decide +kernel
theorem dX10_forecast_16 : decode cX10_forecast 16 = .ok (.bipush 12, 2) := by decide +kernel
theorem dX10_forecast_18 : decode cX10_forecast 18 = .ok (.if_icmp .le 5, 3) := by decide +kernel
theorem dX10_forecast_21 : decode cX10_forecast 21 = .ok (.iconst (-1), 1) := by decide +kernel
theorem dX10_forecast_22 : decode cX10_forecast 22 = .ok (.ireturn, 1) := by decide +kernel
theorem dX10_forecast_23 : decode cX10_forecast 23 = .ok (.aload_n 0, 1) := by decide +kernel
theorem dX10_forecast_24 : decode cX10_forecast 24 = .ok (.getfield 130, 3) := by decide +kernel
theorem dX10_forecast_27 : decode cX10_forecast 27 = .ok (.aload_n 0, 1) := by decide +kernel
theorem dX10_forecast_28 : decode cX10_forecast 28 = .ok (.getfield 394, 3) := by decide +kernel
theorem dX10_forecast_31 : decode cX10_forecast 31 = .ok (.iload_n 1, 1) := by decide +kernel
theorem dX10_forecast_32 : decode cX10_forecast 32 = .ok (.iastore, 1) := by decide +kernel
theorem dX10_forecast_33 : decode cX10_forecast 33 = .ok (.aload_n 0, 1) := by decide +kernel
theorem dX10_forecast_34 : decode cX10_forecast 34 = .ok (.dup, 1) := by decide +kernel
theorem dX10_forecast_35 : decode cX10_forecast 35 = .ok (.getfield 394, 3) := by decide +kernel
theorem dX10_forecast_38 : decode cX10_forecast 38 = .ok (.iconst 1, 1) := by decide +kernel
theorem dX10_forecast_39 : decode cX10_forecast 39 = .ok (.iadd, 1) := by decide +kernel
theorem dX10_forecast_40 : decode cX10_forecast 40 = .ok (.putfield 394, 3) := by decide +kernel
theorem dX10_forecast_43 : decode cX10_forecast 43 = .ok (.aload_n 0, 1) := by decide +kernel
theorem dX10_forecast_44 : decode cX10_forecast 44 = .ok (.getfield 394, 3) := by decide +kernel
theorem dX10_forecast_47 : decode cX10_forecast 47 = .ok (.ireturn, 1) := by decide +kernel
theorem dX10_clear_0 : decode cX10_clear 0 = .ok (.aload_n 0, 1) := by decide +kernel
theorem dX10_clear_1 : decode cX10_clear 1 = .ok (.iconst 0, 1) := by decide +kernel
theorem dX10_clear_2 : decode cX10_clear 2 = .ok (.putfield 394, 3) := by decide +kernel
theorem dX10_clear_5 : decode cX10_clear 5 = .ok (.return_, 1) := by decide +kernel
theorem dX10_knownOf_0 : decode cX10_knownOf 0 = .ok (.aload_n 0, 1) := by decide +kernel
theorem dX10_knownOf_1 : decode cX10_knownOf 1 = .ok (.invokevirtual 516, 3) := by decide +kernel
theorem dX10_knownOf_4 : decode cX10_knownOf 4 = .ok (.iconst 0, 1) := by decide +kernel
theorem dX10_knownOf_5 : decode cX10_knownOf 5 = .ok (.istore_n 2, 1) := by decide +kernel
theorem dX10_knownOf_6 : decode cX10_knownOf 6 = .ok (.iload_n 2, 1) := by decide +kernel
theorem dX10_knownOf_7 : decode cX10_knownOf 7 = .ok (.ldc 194, 2) := by decide +kernel
theorem dX10_knownOf_9 : decode cX10_knownOf 9 = .ok (.if_icmp .ge 23, 3) := by decide +kernel
theorem dX10_knownOf_12 : decode cX10_knownOf 12 = .ok (.aload_n 0, 1) := by decide +kernel
theorem dX10_knownOf_13 : decode cX10_knownOf 13 = .ok (.getfield 195, 3) := by decide +kernel
theorem dX10_knownOf_16 : decode cX10_knownOf 16 = .ok (.iload_n 2, 1) := by decide +kernel
theorem dX10_knownOf_17 : decode cX10_knownOf 17 = .ok (.iconst 0, 1) := by decide +kernel
theorem dX10_knownOf_18 : decode cX10_knownOf 18 = .ok (.bastore, 1) := by decide +kernel
theorem dX10_knownOf_19 : decode cX10_knownOf 19 = .ok (.aload_n 0, 1) := by decide +kernel
theorem dX10_knownOf_20 : decode cX10_knownOf 20 = .ok (.getfield 198, 3) := by decide +kernel
theorem dX10_knownOf_23 : decode cX10_knownOf 23 = .ok (.iload_n 2, 1) := by decide +kernel
theorem dX10_knownOf_24 : decode cX10_knownOf 24 = .ok (.iconst 0, 1) := by decide +kernel
theorem dX10_knownOf_25 : decode cX10_knownOf 25 = .ok (.bastore, 1) := by decide +kernel
theorem dX10_knownOf_26 : decode cX10_knownOf 26 = .ok (.iinc 2 1, 3) := by decide +kernel
theorem dX10_knownOf_29 : decode cX10_knownOf 29 = .ok (.goto (-23), 3) := by decide +kernel
theorem dX10_knownOf_32 : decode cX10_knownOf 32 = .ok (.aload_n 0, 1) := by decide +kernel
theorem dX10_knownOf_33 : decode cX10_knownOf 33 = .ok (.getfield 195, 3) := by decide +kernel
theorem dX10_knownOf_36 : decode cX10_knownOf 36 = .ok (.iload_n 1, 1) := by decide +kernel
theorem dX10_knownOf_37 : decode cX10_knownOf 37 = .ok (.iconst 1, 1) := by decide +kernel
theorem dX10_knownOf_38 : decode cX10_knownOf 38 = .ok (.bastore, 1) := by decide +kernel
theorem dX10_knownOf_39 : decode cX10_knownOf 39 = .ok (.aload_n 0, 1) := by decide +kernel
theorem dX10_knownOf_40 : decode cX10_knownOf 40 = .ok (.iload_n 1, 1) := by decide +kernel
theorem dX10_knownOf_41 : decode cX10_knownOf 41 = .ok (.invokevirtual 460, 3) := by decide +kernel
theorem dX10_knownOf_44 : decode cX10_knownOf 44 = .ok (.ifCond .eq 7, 3) := by decide +kernel
theorem dX10_knownOf_47 : decode cX10_knownOf 47 = .ok (.iconst 0, 1) := by decide +kernel
theorem dX10_knownOf_48 : decode cX10_knownOf 48 = .ok (.goto 4, 3) := by decide +kernel
theorem dX10_knownOf_51 : decode cX10_knownOf 51 = .ok (.iconst (-1), 1) := by decide +kernel
theorem dX10_knownOf_52 : decode cX10_knownOf 52 = .ok (.istore_n 2, 1) := by decide +kernel
theorem dX10_knownOf_53 : decode cX10_knownOf 53 = .ok (.iconst 0, 1) := by decide +kernel
theorem dX10_knownOf_54 : decode cX10_knownOf 54 = .ok (.istore_n 3, 1) := by decide +kernel
theorem dX10_knownOf_55 : decode cX10_knownOf 55 = .ok (.iload_n 3, 1) := by decide +kernel
theorem dX10_knownOf_56 : decode cX10_knownOf 56 = .ok (.aload_n 0, 1) := by decide +kernel
theorem dX10_knownOf_57 : decode cX10_knownOf 57 = .ok (.getfield 394, 3) := by decide +kernel
theorem dX10_knownOf_60 : decode cX10_knownOf 60 = .ok (.if_icmp .ge 145, 3) := by decide +kernel
theorem dX10_knownOf_63 : decode cX10_knownOf 63 = .ok (.iload_n 2, 1) := by decide +kernel
theorem dX10_knownOf_64 : decode cX10_knownOf 64 = .ok (.ifCond .ge 141, 3) := by decide +kernel
theorem dX10_knownOf_67 : decode cX10_knownOf 67 = .ok (.iconst 0, 1) := by decide +kernel
theorem dX10_knownOf_68 : decode cX10_knownOf 68 = .ok (.istore 4, 2) := by decide +kernel
theorem dX10_knownOf_70 : decode cX10_knownOf 70 = .ok (.iload 4, 2) := by decide +kernel
theorem dX10_knownOf_72 : decode cX10_knownOf 72 = .ok (.sipush 2079, 3) := by decide +kernel
theorem dX10_knownOf_75 : decode cX10_knownOf 75 = .ok (.if_icmp .ge 124, 3) := by decide +kernel
theorem dX10_knownOf_78 : decode cX10_knownOf 78 = .ok (.aload_n 0, 1) := by decide +kernel
theorem dX10_knownOf_79 : decode cX10_knownOf 79 = .ok (.getfield 195, 3) := by decide +kernel
theorem dX10_knownOf_82 : decode cX10_knownOf 82 = .ok (.sipush 2079, 3) := by decide +kernel
theorem dX10_knownOf_85 : decode cX10_knownOf 85 = .ok (.iload_n 3, 1) := by decide +kernel
theorem dX10_knownOf_86 : decode cX10_knownOf 86 = .ok (.imul, 1) := by decide +kernel
theorem dX10_knownOf_87 : decode cX10_knownOf 87 = .ok (.iload 4, 2) := by decide +kernel
theorem dX10_knownOf_89 : decode cX10_knownOf 89 = .ok (.iadd, 1) := by decide +kernel
theorem dX10_knownOf_90 : decode cX10_knownOf 90 = .ok (.baload, 1) := by decide +kernel
theorem dX10_knownOf_91 : decode cX10_knownOf 91 = .ok (.ifCond .ne 6, 3) := by decide +kernel
theorem dX10_knownOf_94 : decode cX10_knownOf 94 = .ok (.goto 99, 3) := by decide +kernel
theorem dX10_knownOf_97 : decode cX10_knownOf 97 = .ok (.iconst 0, 1) := by decide +kernel
theorem dX10_knownOf_98 : decode cX10_knownOf 98 = .ok (.istore 5, 2) := by decide +kernel
theorem dX10_knownOf_100 : decode cX10_knownOf 100 = .ok (.iload 5, 2) := by decide +kernel
theorem dX10_knownOf_102 : decode cX10_knownOf 102 = .ok (.aload_n 0, 1) := by decide +kernel
theorem dX10_knownOf_103 : decode cX10_knownOf 103 = .ok (.invokevirtual 482, 3) := by decide +kernel
theorem dX10_knownOf_106 : decode cX10_knownOf 106 = .ok (.if_icmp .ge 87, 3) := by decide +kernel
theorem dX10_knownOf_109 : decode cX10_knownOf 109 = .ok (.aload_n 0, 1) := by decide +kernel
theorem dX10_knownOf_110 : decode cX10_knownOf 110 = .ok (.getfield 163, 3) := by decide +kernel
theorem dX10_knownOf_113 : decode cX10_knownOf 113 = .ok (.bipush 6, 2) := by decide +kernel
theorem dX10_knownOf_115 : decode cX10_knownOf 115 = .ok (.iload 4, 2) := by decide +kernel
theorem dX10_knownOf_117 : decode cX10_knownOf 117 = .ok (.imul, 1) := by decide +kernel
theorem dX10_knownOf_118 : decode cX10_knownOf 118 = .ok (.iload 5, 2) := by decide +kernel
theorem dX10_knownOf_120 : decode cX10_knownOf 120 = .ok (.iadd, 1) := by decide +kernel
theorem dX10_knownOf_121 : decode cX10_knownOf 121 = .ok (.baload, 1) := by decide +kernel
theorem dX10_knownOf_122 : decode cX10_knownOf 122 = .ok (.ifCond .eq 20, 3) := by decide +kernel
theorem dX10_knownOf_125 : decode cX10_knownOf 125 = .ok (.aload_n 0, 1) := by decide +kernel
theorem dX10_knownOf_126 : decode cX10_knownOf 126 = .ok (.iload 4, 2) := by decide +kernel
theorem dX10_knownOf_128 : decode cX10_knownOf 128 = .ok (.iload 5, 2) := by decide +kernel
theorem dX10_knownOf_130 : decode cX10_knownOf 130 = .ok (.aload_n 0, 1) := by decide +kernel
theorem dX10_knownOf_131 : decode cX10_knownOf 131 = .ok (.getfield 130, 3) := by decide +kernel
theorem dX10_knownOf_134 : decode cX10_knownOf 134 = .ok (.iload_n 3, 1) := by decide +kernel
theorem dX10_knownOf_135 : decode cX10_knownOf 135 = .ok (.iaload, 1) := by decide +kernel
theorem dX10_knownOf_136 : decode cX10_knownOf 136 = .ok (.invokevirtual 507, 3) := by decide +kernel
theorem dX10_knownOf_139 : decode cX10_knownOf 139 = .ok (.goto 5, 3) := by decide +kernel
theorem dX10_knownOf_142 : decode cX10_knownOf 142 = .ok (.bipush (-2), 2) := by decide +kernel
theorem dX10_knownOf_144 : decode cX10_knownOf 144 = .ok (.istore 6, 2) := by decide +kernel
theorem dX10_knownOf_146 : decode cX10_knownOf 146 = .ok (.iload 6, 2) := by decide +kernel
theorem dX10_knownOf_148 : decode cX10_knownOf 148 = .ok (.bipush (-2), 2) := by decide +kernel
theorem dX10_knownOf_150 : decode cX10_knownOf 150 = .ok (.if_icmp .ne 6, 3) := by decide +kernel
theorem dX10_knownOf_153 : decode cX10_knownOf 153 = .ok (.goto 34, 3) := by decide +kernel
theorem dX10_knownOf_156 : decode cX10_knownOf 156 = .ok (.aload_n 0, 1) := by decide +kernel
theorem dX10_knownOf_157 : decode cX10_knownOf 157 = .ok (.getfield 195, 3) := by decide +kernel
theorem dX10_knownOf_160 : decode cX10_knownOf 160 = .ok (.sipush 2079, 3) := by decide +kernel
theorem dX10_knownOf_163 : decode cX10_knownOf 163 = .ok (.iload_n 3, 1) := by decide +kernel
theorem dX10_knownOf_164 : decode cX10_knownOf 164 = .ok (.imul, 1) := by decide +kernel
theorem dX10_knownOf_165 : decode cX10_knownOf 165 = .ok (.sipush 2079, 3) := by decide +kernel
theorem dX10_knownOf_168 : decode cX10_knownOf 168 = .ok (.iadd, 1) := by decide +kernel
theorem dX10_knownOf_169 : decode cX10_knownOf 169 = .ok (.iload 6, 2) := by decide +kernel
theorem dX10_knownOf_171 : decode cX10_knownOf 171 = .ok (.iadd, 1) := by decide +kernel
theorem dX10_knownOf_172 : decode cX10_knownOf 172 = .ok (.iconst 1, 1) := by decide +kernel
theorem dX10_knownOf_173 : decode cX10_knownOf 173 = .ok (.bastore, 1) := by decide +kernel
theorem dX10_knownOf_174 : decode cX10_knownOf 174 = .ok (.aload_n 0, 1) := by decide +kernel
theorem dX10_knownOf_175 : decode cX10_knownOf 175 = .ok (.iload 6, 2) := by decide +kernel
theorem dX10_knownOf_177 : decode cX10_knownOf 177 = .ok (.invokevirtual 460, 3) := by decide +kernel
theorem dX10_knownOf_180 : decode cX10_knownOf 180 = .ok (.ifCond .eq 7, 3) := by decide +kernel
theorem dX10_knownOf_183 : decode cX10_knownOf 183 = .ok (.iload_n 3, 1) := by decide +kernel
theorem dX10_knownOf_184 : decode cX10_knownOf 184 = .ok (.iconst 1, 1) := by decide +kernel
theorem dX10_knownOf_185 : decode cX10_knownOf 185 = .ok (.iadd, 1) := by decide +kernel
theorem dX10_knownOf_186 : decode cX10_knownOf 186 = .ok (.istore_n 2, 1) := by decide +kernel
theorem dX10_knownOf_187 : decode cX10_knownOf 187 = .ok (.iinc 5 1, 3) := by decide +kernel
theorem dX10_knownOf_190 : decode cX10_knownOf 190 = .ok (.goto (-90), 3) := by decide +kernel
theorem dX10_knownOf_193 : decode cX10_knownOf 193 = .ok (.iinc 4 1, 3) := by decide +kernel
theorem dX10_knownOf_196 : decode cX10_knownOf 196 = .ok (.goto (-126), 3) := by decide +kernel
theorem dX10_knownOf_199 : decode cX10_knownOf 199 = .ok (.iinc 3 1, 3) := by decide +kernel
theorem dX10_knownOf_202 : decode cX10_knownOf 202 = .ok (.goto (-147), 3) := by decide +kernel
theorem dX10_knownOf_205 : decode cX10_knownOf 205 = .ok (.iload_n 2, 1) := by decide +kernel
theorem dX10_knownOf_206 : decode cX10_knownOf 206 = .ok (.ifCond .ge 6, 3) := by decide +kernel
theorem dX10_knownOf_209 : decode cX10_knownOf 209 = .ok (.bipush (-2), 2) := by decide +kernel
theorem dX10_knownOf_211 : decode cX10_knownOf 211 = .ok (.ireturn, 1) := by decide +kernel
theorem dX10_knownOf_212 : decode cX10_knownOf 212 = .ok (.iconst 0, 1) := by decide +kernel
theorem dX10_knownOf_213 : decode cX10_knownOf 213 = .ok (.istore_n 3, 1) := by decide +kernel
theorem dX10_knownOf_214 : decode cX10_knownOf 214 = .ok (.iload_n 3, 1) := by decide +kernel
theorem dX10_knownOf_215 : decode cX10_knownOf 215 = .ok (.sipush 2079, 3) := by decide +kernel
theorem dX10_knownOf_218 : decode cX10_knownOf 218 = .ok (.if_icmp .ge 49, 3) := by decide +kernel
theorem dX10_knownOf_221 : decode cX10_knownOf 221 = .ok (.aload_n 0, 1) := by decide +kernel
theorem dX10_knownOf_222 : decode cX10_knownOf 222 = .ok (.getfield 198, 3) := by decide +kernel
theorem dX10_knownOf_225 : decode cX10_knownOf 225 = .ok (.sipush 2079, 3) := by decide +kernel
theorem dX10_knownOf_228 : decode cX10_knownOf 228 = .ok (.iload_n 2, 1) := by decide +kernel
theorem dX10_knownOf_229 : decode cX10_knownOf 229 = .ok (.imul, 1) := by decide +kernel
theorem dX10_knownOf_230 : decode cX10_knownOf 230 = .ok (.iload_n 3, 1) := by decide +kernel
theorem dX10_knownOf_231 : decode cX10_knownOf 231 = .ok (.iadd, 1) := by decide +kernel
theorem dX10_knownOf_232 : decode cX10_knownOf 232 = .ok (.aload_n 0, 1) := by decide +kernel
theorem dX10_knownOf_233 : decode cX10_knownOf 233 = .ok (.getfield 195, 3) := by decide +kernel
theorem dX10_knownOf_236 : decode cX10_knownOf 236 = .ok (.sipush 2079, 3) := by decide +kernel
theorem dX10_knownOf_239 : decode cX10_knownOf 239 = .ok (.iload_n 2, 1) := by decide +kernel
theorem dX10_knownOf_240 : decode cX10_knownOf 240 = .ok (.imul, 1) := by decide +kernel
theorem dX10_knownOf_241 : decode cX10_knownOf 241 = .ok (.iload_n 3, 1) := by decide +kernel
theorem dX10_knownOf_242 : decode cX10_knownOf 242 = .ok (.iadd, 1) := by decide +kernel
theorem dX10_knownOf_243 : decode cX10_knownOf 243 = .ok (.baload, 1) := by decide +kernel
theorem dX10_knownOf_244 : decode cX10_knownOf 244 = .ok (.ifCond .eq 15, 3) := by decide +kernel
theorem dX10_knownOf_247 : decode cX10_knownOf 247 = .ok (.aload_n 0, 1) := by decide +kernel
theorem dX10_knownOf_248 : decode cX10_knownOf 248 = .ok (.iload_n 3, 1) := by decide +kernel
theorem dX10_knownOf_249 : decode cX10_knownOf 249 = .ok (.invokevirtual 460, 3) := by decide +kernel
theorem dX10_knownOf_252 : decode cX10_knownOf 252 = .ok (.ifCond .eq 7, 3) := by decide +kernel
theorem dX10_knownOf_255 : decode cX10_knownOf 255 = .ok (.iconst 1, 1) := by decide +kernel
theorem dX10_knownOf_256 : decode cX10_knownOf 256 = .ok (.goto 4, 3) := by decide +kernel
theorem dX10_knownOf_259 : decode cX10_knownOf 259 = .ok (.iconst 0, 1) := by decide +kernel
theorem dX10_knownOf_260 : decode cX10_knownOf 260 = .ok (.bastore, 1) := by decide +kernel
theorem dX10_knownOf_261 : decode cX10_knownOf 261 = .ok (.iinc 3 1, 3) := by decide +kernel
theorem dX10_knownOf_264 : decode cX10_knownOf 264 = .ok (.goto (-50), 3) := by decide +kernel
theorem dX10_knownOf_267 : decode cX10_knownOf 267 = .ok (.iload_n 2, 1) := by decide +kernel
theorem dX10_knownOf_268 : decode cX10_knownOf 268 = .ok (.iconst 1, 1) := by decide +kernel
theorem dX10_knownOf_269 : decode cX10_knownOf 269 = .ok (.isub, 1) := by decide +kernel
theorem dX10_knownOf_270 : decode cX10_knownOf 270 = .ok (.istore_n 3, 1) := by decide +kernel
theorem dX10_knownOf_271 : decode cX10_knownOf 271 = .ok (.iload_n 3, 1) := by decide +kernel
theorem dX10_knownOf_272 : decode cX10_knownOf 272 = .ok (.ifCond .lt 138, 3) := by decide +kernel
theorem dX10_knownOf_275 : decode cX10_knownOf 275 = .ok (.iconst 0, 1) := by decide +kernel
theorem dX10_knownOf_276 : decode cX10_knownOf 276 = .ok (.istore 4, 2) := by decide +kernel
theorem dX10_knownOf_278 : decode cX10_knownOf 278 = .ok (.iload 4, 2) := by decide +kernel
theorem dX10_knownOf_280 : decode cX10_knownOf 280 = .ok (.sipush 2079, 3) := by decide +kernel
theorem dX10_knownOf_283 : decode cX10_knownOf 283 = .ok (.if_icmp .ge 121, 3) := by decide +kernel
theorem dX10_knownOf_286 : decode cX10_knownOf 286 = .ok (.iconst 0, 1) := by decide +kernel
theorem dX10_knownOf_287 : decode cX10_knownOf 287 = .ok (.istore 5, 2) := by decide +kernel
theorem dX10_knownOf_289 : decode cX10_knownOf 289 = .ok (.iload 5, 2) := by decide +kernel
theorem dX10_knownOf_291 : decode cX10_knownOf 291 = .ok (.aload_n 0, 1) := by decide +kernel
theorem dX10_knownOf_292 : decode cX10_knownOf 292 = .ok (.invokevirtual 482, 3) := by decide +kernel
theorem dX10_knownOf_295 : decode cX10_knownOf 295 = .ok (.if_icmp .ge 103, 3) := by decide +kernel
theorem dX10_knownOf_298 : decode cX10_knownOf 298 = .ok (.aload_n 0, 1) := by decide +kernel
theorem dX10_knownOf_299 : decode cX10_knownOf 299 = .ok (.getfield 195, 3) := by decide +kernel
theorem dX10_knownOf_302 : decode cX10_knownOf 302 = .ok (.sipush 2079, 3) := by decide +kernel
theorem dX10_knownOf_305 : decode cX10_knownOf 305 = .ok (.iload_n 3, 1) := by decide +kernel
theorem dX10_knownOf_306 : decode cX10_knownOf 306 = .ok (.imul, 1) := by decide +kernel
theorem dX10_knownOf_307 : decode cX10_knownOf 307 = .ok (.iload 4, 2) := by decide +kernel
theorem dX10_knownOf_309 : decode cX10_knownOf 309 = .ok (.iadd, 1) := by decide +kernel
theorem dX10_knownOf_310 : decode cX10_knownOf 310 = .ok (.baload, 1) := by decide +kernel
theorem dX10_knownOf_311 : decode cX10_knownOf 311 = .ok (.ifCond .eq 87, 3) := by decide +kernel
theorem dX10_knownOf_314 : decode cX10_knownOf 314 = .ok (.aload_n 0, 1) := by decide +kernel
theorem dX10_knownOf_315 : decode cX10_knownOf 315 = .ok (.getfield 163, 3) := by decide +kernel
theorem dX10_knownOf_318 : decode cX10_knownOf 318 = .ok (.bipush 6, 2) := by decide +kernel
theorem dX10_knownOf_320 : decode cX10_knownOf 320 = .ok (.iload 4, 2) := by decide +kernel
theorem dX10_knownOf_322 : decode cX10_knownOf 322 = .ok (.imul, 1) := by decide +kernel
theorem dX10_knownOf_323 : decode cX10_knownOf 323 = .ok (.iload 5, 2) := by decide +kernel
theorem dX10_knownOf_325 : decode cX10_knownOf 325 = .ok (.iadd, 1) := by decide +kernel
theorem dX10_knownOf_326 : decode cX10_knownOf 326 = .ok (.baload, 1) := by decide +kernel
theorem dX10_knownOf_327 : decode cX10_knownOf 327 = .ok (.ifCond .eq 20, 3) := by decide +kernel
theorem dX10_knownOf_330 : decode cX10_knownOf 330 = .ok (.aload_n 0, 1) := by decide +kernel
theorem dX10_knownOf_331 : decode cX10_knownOf 331 = .ok (.iload 4, 2) := by decide +kernel
theorem dX10_knownOf_333 : decode cX10_knownOf 333 = .ok (.iload 5, 2) := by decide +kernel
theorem dX10_knownOf_335 : decode cX10_knownOf 335 = .ok (.aload_n 0, 1) := by decide +kernel
theorem dX10_knownOf_336 : decode cX10_knownOf 336 = .ok (.getfield 130, 3) := by decide +kernel
theorem dX10_knownOf_339 : decode cX10_knownOf 339 = .ok (.iload_n 3, 1) := by decide +kernel
theorem dX10_knownOf_340 : decode cX10_knownOf 340 = .ok (.iaload, 1) := by decide +kernel
theorem dX10_knownOf_341 : decode cX10_knownOf 341 = .ok (.invokevirtual 507, 3) := by decide +kernel
theorem dX10_knownOf_344 : decode cX10_knownOf 344 = .ok (.goto 5, 3) := by decide +kernel
theorem dX10_knownOf_347 : decode cX10_knownOf 347 = .ok (.bipush (-2), 2) := by decide +kernel
theorem dX10_knownOf_349 : decode cX10_knownOf 349 = .ok (.istore 6, 2) := by decide +kernel
theorem dX10_knownOf_351 : decode cX10_knownOf 351 = .ok (.iload 6, 2) := by decide +kernel
theorem dX10_knownOf_353 : decode cX10_knownOf 353 = .ok (.bipush (-2), 2) := by decide +kernel
theorem dX10_knownOf_355 : decode cX10_knownOf 355 = .ok (.if_icmp .eq 37, 3) := by decide +kernel
theorem dX10_knownOf_358 : decode cX10_knownOf 358 = .ok (.aload_n 0, 1) := by decide +kernel
theorem dX10_knownOf_359 : decode cX10_knownOf 359 = .ok (.getfield 198, 3) := by decide +kernel
theorem dX10_knownOf_362 : decode cX10_knownOf 362 = .ok (.sipush 2079, 3) := by decide +kernel
theorem dX10_knownOf_365 : decode cX10_knownOf 365 = .ok (.iload_n 3, 1) := by decide +kernel
theorem dX10_knownOf_366 : decode cX10_knownOf 366 = .ok (.imul, 1) := by decide +kernel
theorem dX10_knownOf_367 : decode cX10_knownOf 367 = .ok (.sipush 2079, 3) := by decide +kernel
theorem dX10_knownOf_370 : decode cX10_knownOf 370 = .ok (.iadd, 1) := by decide +kernel
theorem dX10_knownOf_371 : decode cX10_knownOf 371 = .ok (.iload 6, 2) := by decide +kernel
theorem dX10_knownOf_373 : decode cX10_knownOf 373 = .ok (.iadd, 1) := by decide +kernel
theorem dX10_knownOf_374 : decode cX10_knownOf 374 = .ok (.baload, 1) := by decide +kernel
theorem dX10_knownOf_375 : decode cX10_knownOf 375 = .ok (.ifCond .eq 17, 3) := by decide +kernel
theorem dX10_knownOf_378 : decode cX10_knownOf 378 = .ok (.aload_n 0, 1) := by decide +kernel
theorem dX10_knownOf_379 : decode cX10_knownOf 379 = .ok (.getfield 198, 3) := by decide +kernel
theorem dX10_knownOf_382 : decode cX10_knownOf 382 = .ok (.sipush 2079, 3) := by decide +kernel
theorem dX10_knownOf_385 : decode cX10_knownOf 385 = .ok (.iload_n 3, 1) := by decide +kernel
theorem dX10_knownOf_386 : decode cX10_knownOf 386 = .ok (.imul, 1) := by decide +kernel
theorem dX10_knownOf_387 : decode cX10_knownOf 387 = .ok (.iload 4, 2) := by decide +kernel
theorem dX10_knownOf_389 : decode cX10_knownOf 389 = .ok (.iadd, 1) := by decide +kernel
theorem dX10_knownOf_390 : decode cX10_knownOf 390 = .ok (.iconst 1, 1) := by decide +kernel
theorem dX10_knownOf_391 : decode cX10_knownOf 391 = .ok (.bastore, 1) := by decide +kernel
theorem dX10_knownOf_392 : decode cX10_knownOf 392 = .ok (.iinc 5 1, 3) := by decide +kernel
theorem dX10_knownOf_395 : decode cX10_knownOf 395 = .ok (.goto (-106), 3) := by decide +kernel
theorem dX10_knownOf_398 : decode cX10_knownOf 398 = .ok (.iinc 4 1, 3) := by decide +kernel
theorem dX10_knownOf_401 : decode cX10_knownOf 401 = .ok (.goto (-123), 3) := by decide +kernel
theorem dX10_knownOf_404 : decode cX10_knownOf 404 = .ok (.iinc 3 (-1), 3) := by decide +kernel
theorem dX10_knownOf_407 : decode cX10_knownOf 407 = .ok (.goto (-136), 3) := by decide +kernel
theorem dX10_knownOf_410 : decode cX10_knownOf 410 = .ok (.iload_n 2, 1) := by decide +kernel
theorem dX10_knownOf_411 : decode cX10_knownOf 411 = .ok (.ireturn, 1) := by decide +kernel
theorem dX10_known_0 : decode cX10_known 0 = .ok (.aload_n 0, 1) := by decide +kernel
theorem dX10_known_1 : decode cX10_known 1 = .ok (.iload_n 1, 1) := by decide +kernel
theorem dX10_known_2 : decode cX10_known 2 = .ok (.invokevirtual 476, 3) := by decide +kernel
theorem dX10_known_5 : decode cX10_known 5 = .ok (.ifCond .eq 11, 3) := by decide +kernel
theorem dX10_known_8 : decode cX10_known 8 = .ok (.aload_n 0, 1) := by decide +kernel
theorem dX10_known_9 : decode cX10_known 9 = .ok (.iload_n 1, 1) := by decide +kernel
theorem dX10_known_10 : decode cX10_known 10 = .ok (.invokevirtual 540, 3) := by decide +kernel
theorem dX10_known_13 : decode cX10_known 13 = .ok (.goto 4, 3) := by decide +kernel
theorem dX10_known_16 : decode cX10_known 16 = .ok (.iconst (-1), 1) := by decide +kernel
theorem dX10_known_17 : decode cX10_known 17 = .ok (.ireturn, 1) := by decide +kernel
theorem dX10_knownAct_0 : decode cX10_knownAct 0 = .ok (.aload_n 0, 1) := by decide +kernel
theorem dX10_knownAct_1 : decode cX10_knownAct 1 = .ok (.iload_n 1, 1) := by decide +kernel
theorem dX10_knownAct_2 : decode cX10_knownAct 2 = .ok (.invokevirtual 476, 3) := by decide +kernel
theorem dX10_knownAct_5 : decode cX10_knownAct 5 = .ok (.ifCond .ne 5, 3) := by decide +kernel
theorem dX10_knownAct_8 : decode cX10_knownAct 8 = .ok (.iconst (-1), 1) := by decide +kernel
theorem dX10_knownAct_9 : decode cX10_knownAct 9 = .ok (.ireturn, 1) := by decide +kernel
theorem dX10_knownAct_10 : decode cX10_knownAct 10 = .ok (.aload_n 0, 1) := by decide +kernel
theorem dX10_knownAct_11 : decode cX10_knownAct 11 = .ok (.iload_n 1, 1) := by decide +kernel
theorem dX10_knownAct_12 : decode cX10_knownAct 12 = .ok (.invokevirtual 540, 3) := by decide +kernel
theorem dX10_knownAct_15 : decode cX10_knownAct 15 = .ok (.istore_n 3, 1) := by decide +kernel
theorem dX10_knownAct_16 : decode cX10_knownAct 16 = .ok (.iload_n 2, 1) := by decide +kernel
theorem dX10_knownAct_17 : decode cX10_knownAct 17 = .ok (.ifCond .lt 8, 3) := by decide +kernel
theorem dX10_knownAct_20 : decode cX10_knownAct 20 = .ok (.iload_n 2, 1) := by decide +kernel
theorem dX10_knownAct_21 : decode cX10_knownAct 21 = .ok (.iload_n 3, 1) := by decide +kernel
theorem dX10_knownAct_22 : decode cX10_knownAct 22 = .ok (.if_icmp .lt 5, 3) := by decide +kernel
theorem dX10_knownAct_25 : decode cX10_knownAct 25 = .ok (.iconst (-1), 1) := by decide +kernel
theorem dX10_knownAct_26 : decode cX10_knownAct 26 = .ok (.ireturn, 1) := by decide +kernel
theorem dX10_knownAct_27 : decode cX10_knownAct 27 = .ok (.iload_n 1, 1) := by decide +kernel
theorem dX10_knownAct_28 : decode cX10_knownAct 28 = .ok (.istore 4, 2) := by decide +kernel
theorem dX10_knownAct_30 : decode cX10_knownAct 30 = .ok (.iconst (-1), 1) := by decide +kernel
theorem dX10_knownAct_31 : decode cX10_knownAct 31 = .ok (.istore 5, 2) := by decide +kernel
theorem dX10_knownAct_33 : decode cX10_knownAct 33 = .ok (.iconst 0, 1) := by decide +kernel
theorem dX10_knownAct_34 : decode cX10_knownAct 34 = .ok (.istore 6, 2) := by decide +kernel
theorem dX10_knownAct_36 : decode cX10_knownAct 36 = .ok (.iload 6, 2) := by decide +kernel
theorem dX10_knownAct_38 : decode cX10_knownAct 38 = .ok (.iload_n 2, 1) := by decide +kernel
theorem dX10_knownAct_39 : decode cX10_knownAct 39 = .ok (.if_icmp .gt 116, 3) := by decide +kernel
theorem dX10_knownAct_42 : decode cX10_knownAct 42 = .ok (.iconst (-1), 1) := by decide +kernel
theorem dX10_knownAct_43 : decode cX10_knownAct 43 = .ok (.istore 5, 2) := by decide +kernel
theorem dX10_knownAct_45 : decode cX10_knownAct 45 = .ok (.iload 4, 2) := by decide +kernel
theorem dX10_knownAct_47 : decode cX10_knownAct 47 = .ok (.istore 7, 2) := by decide +kernel
theorem dX10_knownAct_49 : decode cX10_knownAct 49 = .ok (.aload_n 0, 1) := by decide +kernel
theorem dX10_knownAct_50 : decode cX10_knownAct 50 = .ok (.invokevirtual 482, 3) := by decide +kernel
theorem dX10_knownAct_53 : decode cX10_knownAct 53 = .ok (.iconst 1, 1) := by decide +kernel
theorem dX10_knownAct_54 : decode cX10_knownAct 54 = .ok (.isub, 1) := by decide +kernel
theorem dX10_knownAct_55 : decode cX10_knownAct 55 = .ok (.istore 8, 2) := by decide +kernel
theorem dX10_knownAct_57 : decode cX10_knownAct 57 = .ok (.iload 8, 2) := by decide +kernel
theorem dX10_knownAct_59 : decode cX10_knownAct 59 = .ok (.ifCond .lt 86, 3) := by decide +kernel
theorem dX10_knownAct_62 : decode cX10_knownAct 62 = .ok (.aload_n 0, 1) := by decide +kernel
theorem dX10_knownAct_63 : decode cX10_knownAct 63 = .ok (.getfield 163, 3) := by decide +kernel
theorem dX10_knownAct_66 : decode cX10_knownAct 66 = .ok (.bipush 6, 2) := by decide +kernel
theorem dX10_knownAct_68 : decode cX10_knownAct 68 = .ok (.iload 4, 2) := by decide +kernel
theorem dX10_knownAct_70 : decode cX10_knownAct 70 = .ok (.imul, 1) := by decide +kernel
theorem dX10_knownAct_71 : decode cX10_knownAct 71 = .ok (.iload 8, 2) := by decide +kernel
theorem dX10_knownAct_73 : decode cX10_knownAct 73 = .ok (.iadd, 1) := by decide +kernel
theorem dX10_knownAct_74 : decode cX10_knownAct 74 = .ok (.baload, 1) := by decide +kernel
theorem dX10_knownAct_75 : decode cX10_knownAct 75 = .ok (.ifCond .eq 21, 3) := by decide +kernel
theorem dX10_knownAct_78 : decode cX10_knownAct 78 = .ok (.aload_n 0, 1) := by decide +kernel
theorem dX10_knownAct_79 : decode cX10_knownAct 79 = .ok (.iload 4, 2) := by decide +kernel
theorem dX10_knownAct_81 : decode cX10_knownAct 81 = .ok (.iload 8, 2) := by decide +kernel
theorem dX10_knownAct_83 : decode cX10_knownAct 83 = .ok (.aload_n 0, 1) := by decide +kernel
theorem dX10_knownAct_84 : decode cX10_knownAct 84 = .ok (.getfield 130, 3) := by decide +kernel
theorem dX10_knownAct_87 : decode cX10_knownAct 87 = .ok (.iload 6, 2) := by decide +kernel
theorem dX10_knownAct_89 : decode cX10_knownAct 89 = .ok (.iaload, 1) := by decide +kernel
theorem dX10_knownAct_90 : decode cX10_knownAct 90 = .ok (.invokevirtual 507, 3) := by decide +kernel
theorem dX10_knownAct_93 : decode cX10_knownAct 93 = .ok (.goto 5, 3) := by decide +kernel
theorem dX10_knownAct_96 : decode cX10_knownAct 96 = .ok (.bipush (-2), 2) := by decide +kernel
theorem dX10_knownAct_98 : decode cX10_knownAct 98 = .ok (.istore 9, 2) := by decide +kernel
theorem dX10_knownAct_100 : decode cX10_knownAct 100 = .ok (.iload 9, 2) := by decide +kernel
theorem dX10_knownAct_102 : decode cX10_knownAct 102 = .ok (.bipush (-2), 2) := by decide +kernel
theorem dX10_knownAct_104 : decode cX10_knownAct 104 = .ok (.if_icmp .eq 35, 3) := by decide +kernel
theorem dX10_knownAct_107 : decode cX10_knownAct 107 = .ok (.aload_n 0, 1) := by decide +kernel
theorem dX10_knownAct_108 : decode cX10_knownAct 108 = .ok (.getfield 198, 3) := by decide +kernel
theorem dX10_knownAct_111 : decode cX10_knownAct 111 = .ok (.sipush 2079, 3) := by decide +kernel
theorem dX10_knownAct_114 : decode cX10_knownAct 114 = .ok (.iload 6, 2) := by decide +kernel
theorem dX10_knownAct_116 : decode cX10_knownAct 116 = .ok (.imul, 1) := by decide +kernel
theorem dX10_knownAct_117 : decode cX10_knownAct 117 = .ok (.sipush 2079, 3) := by decide +kernel
theorem dX10_knownAct_120 : decode cX10_knownAct 120 = .ok (.iadd, 1) := by decide +kernel
theorem dX10_knownAct_121 : decode cX10_knownAct 121 = .ok (.iload 9, 2) := by decide +kernel
theorem dX10_knownAct_123 : decode cX10_knownAct 123 = .ok (.iadd, 1) := by decide +kernel
theorem dX10_knownAct_124 : decode cX10_knownAct 124 = .ok (.baload, 1) := by decide +kernel
theorem dX10_knownAct_125 : decode cX10_knownAct 125 = .ok (.ifCond .ne 6, 3) := by decide +kernel
theorem dX10_knownAct_128 : decode cX10_knownAct 128 = .ok (.goto 11, 3) := by decide +kernel
theorem dX10_knownAct_131 : decode cX10_knownAct 131 = .ok (.iload 8, 2) := by decide +kernel
theorem dX10_knownAct_133 : decode cX10_knownAct 133 = .ok (.istore 5, 2) := by decide +kernel
theorem dX10_knownAct_135 : decode cX10_knownAct 135 = .ok (.iload 9, 2) := by decide +kernel
theorem dX10_knownAct_137 : decode cX10_knownAct 137 = .ok (.istore 7, 2) := by decide +kernel
theorem dX10_knownAct_139 : decode cX10_knownAct 139 = .ok (.iinc 8 (-1), 3) := by decide +kernel
theorem dX10_knownAct_142 : decode cX10_knownAct 142 = .ok (.goto (-85), 3) := by decide +kernel
theorem dX10_knownAct_145 : decode cX10_knownAct 145 = .ok (.iload 7, 2) := by decide +kernel
theorem dX10_knownAct_147 : decode cX10_knownAct 147 = .ok (.istore 4, 2) := by decide +kernel
theorem dX10_knownAct_149 : decode cX10_knownAct 149 = .ok (.iinc 6 1, 3) := by decide +kernel
theorem dX10_knownAct_152 : decode cX10_knownAct 152 = .ok (.goto (-116), 3) := by decide +kernel
theorem dX10_knownAct_155 : decode cX10_knownAct 155 = .ok (.iload 5, 2) := by decide +kernel
theorem dX10_knownAct_157 : decode cX10_knownAct 157 = .ok (.ireturn, 1) := by decide +kernel
theorem dX10_isBlindly_0 : decode cX10_isBlindly 0 = .ok (.aload_n 0, 1) := by decide +kernel
theorem dX10_isBlindly_1 : decode cX10_isBlindly 1 = .ok (.invokevirtual 482, 3) := by decide +kernel
theorem dX10_isBlindly_4 : decode cX10_isBlindly 4 = .ok (.istore 4, 2) := by decide +kernel
theorem dX10_isBlindly_6 : decode cX10_isBlindly 6 = .ok (.iconst 0, 1) := by decide +kernel
theorem dX10_isBlindly_7 : decode cX10_isBlindly 7 = .ok (.istore 5, 2) := by decide +kernel
theorem dX10_isBlindly_9 : decode cX10_isBlindly 9 = .ok (.iload 5, 2) := by decide +kernel
theorem dX10_isBlindly_11 : decode cX10_isBlindly 11 = .ok (.sipush 2079, 3) := by decide +kernel
theorem dX10_isBlindly_14 : decode cX10_isBlindly 14 = .ok (.if_icmp .ge 27, 3) := by decide +kernel
theorem dX10_isBlindly_17 : decode cX10_isBlindly 17 = .ok (.aload_n 0, 1) := by decide +kernel
theorem dX10_isBlindly_18 : decode cX10_isBlindly 18 = .ok (.getfield 201, 3) := by decide +kernel
theorem dX10_isBlindly_21 : decode cX10_isBlindly 21 = .ok (.iload 5, 2) := by decide +kernel
theorem dX10_isBlindly_23 : decode cX10_isBlindly 23 = .ok (.iload 5, 2) := by decide +kernel
theorem dX10_isBlindly_25 : decode cX10_isBlindly 25 = .ok (.iload_n 1, 1) := by decide +kernel
theorem dX10_isBlindly_26 : decode cX10_isBlindly 26 = .ok (.if_icmp .ne 7, 3) := by decide +kernel
theorem dX10_isBlindly_29 : decode cX10_isBlindly 29 = .ok (.iconst 1, 1) := by decide +kernel
theorem dX10_isBlindly_30 : decode cX10_isBlindly 30 = .ok (.goto 4, 3) := by decide +kernel
theorem dX10_isBlindly_33 : decode cX10_isBlindly 33 = .ok (.iconst 0, 1) := by decide +kernel
theorem dX10_isBlindly_34 : decode cX10_isBlindly 34 = .ok (.bastore, 1) := by decide +kernel
theorem dX10_isBlindly_35 : decode cX10_isBlindly 35 = .ok (.iinc 5 1, 3) := by decide +kernel
theorem dX10_isBlindly_38 : decode cX10_isBlindly 38 = .ok (.goto (-29), 3) := by decide +kernel
theorem dX10_isBlindly_41 : decode cX10_isBlindly 41 = .ok (.iconst 1, 1) := by decide +kernel
theorem dX10_isBlindly_42 : decode cX10_isBlindly 42 = .ok (.istore 5, 2) := by decide +kernel
theorem dX10_isBlindly_44 : decode cX10_isBlindly 44 = .ok (.iconst 1, 1) := by decide +kernel
theorem dX10_isBlindly_45 : decode cX10_isBlindly 45 = .ok (.istore 6, 2) := by decide +kernel
theorem dX10_isBlindly_47 : decode cX10_isBlindly 47 = .ok (.iload 6, 2) := by decide +kernel
theorem dX10_isBlindly_49 : decode cX10_isBlindly 49 = .ok (.iload_n 2, 1) := by decide +kernel
theorem dX10_isBlindly_50 : decode cX10_isBlindly 50 = .ok (.if_icmp .ge 16, 3) := by decide +kernel
theorem dX10_isBlindly_53 : decode cX10_isBlindly 53 = .ok (.iload 5, 2) := by decide +kernel
theorem dX10_isBlindly_55 : decode cX10_isBlindly 55 = .ok (.iload 4, 2) := by decide +kernel
theorem dX10_isBlindly_57 : decode cX10_isBlindly 57 = .ok (.imul, 1) := by decide +kernel
theorem dX10_isBlindly_58 : decode cX10_isBlindly 58 = .ok (.istore 5, 2) := by decide +kernel
theorem dX10_isBlindly_60 : decode cX10_isBlindly 60 = .ok (.iinc 6 1, 3) := by decide +kernel
theorem dX10_isBlindly_63 : decode cX10_isBlindly 63 = .ok (.goto (-16), 3) := by decide +kernel
theorem dX10_isBlindly_66 : decode cX10_isBlindly 66 = .ok (.iconst 0, 1) := by decide +kernel
theorem dX10_isBlindly_67 : decode cX10_isBlindly 67 = .ok (.istore 6, 2) := by decide +kernel
theorem dX10_isBlindly_69 : decode cX10_isBlindly 69 = .ok (.iload 6, 2) := by decide +kernel
theorem dX10_isBlindly_71 : decode cX10_isBlindly 71 = .ok (.iload_n 2, 1) := by decide +kernel
theorem dX10_isBlindly_72 : decode cX10_isBlindly 72 = .ok (.if_icmp .ge 84, 3) := by decide +kernel
theorem dX10_isBlindly_75 : decode cX10_isBlindly 75 = .ok (.iload_n 3, 1) := by decide +kernel
theorem dX10_isBlindly_76 : decode cX10_isBlindly 76 = .ok (.iload 5, 2) := by decide +kernel
theorem dX10_isBlindly_78 : decode cX10_isBlindly 78 = .ok (.idiv, 1) := by decide +kernel
theorem dX10_isBlindly_79 : decode cX10_isBlindly 79 = .ok (.iload 4, 2) := by decide +kernel
theorem dX10_isBlindly_81 : decode cX10_isBlindly 81 = .ok (.irem, 1) := by decide +kernel
theorem dX10_isBlindly_82 : decode cX10_isBlindly 82 = .ok (.istore 7, 2) := by decide +kernel
theorem dX10_isBlindly_84 : decode cX10_isBlindly 84 = .ok (.iload 6, 2) := by decide +kernel
theorem dX10_isBlindly_86 : decode cX10_isBlindly 86 = .ok (.iload_n 2, 1) := by decide +kernel
theorem dX10_isBlindly_87 : decode cX10_isBlindly 87 = .ok (.iconst 1, 1) := by decide +kernel
theorem dX10_isBlindly_88 : decode cX10_isBlindly 88 = .ok (.isub, 1) := by decide +kernel
theorem dX10_isBlindly_89 : decode cX10_isBlindly 89 = .ok (.if_icmp .ge 11, 3) := by decide +kernel
theorem dX10_isBlindly_92 : decode cX10_isBlindly 92 = .ok (.iload 5, 2) := by decide +kernel
theorem dX10_isBlindly_94 : decode cX10_isBlindly 94 = .ok (.iload 4, 2) := by decide +kernel
theorem dX10_isBlindly_96 : decode cX10_isBlindly 96 = .ok (.idiv, 1) := by decide +kernel
theorem dX10_isBlindly_97 : decode cX10_isBlindly 97 = .ok (.goto 5, 3) := by decide +kernel
theorem dX10_isBlindly_100 : decode cX10_isBlindly 100 = .ok (.iload 5, 2) := by decide +kernel
theorem dX10_isBlindly_102 : decode cX10_isBlindly 102 = .ok (.istore 5, 2) := by decide +kernel
theorem dX10_isBlindly_104 : decode cX10_isBlindly 104 = .ok (.aload_n 0, 1) := by decide +kernel
theorem dX10_isBlindly_105 : decode cX10_isBlindly 105 = .ok (.iload 7, 2) := by decide +kernel
theorem dX10_isBlindly_107 : decode cX10_isBlindly 107 = .ok (.invokevirtual 543, 3) := by decide +kernel
theorem dX10_isBlindly_110 : decode cX10_isBlindly 110 = .ok (.ifCond .ne 5, 3) := by decide +kernel
theorem dX10_isBlindly_113 : decode cX10_isBlindly 113 = .ok (.iconst 0, 1) := by decide +kernel
theorem dX10_isBlindly_114 : decode cX10_isBlindly 114 = .ok (.ireturn, 1) := by decide +kernel
theorem dX10_isBlindly_115 : decode cX10_isBlindly 115 = .ok (.iconst 0, 1) := by decide +kernel
theorem dX10_isBlindly_116 : decode cX10_isBlindly 116 = .ok (.istore 8, 2) := by decide +kernel
theorem dX10_isBlindly_118 : decode cX10_isBlindly 118 = .ok (.iload 8, 2) := by decide +kernel
theorem dX10_isBlindly_120 : decode cX10_isBlindly 120 = .ok (.sipush 2079, 3) := by decide +kernel
theorem dX10_isBlindly_123 : decode cX10_isBlindly 123 = .ok (.if_icmp .ge 27, 3) := by decide +kernel
theorem dX10_isBlindly_126 : decode cX10_isBlindly 126 = .ok (.aload_n 0, 1) := by decide +kernel
theorem dX10_isBlindly_127 : decode cX10_isBlindly 127 = .ok (.getfield 201, 3) := by decide +kernel
theorem dX10_isBlindly_130 : decode cX10_isBlindly 130 = .ok (.iload 8, 2) := by decide +kernel
theorem dX10_isBlindly_132 : decode cX10_isBlindly 132 = .ok (.aload_n 0, 1) := by decide +kernel
theorem dX10_isBlindly_133 : decode cX10_isBlindly 133 = .ok (.getfield 201, 3) := by decide +kernel
theorem dX10_isBlindly_136 : decode cX10_isBlindly 136 = .ok (.sipush 2079, 3) := by decide +kernel
theorem dX10_isBlindly_139 : decode cX10_isBlindly 139 = .ok (.iload 8, 2) := by decide +kernel
theorem dX10_isBlindly_141 : decode cX10_isBlindly 141 = .ok (.iadd, 1) := by decide +kernel
theorem dX10_isBlindly_142 : decode cX10_isBlindly 142 = .ok (.baload, 1) := by decide +kernel
theorem dX10_isBlindly_143 : decode cX10_isBlindly 143 = .ok (.bastore, 1) := by decide +kernel
theorem dX10_isBlindly_144 : decode cX10_isBlindly 144 = .ok (.iinc 8 1, 3) := by decide +kernel
theorem dX10_isBlindly_147 : decode cX10_isBlindly 147 = .ok (.goto (-29), 3) := by decide +kernel
theorem dX10_isBlindly_150 : decode cX10_isBlindly 150 = .ok (.iinc 6 1, 3) := by decide +kernel
theorem dX10_isBlindly_153 : decode cX10_isBlindly 153 = .ok (.goto (-84), 3) := by decide +kernel
theorem dX10_isBlindly_156 : decode cX10_isBlindly 156 = .ok (.iconst 1, 1) := by decide +kernel
theorem dX10_isBlindly_157 : decode cX10_isBlindly 157 = .ok (.ireturn, 1) := by decide +kernel
theorem dX10_goesBlindly_0 : decode cX10_goesBlindly 0 = .ok (.iconst 0, 1) := by decide +kernel
theorem dX10_goesBlindly_1 : decode cX10_goesBlindly 1 = .ok (.istore_n 2, 1) := by decide +kernel
theorem dX10_goesBlindly_2 : decode cX10_goesBlindly 2 = .ok (.iload_n 2, 1) := by decide +kernel
theorem dX10_goesBlindly_3 : decode cX10_goesBlindly 3 = .ok (.sipush 2079, 3) := by decide +kernel
theorem dX10_goesBlindly_6 : decode cX10_goesBlindly 6 = .ok (.if_icmp .ge 20, 3) := by decide +kernel
theorem dX10_goesBlindly_9 : decode cX10_goesBlindly 9 = .ok (.aload_n 0, 1) := by decide +kernel
theorem dX10_goesBlindly_10 : decode cX10_goesBlindly 10 = .ok (.getfield 201, 3) := by decide +kernel
theorem dX10_goesBlindly_13 : decode cX10_goesBlindly 13 = .ok (.sipush 2079, 3) := by decide +kernel
theorem dX10_goesBlindly_16 : decode cX10_goesBlindly 16 = .ok (.iload_n 2, 1) := by decide +kernel
theorem dX10_goesBlindly_17 : decode cX10_goesBlindly 17 = .ok (.iadd, 1) := by decide +kernel
theorem dX10_goesBlindly_18 : decode cX10_goesBlindly 18 = .ok (.iconst 0, 1) := by decide +kernel
theorem dX10_goesBlindly_19 : decode cX10_goesBlindly 19 = .ok (.bastore, 1) := by decide +kernel
theorem dX10_goesBlindly_20 : decode cX10_goesBlindly 20 = .ok (.iinc 2 1, 3) := by decide +kernel
theorem dX10_goesBlindly_23 : decode cX10_goesBlindly 23 = .ok (.goto (-21), 3) := by decide +kernel
theorem dX10_goesBlindly_26 : decode cX10_goesBlindly 26 = .ok (.iconst 0, 1) := by decide +kernel
theorem dX10_goesBlindly_27 : decode cX10_goesBlindly 27 = .ok (.istore_n 2, 1) := by decide +kernel
theorem dX10_goesBlindly_28 : decode cX10_goesBlindly 28 = .ok (.iload_n 2, 1) := by decide +kernel
theorem dX10_goesBlindly_29 : decode cX10_goesBlindly 29 = .ok (.sipush 2079, 3) := by decide +kernel
theorem dX10_goesBlindly_32 : decode cX10_goesBlindly 32 = .ok (.if_icmp .ge 112, 3) := by decide +kernel
theorem dX10_goesBlindly_35 : decode cX10_goesBlindly 35 = .ok (.aload_n 0, 1) := by decide +kernel
theorem dX10_goesBlindly_36 : decode cX10_goesBlindly 36 = .ok (.getfield 201, 3) := by decide +kernel
theorem dX10_goesBlindly_39 : decode cX10_goesBlindly 39 = .ok (.iload_n 2, 1) := by decide +kernel
theorem dX10_goesBlindly_40 : decode cX10_goesBlindly 40 = .ok (.baload, 1) := by decide +kernel
theorem dX10_goesBlindly_41 : decode cX10_goesBlindly 41 = .ok (.ifCond .ne 6, 3) := by decide +kernel
theorem dX10_goesBlindly_44 : decode cX10_goesBlindly 44 = .ok (.goto 94, 3) := by decide +kernel
theorem dX10_goesBlindly_47 : decode cX10_goesBlindly 47 = .ok (.aload_n 0, 1) := by decide +kernel
theorem dX10_goesBlindly_48 : decode cX10_goesBlindly 48 = .ok (.iload_n 2, 1) := by decide +kernel
theorem dX10_goesBlindly_49 : decode cX10_goesBlindly 49 = .ok (.invokevirtual 460, 3) := by decide +kernel
theorem dX10_goesBlindly_52 : decode cX10_goesBlindly 52 = .ok (.ifCond .eq 17, 3) := by decide +kernel
theorem dX10_goesBlindly_55 : decode cX10_goesBlindly 55 = .ok (.aload_n 0, 1) := by decide +kernel
theorem dX10_goesBlindly_56 : decode cX10_goesBlindly 56 = .ok (.getfield 201, 3) := by decide +kernel
theorem dX10_goesBlindly_59 : decode cX10_goesBlindly 59 = .ok (.sipush 2079, 3) := by decide +kernel
theorem dX10_goesBlindly_62 : decode cX10_goesBlindly 62 = .ok (.iload_n 2, 1) := by decide +kernel
theorem dX10_goesBlindly_63 : decode cX10_goesBlindly 63 = .ok (.iadd, 1) := by decide +kernel
theorem dX10_goesBlindly_64 : decode cX10_goesBlindly 64 = .ok (.iconst 1, 1) := by decide +kernel
theorem dX10_goesBlindly_65 : decode cX10_goesBlindly 65 = .ok (.bastore, 1) := by decide +kernel
theorem dX10_goesBlindly_66 : decode cX10_goesBlindly 66 = .ok (.goto 72, 3) := by decide +kernel
theorem dX10_goesBlindly_69 : decode cX10_goesBlindly 69 = .ok (.aload_n 0, 1) := by decide +kernel
theorem dX10_goesBlindly_70 : decode cX10_goesBlindly 70 = .ok (.getfield 163, 3) := by decide +kernel
theorem dX10_goesBlindly_73 : decode cX10_goesBlindly 73 = .ok (.bipush 6, 2) := by decide +kernel
theorem dX10_goesBlindly_75 : decode cX10_goesBlindly 75 = .ok (.iload_n 2, 1) := by decide +kernel
theorem dX10_goesBlindly_76 : decode cX10_goesBlindly 76 = .ok (.imul, 1) := by decide +kernel
theorem dX10_goesBlindly_77 : decode cX10_goesBlindly 77 = .ok (.iload_n 1, 1) := by decide +kernel
theorem dX10_goesBlindly_78 : decode cX10_goesBlindly 78 = .ok (.iadd, 1) := by decide +kernel
theorem dX10_goesBlindly_79 : decode cX10_goesBlindly 79 = .ok (.baload, 1) := by decide +kernel
theorem dX10_goesBlindly_80 : decode cX10_goesBlindly 80 = .ok (.ifCond .ne 5, 3) := by decide +kernel
theorem dX10_goesBlindly_83 : decode cX10_goesBlindly 83 = .ok (.iconst 0, 1) := by decide +kernel
theorem dX10_goesBlindly_84 : decode cX10_goesBlindly 84 = .ok (.ireturn, 1) := by decide +kernel
theorem dX10_goesBlindly_85 : decode cX10_goesBlindly 85 = .ok (.aload_n 0, 1) := by decide +kernel
theorem dX10_goesBlindly_86 : decode cX10_goesBlindly 86 = .ok (.getfield 157, 3) := by decide +kernel
theorem dX10_goesBlindly_89 : decode cX10_goesBlindly 89 = .ok (.iload_n 2, 1) := by decide +kernel
theorem dX10_goesBlindly_90 : decode cX10_goesBlindly 90 = .ok (.iaload, 1) := by decide +kernel
theorem dX10_goesBlindly_91 : decode cX10_goesBlindly 91 = .ok (.istore_n 3, 1) := by decide +kernel
theorem dX10_goesBlindly_92 : decode cX10_goesBlindly 92 = .ok (.iload_n 3, 1) := by decide +kernel
theorem dX10_goesBlindly_93 : decode cX10_goesBlindly 93 = .ok (.aload_n 0, 1) := by decide +kernel
theorem dX10_goesBlindly_94 : decode cX10_goesBlindly 94 = .ok (.getfield 160, 3) := by decide +kernel
theorem dX10_goesBlindly_97 : decode cX10_goesBlindly 97 = .ok (.iload_n 2, 1) := by decide +kernel
theorem dX10_goesBlindly_98 : decode cX10_goesBlindly 98 = .ok (.iaload, 1) := by decide +kernel
theorem dX10_goesBlindly_99 : decode cX10_goesBlindly 99 = .ok (.if_icmp .gt 39, 3) := by decide +kernel
theorem dX10_goesBlindly_102 : decode cX10_goesBlindly 102 = .ok (.aload_n 0, 1) := by decide +kernel
theorem dX10_goesBlindly_103 : decode cX10_goesBlindly 103 = .ok (.iload_n 2, 1) := by decide +kernel
theorem dX10_goesBlindly_104 : decode cX10_goesBlindly 104 = .ok (.iload_n 1, 1) := by decide +kernel
theorem dX10_goesBlindly_105 : decode cX10_goesBlindly 105 = .ok (.iload_n 3, 1) := by decide +kernel
theorem dX10_goesBlindly_106 : decode cX10_goesBlindly 106 = .ok (.invokevirtual 507, 3) := by decide +kernel
theorem dX10_goesBlindly_109 : decode cX10_goesBlindly 109 = .ok (.istore 4, 2) := by decide +kernel
theorem dX10_goesBlindly_111 : decode cX10_goesBlindly 111 = .ok (.iload 4, 2) := by decide +kernel
theorem dX10_goesBlindly_113 : decode cX10_goesBlindly 113 = .ok (.bipush (-2), 2) := by decide +kernel
theorem dX10_goesBlindly_115 : decode cX10_goesBlindly 115 = .ok (.if_icmp .ne 5, 3) := by decide +kernel
theorem dX10_goesBlindly_118 : decode cX10_goesBlindly 118 = .ok (.iconst 0, 1) := by decide +kernel
theorem dX10_goesBlindly_119 : decode cX10_goesBlindly 119 = .ok (.ireturn, 1) := by decide +kernel
theorem dX10_goesBlindly_120 : decode cX10_goesBlindly 120 = .ok (.aload_n 0, 1) := by decide +kernel
theorem dX10_goesBlindly_121 : decode cX10_goesBlindly 121 = .ok (.getfield 201, 3) := by decide +kernel
theorem dX10_goesBlindly_124 : decode cX10_goesBlindly 124 = .ok (.sipush 2079, 3) := by decide +kernel
theorem dX10_goesBlindly_127 : decode cX10_goesBlindly 127 = .ok (.iload 4, 2) := by decide +kernel
theorem dX10_goesBlindly_129 : decode cX10_goesBlindly 129 = .ok (.iadd, 1) := by decide +kernel
theorem dX10_goesBlindly_130 : decode cX10_goesBlindly 130 = .ok (.iconst 1, 1) := by decide +kernel
theorem dX10_goesBlindly_131 : decode cX10_goesBlindly 131 = .ok (.bastore, 1) := by decide +kernel
theorem dX10_goesBlindly_132 : decode cX10_goesBlindly 132 = .ok (.iinc 3 1, 3) := by decide +kernel
theorem dX10_goesBlindly_135 : decode cX10_goesBlindly 135 = .ok (.goto (-43), 3) := by decide +kernel
theorem dX10_goesBlindly_138 : decode cX10_goesBlindly 138 = .ok (.iinc 2 1, 3) := by decide +kernel
theorem dX10_goesBlindly_141 : decode cX10_goesBlindly 141 = .ok (.goto (-113), 3) := by decide +kernel
theorem dX10_goesBlindly_144 : decode cX10_goesBlindly 144 = .ok (.iconst 1, 1) := by decide +kernel
theorem dX10_goesBlindly_145 : decode cX10_goesBlindly 145 = .ok (.ireturn, 1) := by decide +kernel
theorem dX10_rowsOf_0 : decode cX10_rowsOf 0 = .ok (.iconst 1, 1) := by decide +kernel
theorem dX10_rowsOf_1 : decode cX10_rowsOf 1 = .ok (.istore_n 2, 1) := by decide +kernel
theorem dX10_rowsOf_2 : decode cX10_rowsOf 2 = .ok (.iconst 0, 1) := by decide +kernel
theorem dX10_rowsOf_3 : decode cX10_rowsOf 3 = .ok (.istore_n 3, 1) := by decide +kernel
theorem dX10_rowsOf_4 : decode cX10_rowsOf 4 = .ok (.iload_n 3, 1) := by decide +kernel
theorem dX10_rowsOf_5 : decode cX10_rowsOf 5 = .ok (.iload_n 1, 1) := by decide +kernel
theorem dX10_rowsOf_6 : decode cX10_rowsOf 6 = .ok (.if_icmp .ge 16, 3) := by decide +kernel
theorem dX10_rowsOf_9 : decode cX10_rowsOf 9 = .ok (.iload_n 2, 1) := by decide +kernel
theorem dX10_rowsOf_10 : decode cX10_rowsOf 10 = .ok (.aload_n 0, 1) := by decide +kernel
theorem dX10_rowsOf_11 : decode cX10_rowsOf 11 = .ok (.invokevirtual 482, 3) := by decide +kernel
theorem dX10_rowsOf_14 : decode cX10_rowsOf 14 = .ok (.imul, 1) := by decide +kernel
theorem dX10_rowsOf_15 : decode cX10_rowsOf 15 = .ok (.istore_n 2, 1) := by decide +kernel
theorem dX10_rowsOf_16 : decode cX10_rowsOf 16 = .ok (.iinc 3 1, 3) := by decide +kernel
theorem dX10_rowsOf_19 : decode cX10_rowsOf 19 = .ok (.goto (-15), 3) := by decide +kernel
theorem dX10_rowsOf_22 : decode cX10_rowsOf 22 = .ok (.iload_n 2, 1) := by decide +kernel
theorem dX10_rowsOf_23 : decode cX10_rowsOf 23 = .ok (.ireturn, 1) := by decide +kernel
theorem dX10_blind_0 : decode cX10_blind 0 = .ok (.aload_n 0, 1) := by decide +kernel
theorem dX10_blind_1 : decode cX10_blind 1 = .ok (.iload_n 1, 1) := by decide +kernel
theorem dX10_blind_2 : decode cX10_blind 2 = .ok (.invokevirtual 476, 3) := by decide +kernel
theorem dX10_blind_5 : decode cX10_blind 5 = .ok (.ifCond .eq 13, 3) := by decide +kernel
theorem dX10_blind_8 : decode cX10_blind 8 = .ok (.iload_n 2, 1) := by decide +kernel
theorem dX10_blind_9 : decode cX10_blind 9 = .ok (.iconst 1, 1) := by decide +kernel
theorem dX10_blind_10 : decode cX10_blind 10 = .ok (.if_icmp .lt 8, 3) := by decide +kernel
theorem dX10_blind_13 : decode cX10_blind 13 = .ok (.iload_n 2, 1) := by decide +kernel
theorem dX10_blind_14 : decode cX10_blind 14 = .ok (.iconst 4, 1) := by decide +kernel
theorem dX10_blind_15 : decode cX10_blind 15 = .ok (.if_icmp .le 5, 3) := by decide +kernel
theorem dX10_blind_18 : decode cX10_blind 18 = .ok (.iconst (-1), 1) := by decide +kernel
theorem dX10_blind_19 : decode cX10_blind 19 = .ok (.ireturn, 1) := by decide +kernel
theorem dX10_blind_20 : decode cX10_blind 20 = .ok (.aload_n 0, 1) := by decide +kernel
theorem dX10_blind_21 : decode cX10_blind 21 = .ok (.invokevirtual 516, 3) := by decide +kernel
theorem dX10_blind_24 : decode cX10_blind 24 = .ok (.iconst 0, 1) := by decide +kernel
theorem dX10_blind_25 : decode cX10_blind 25 = .ok (.istore_n 3, 1) := by decide +kernel
theorem dX10_blind_26 : decode cX10_blind 26 = .ok (.aload_n 0, 1) := by decide +kernel
theorem dX10_blind_27 : decode cX10_blind 27 = .ok (.iload_n 2, 1) := by decide +kernel
theorem dX10_blind_28 : decode cX10_blind 28 = .ok (.invokevirtual 546, 3) := by decide +kernel
theorem dX10_blind_31 : decode cX10_blind 31 = .ok (.istore 4, 2) := by decide +kernel
theorem dX10_blind_33 : decode cX10_blind 33 = .ok (.iconst 0, 1) := by decide +kernel
theorem dX10_blind_34 : decode cX10_blind 34 = .ok (.istore 5, 2) := by decide +kernel
theorem dX10_blind_36 : decode cX10_blind 36 = .ok (.iload 5, 2) := by decide +kernel
theorem dX10_blind_38 : decode cX10_blind 38 = .ok (.iload 4, 2) := by decide +kernel
theorem dX10_blind_40 : decode cX10_blind 40 = .ok (.if_icmp .ge 28, 3) := by decide +kernel
theorem dX10_blind_43 : decode cX10_blind 43 = .ok (.iload_n 3, 1) := by decide +kernel
theorem dX10_blind_44 : decode cX10_blind 44 = .ok (.aload_n 0, 1) := by decide +kernel
theorem dX10_blind_45 : decode cX10_blind 45 = .ok (.iload_n 1, 1) := by decide +kernel
theorem dX10_blind_46 : decode cX10_blind 46 = .ok (.iload_n 2, 1) := by decide +kernel
theorem dX10_blind_47 : decode cX10_blind 47 = .ok (.iload 5, 2) := by decide +kernel
theorem dX10_blind_49 : decode cX10_blind 49 = .ok (.invokevirtual 549, 3) := by decide +kernel
theorem dX10_blind_52 : decode cX10_blind 52 = .ok (.ifCond .eq 7, 3) := by decide +kernel
theorem dX10_blind_55 : decode cX10_blind 55 = .ok (.iconst 1, 1) := by decide +kernel
theorem dX10_blind_56 : decode cX10_blind 56 = .ok (.goto 4, 3) := by decide +kernel
theorem dX10_blind_59 : decode cX10_blind 59 = .ok (.iconst 0, 1) := by decide +kernel
theorem dX10_blind_60 : decode cX10_blind 60 = .ok (.iadd, 1) := by decide +kernel
theorem dX10_blind_61 : decode cX10_blind 61 = .ok (.istore_n 3, 1) := by decide +kernel
theorem dX10_blind_62 : decode cX10_blind 62 = .ok (.iinc 5 1, 3) := by decide +kernel
theorem dX10_blind_65 : decode cX10_blind 65 = .ok (.goto (-29), 3) := by decide +kernel
theorem dX10_blind_68 : decode cX10_blind 68 = .ok (.iload_n 3, 1) := by decide +kernel
theorem dX10_blind_69 : decode cX10_blind 69 = .ok (.ireturn, 1) := by decide +kernel
theorem dX10_blindAct_0 : decode cX10_blindAct 0 = .ok (.aload_n 0, 1) := by decide +kernel
theorem dX10_blindAct_1 : decode cX10_blindAct 1 = .ok (.iload_n 1, 1) := by decide +kernel
theorem dX10_blindAct_2 : decode cX10_blindAct 2 = .ok (.invokevirtual 476, 3) := by decide +kernel
theorem dX10_blindAct_5 : decode cX10_blindAct 5 = .ok (.ifCond .eq 22, 3) := by decide +kernel
theorem dX10_blindAct_8 : decode cX10_blindAct 8 = .ok (.iload_n 2, 1) := by decide +kernel
theorem dX10_blindAct_9 : decode cX10_blindAct 9 = .ok (.iconst 1, 1) := by decide +kernel
theorem dX10_blindAct_10 : decode cX10_blindAct 10 = .ok (.if_icmp .lt 17, 3) := by decide +kernel
theorem dX10_blindAct_13 : decode cX10_blindAct 13 = .ok (.iload_n 2, 1) := by decide +kernel
theorem dX10_blindAct_14 : decode cX10_blindAct 14 = .ok (.iconst 4, 1) := by decide +kernel
theorem dX10_blindAct_15 : decode cX10_blindAct 15 = .ok (.if_icmp .gt 12, 3) := by decide +kernel
theorem dX10_blindAct_18 : decode cX10_blindAct 18 = .ok (.iload_n 3, 1) := by decide +kernel
theorem dX10_blindAct_19 : decode cX10_blindAct 19 = .ok (.ifCond .lt 8, 3) := by decide +kernel
theorem dX10_blindAct_22 : decode cX10_blindAct 22 = .ok (.iload_n 3, 1) := by decide +kernel
theorem dX10_blindAct_23 : decode cX10_blindAct 23 = .ok (.iload_n 2, 1) := by decide +kernel
theorem dX10_blindAct_24 : decode cX10_blindAct 24 = .ok (.if_icmp .lt 5, 3) := by decide +kernel
theorem dX10_blindAct_27 : decode cX10_blindAct 27 = .ok (.iconst (-1), 1) := by decide +kernel
theorem dX10_blindAct_28 : decode cX10_blindAct 28 = .ok (.ireturn, 1) := by decide +kernel
theorem dX10_blindAct_29 : decode cX10_blindAct 29 = .ok (.aload_n 0, 1) := by decide +kernel
theorem dX10_blindAct_30 : decode cX10_blindAct 30 = .ok (.invokevirtual 516, 3) := by decide +kernel
theorem dX10_blindAct_33 : decode cX10_blindAct 33 = .ok (.aload_n 0, 1) := by decide +kernel
theorem dX10_blindAct_34 : decode cX10_blindAct 34 = .ok (.iload_n 2, 1) := by decide +kernel
theorem dX10_blindAct_35 : decode cX10_blindAct 35 = .ok (.invokevirtual 546, 3) := by decide +kernel
theorem dX10_blindAct_38 : decode cX10_blindAct 38 = .ok (.istore 4, 2) := by decide +kernel
