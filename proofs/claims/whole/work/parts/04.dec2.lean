theorem dX4_leanOf_10 : decode cX4_leanOf 10 = .ok (.ireturn, 1) := by decide +kernel
theorem dX4_swingOf_0 : decode cX4_swingOf 0 = .ok (.iload_n 0, 1) := by decide +kernel
theorem dX4_swingOf_1 : decode cX4_swingOf 1 = .ok (.bipush 11, 2) := by decide +kernel
theorem dX4_swingOf_3 : decode cX4_swingOf 3 = .ok (.irem, 1) := by decide +kernel
theorem dX4_swingOf_4 : decode cX4_swingOf 4 = .ok (.iconst 5, 1) := by decide +kernel
theorem dX4_swingOf_5 : decode cX4_swingOf 5 = .ok (.isub, 1) := by decide +kernel
theorem dX4_swingOf_6 : decode cX4_swingOf 6 = .ok (.ireturn, 1) := by decide +kernel
theorem dX5_init_0 : decode cX5_init 0 = .ok (.aload_n 0, 1) := by decide +kernel
theorem dX5_init_1 : decode cX5_init 1 = .ok (.invokespecial 3, 3) := by decide +kernel
theorem dX5_init_4 : decode cX5_init 4 = .ok (.aload_n 0, 1) := by decide +kernel
theorem dX5_init_5 : decode cX5_init 5 = .ok (.sipush 2079, 3) := by decide +kernel
theorem dX5_init_8 : decode cX5_init 8 = .ok (.newarray .int, 2) := by decide +kernel
theorem dX5_init_10 : decode cX5_init 10 = .ok (.putfield 9, 3) := by decide +kernel
theorem dX5_init_13 : decode cX5_init 13 = .ok (.aload_n 0, 1) := by decide +kernel
theorem dX5_init_14 : decode cX5_init 14 = .ok (.sipush 2079, 3) := by decide +kernel
theorem dX5_init_17 : decode cX5_init 17 = .ok (.newarray .int, 2) := by decide +kernel
theorem dX5_init_19 : decode cX5_init 19 = .ok (.putfield 15, 3) := by decide +kernel
theorem dX5_init_22 : decode cX5_init 22 = .ok (.aload_n 0, 1) := by decide +kernel
theorem dX5_init_23 : decode cX5_init 23 = .ok (.sipush 2079, 3) := by decide +kernel
theorem dX5_init_26 : decode cX5_init 26 = .ok (.newarray .int, 2) := by decide +kernel
theorem dX5_init_28 : decode cX5_init 28 = .ok (.putfield 18, 3) := by decide +kernel
theorem dX5_init_31 : decode cX5_init 31 = .ok (.aload_n 0, 1) := by decide +kernel
theorem dX5_init_32 : decode cX5_init 32 = .ok (.sipush 2079, 3) := by decide +kernel
theorem dX5_init_35 : decode cX5_init 35 = .ok (.newarray .int, 2) := by decide +kernel
theorem dX5_init_37 : decode cX5_init 37 = .ok (.putfield 21, 3) := by decide +kernel
theorem dX5_init_40 : decode cX5_init 40 = .ok (.aload_n 0, 1) := by decide +kernel
theorem dX5_init_41 : decode cX5_init 41 = .ok (.sipush 2079, 3) := by decide +kernel
theorem dX5_init_44 : decode cX5_init 44 = .ok (.newarray .int, 2) := by decide +kernel
theorem dX5_init_46 : decode cX5_init 46 = .ok (.putfield 24, 3) := by decide +kernel
theorem dX5_init_49 : decode cX5_init 49 = .ok (.aload_n 0, 1) := by decide +kernel
theorem dX5_init_50 : decode cX5_init 50 = .ok (.sipush 2079, 3) := by decide +kernel
theorem dX5_init_53 : decode cX5_init 53 = .ok (.newarray .int, 2) := by decide +kernel
theorem dX5_init_55 : decode cX5_init 55 = .ok (.putfield 27, 3) := by decide +kernel
theorem dX5_init_58 : decode cX5_init 58 = .ok (.aload_n 0, 1) := by decide +kernel
theorem dX5_init_59 : decode cX5_init 59 = .ok (.sipush 2079, 3) := by decide +kernel
theorem dX5_init_62 : decode cX5_init 62 = .ok (.newarray .int, 2) := by decide +kernel
theorem dX5_init_64 : decode cX5_init 64 = .ok (.putfield 30, 3) := by decide +kernel
theorem dX5_init_67 : decode cX5_init 67 = .ok (.aload_n 0, 1) := by decide +kernel
theorem dX5_init_68 : decode cX5_init 68 = .ok (.sipush 2079, 3) := by decide +kernel
theorem dX5_init_71 : decode cX5_init 71 = .ok (.newarray .int, 2) := by decide +kernel
theorem dX5_init_73 : decode cX5_init 73 = .ok (.putfield 33, 3) := by decide +kernel
theorem dX5_init_76 : decode cX5_init 76 = .ok (.aload_n 0, 1) := by decide +kernel
theorem dX5_init_77 : decode cX5_init 77 = .ok (.sipush 2079, 3) := by decide +kernel
theorem dX5_init_80 : decode cX5_init 80 = .ok (.newarray .int, 2) := by decide +kernel
theorem dX5_init_82 : decode cX5_init 82 = .ok (.putfield 36, 3) := by decide +kernel
theorem dX5_init_85 : decode cX5_init 85 = .ok (.aload_n 0, 1) := by decide +kernel
theorem dX5_init_86 : decode cX5_init 86 = .ok (.aload_n 1, 1) := by decide +kernel
theorem dX5_init_87 : decode cX5_init 87 = .ok (.putfield 39, 3) := by decide +kernel
theorem dX5_init_90 : decode cX5_init 90 = .ok (.aload_n 0, 1) := by decide +kernel
theorem dX5_init_91 : decode cX5_init 91 = .ok (.iconst (-1), 1) := by decide +kernel
theorem dX5_init_92 : decode cX5_init 92 = .ok (.putfield 43, 3) := by decide +kernel
theorem dX5_init_95 : decode cX5_init 95 = .ok (.return_, 1) := by decide +kernel
theorem dX5_dropText_0 : decode cX5_dropText 0 = .ok (.aload_n 0, 1) := by decide +kernel
theorem dX5_dropText_1 : decode cX5_dropText 1 = .ok (.iconst 0, 1) := by decide +kernel
theorem dX5_dropText_2 : decode cX5_dropText 2 = .ok (.putfield 47, 3) := by decide +kernel
theorem dX5_dropText_5 : decode cX5_dropText 5 = .ok (.return_, 1) := by decide +kernel
theorem dX5_dropPole_0 : decode cX5_dropPole 0 = .ok (.aload_n 0, 1) := by decide +kernel
theorem dX5_dropPole_1 : decode cX5_dropPole 1 = .ok (.iconst 0, 1) := by decide +kernel
theorem dX5_dropPole_2 : decode cX5_dropPole 2 = .ok (.putfield 50, 3) := by decide +kernel
theorem dX5_dropPole_5 : decode cX5_dropPole 5 = .ok (.aload_n 0, 1) := by decide +kernel
theorem dX5_dropPole_6 : decode cX5_dropPole 6 = .ok (.iconst 0, 1) := by decide +kernel
theorem dX5_dropPole_7 : decode cX5_dropPole 7 = .ok (.putfield 54, 3) := by decide +kernel
theorem dX5_dropPole_10 : decode cX5_dropPole 10 = .ok (.aload_n 0, 1) := by decide +kernel
theorem dX5_dropPole_11 : decode cX5_dropPole 11 = .ok (.iconst (-1), 1) := by decide +kernel
theorem dX5_dropPole_12 : decode cX5_dropPole 12 = .ok (.putfield 43, 3) := by decide +kernel
theorem dX5_dropPole_15 : decode cX5_dropPole 15 = .ok (.return_, 1) := by decide +kernel
theorem dX5_isSafe_0 : decode cX5_isSafe 0 = .ok (.iload_n 1, 1) := by decide +kernel
theorem dX5_isSafe_1 : decode cX5_isSafe 1 = .ok (.ifCond .lt 25, 3) := by decide +kernel
theorem dX5_isSafe_4 : decode cX5_isSafe 4 = .ok (.iload_n 1, 1) := by decide +kernel
theorem dX5_isSafe_5 : decode cX5_isSafe 5 = .ok (.sipush 2079, 3) := by decide +kernel
theorem dX5_isSafe_8 : decode cX5_isSafe 8 = .ok (.if_icmp .ge 18, 3) := by decide +kernel
theorem dX5_isSafe_11 : decode cX5_isSafe 11 = .ok (.aload_n 0, 1) := by decide +kernel
theorem dX5_isSafe_12 : decode cX5_isSafe 12 = .ok (.getfield 9, 3) := by decide +kernel
theorem dX5_isSafe_15 : decode cX5_isSafe 15 = .ok (.iload_n 1, 1) := by decide +kernel
theorem dX5_isSafe_16 : decode cX5_isSafe 16 = .ok (.iaload, 1) := by decide +kernel
theorem dX5_isSafe_17 : decode cX5_isSafe 17 = .ok (.ldc 57, 2) := by decide +kernel
theorem dX5_isSafe_19 : decode cX5_isSafe 19 = .ok (.if_icmp .ne 7, 3) := by decide +kernel
theorem dX5_isSafe_22 : decode cX5_isSafe 22 = .ok (.iconst 1, 1) := by decide +kernel
theorem dX5_isSafe_23 : decode cX5_isSafe 23 = .ok (.goto 4, 3) := by decide +kernel
theorem dX5_isSafe_26 : decode cX5_isSafe 26 = .ok (.iconst 0, 1) := by decide +kernel
theorem dX5_isSafe_27 : decode cX5_isSafe 27 = .ok (.ireturn, 1) := by decide +kernel
theorem dX5_isSafeAct_0 : decode cX5_isSafeAct 0 = .ok (.aload_n 0, 1) := by decide +kernel
theorem dX5_isSafeAct_1 : decode cX5_isSafeAct 1 = .ok (.aload_n 0, 1) := by decide +kernel
theorem dX5_isSafeAct_2 : decode cX5_isSafeAct 2 = .ok (.getfield 9, 3) := by decide +kernel
theorem dX5_isSafeAct_5 : decode cX5_isSafeAct 5 = .ok (.ldc 57, 2) := by decide +kernel
theorem dX5_isSafeAct_7 : decode cX5_isSafeAct 7 = .ok (.iload_n 1, 1) := by decide +kernel
theorem dX5_isSafeAct_8 : decode cX5_isSafeAct 8 = .ok (.iload_n 2, 1) := by decide +kernel
theorem dX5_isSafeAct_9 : decode cX5_isSafeAct 9 = .ok (.aload_n 0, 1) := by decide +kernel
theorem dX5_isSafeAct_10 : decode cX5_isSafeAct 10 = .ok (.getfield 39, 3) := by decide +kernel
theorem dX5_isSafeAct_13 : decode cX5_isSafeAct 13 = .ok (.iload_n 1, 1) := by decide +kernel
theorem dX5_isSafeAct_14 : decode cX5_isSafeAct 14 = .ok (.invokevirtual 58, 3) := by decide +kernel
theorem dX5_isSafeAct_17 : decode cX5_isSafeAct 17 = .ok (.aload_n 0, 1) := by decide +kernel
theorem dX5_isSafeAct_18 : decode cX5_isSafeAct 18 = .ok (.getfield 39, 3) := by decide +kernel
theorem dX5_isSafeAct_21 : decode cX5_isSafeAct 21 = .ok (.iload_n 1, 1) := by decide +kernel
theorem dX5_isSafeAct_22 : decode cX5_isSafeAct 22 = .ok (.invokevirtual 64, 3) := by decide +kernel
theorem dX5_isSafeAct_25 : decode cX5_isSafeAct 25 = .ok (.invokevirtual 67, 3) := by decide +kernel
theorem dX5_isSafeAct_28 : decode cX5_isSafeAct 28 = .ok (.ireturn, 1) := by decide +kernel
theorem dX5_safeAmong_0 : decode cX5_safeAmong 0 = .ok (.iconst 0, 1) := by decide +kernel
theorem dX5_safeAmong_1 : decode cX5_safeAmong 1 = .ok (.istore_n 3, 1) := by decide +kernel
theorem dX5_safeAmong_2 : decode cX5_safeAmong 2 = .ok (.iload_n 1, 1) := by decide +kernel
theorem dX5_safeAmong_3 : decode cX5_safeAmong 3 = .ok (.istore 4, 2) := by decide +kernel
theorem dX5_safeAmong_5 : decode cX5_safeAmong 5 = .ok (.iload 4, 2) := by decide +kernel
theorem dX5_safeAmong_7 : decode cX5_safeAmong 7 = .ok (.iload_n 2, 1) := by decide +kernel
theorem dX5_safeAmong_8 : decode cX5_safeAmong 8 = .ok (.if_icmp .ge 26, 3) := by decide +kernel
theorem dX5_safeAmong_11 : decode cX5_safeAmong 11 = .ok (.iload_n 3, 1) := by decide +kernel
theorem dX5_safeAmong_12 : decode cX5_safeAmong 12 = .ok (.aload_n 0, 1) := by decide +kernel
theorem dX5_safeAmong_13 : decode cX5_safeAmong 13 = .ok (.iload 4, 2) := by decide +kernel
theorem dX5_safeAmong_15 : decode cX5_safeAmong 15 = .ok (.invokevirtual 71, 3) := by decide +kernel
theorem dX5_safeAmong_18 : decode cX5_safeAmong 18 = .ok (.ifCond .eq 7, 3) := by decide +kernel
theorem dX5_safeAmong_21 : decode cX5_safeAmong 21 = .ok (.iconst 1, 1) := by decide +kernel
theorem dX5_safeAmong_22 : decode cX5_safeAmong 22 = .ok (.goto 4, 3) := by decide +kernel
theorem dX5_safeAmong_25 : decode cX5_safeAmong 25 = .ok (.iconst 0, 1) := by decide +kernel
theorem dX5_safeAmong_26 : decode cX5_safeAmong 26 = .ok (.iadd, 1) := by decide +kernel
theorem dX5_safeAmong_27 : decode cX5_safeAmong 27 = .ok (.istore_n 3, 1) := by decide +kernel
theorem dX5_safeAmong_28 : decode cX5_safeAmong 28 = .ok (.iinc 4 1, 3) := by decide +kernel
theorem dX5_safeAmong_31 : decode cX5_safeAmong 31 = .ok (.goto (-26), 3) := by decide +kernel
theorem dX5_safeAmong_34 : decode cX5_safeAmong 34 = .ok (.iload_n 3, 1) := by decide +kernel
theorem dX5_safeAmong_35 : decode cX5_safeAmong 35 = .ok (.ireturn, 1) := by decide +kernel
theorem dX5_greatestDoom_0 : decode cX5_greatestDoom 0 = .ok (.iconst (-1), 1) := by decide +kernel
theorem dX5_greatestDoom_1 : decode cX5_greatestDoom 1 = .ok (.istore_n 1, 1) := by decide +kernel
theorem dX5_greatestDoom_2 : decode cX5_greatestDoom 2 = .ok (.iconst 0, 1) := by decide +kernel
theorem dX5_greatestDoom_3 : decode cX5_greatestDoom 3 = .ok (.istore_n 2, 1) := by decide +kernel
theorem dX5_greatestDoom_4 : decode cX5_greatestDoom 4 = .ok (.iload_n 2, 1) := by decide +kernel
theorem dX5_greatestDoom_5 : decode cX5_greatestDoom 5 = .ok (.sipush 2079, 3) := by decide +kernel
theorem dX5_greatestDoom_8 : decode cX5_greatestDoom 8 = .ok (.if_icmp .ge 37, 3) := by decide +kernel
theorem dX5_greatestDoom_11 : decode cX5_greatestDoom 11 = .ok (.aload_n 0, 1) := by decide +kernel
theorem dX5_greatestDoom_12 : decode cX5_greatestDoom 12 = .ok (.getfield 9, 3) := by decide +kernel
theorem dX5_greatestDoom_15 : decode cX5_greatestDoom 15 = .ok (.iload_n 2, 1) := by decide +kernel
theorem dX5_greatestDoom_16 : decode cX5_greatestDoom 16 = .ok (.iaload, 1) := by decide +kernel
theorem dX5_greatestDoom_17 : decode cX5_greatestDoom 17 = .ok (.ldc 57, 2) := by decide +kernel
theorem dX5_greatestDoom_19 : decode cX5_greatestDoom 19 = .ok (.if_icmp .eq 20, 3) := by decide +kernel
theorem dX5_greatestDoom_22 : decode cX5_greatestDoom 22 = .ok (.aload_n 0, 1) := by decide +kernel
theorem dX5_greatestDoom_23 : decode cX5_greatestDoom 23 = .ok (.getfield 9, 3) := by decide +kernel
theorem dX5_greatestDoom_26 : decode cX5_greatestDoom 26 = .ok (.iload_n 2, 1) := by decide +kernel
theorem dX5_greatestDoom_27 : decode cX5_greatestDoom 27 = .ok (.iaload, 1) := by decide +kernel
theorem dX5_greatestDoom_28 : decode cX5_greatestDoom 28 = .ok (.iload_n 1, 1) := by decide +kernel
theorem dX5_greatestDoom_29 : decode cX5_greatestDoom 29 = .ok (.if_icmp .le 10, 3) := by decide +kernel
theorem dX5_greatestDoom_32 : decode cX5_greatestDoom 32 = .ok (.aload_n 0, 1) := by decide +kernel
theorem dX5_greatestDoom_33 : decode cX5_greatestDoom 33 = .ok (.getfield 9, 3) := by decide +kernel
theorem dX5_greatestDoom_36 : decode cX5_greatestDoom 36 = .ok (.iload_n 2, 1) := by decide +kernel
theorem dX5_greatestDoom_37 : decode cX5_greatestDoom 37 = .ok (.iaload, 1) := by decide +kernel
theorem dX5_greatestDoom_38 : decode cX5_greatestDoom 38 = .ok (.istore_n 1, 1) := by decide +kernel
theorem dX5_greatestDoom_39 : decode cX5_greatestDoom 39 = .ok (.iinc 2 1, 3) := by decide +kernel
theorem dX5_greatestDoom_42 : decode cX5_greatestDoom 42 = .ok (.goto (-38), 3) := by decide +kernel
theorem dX5_greatestDoom_45 : decode cX5_greatestDoom 45 = .ok (.iload_n 1, 1) := by decide +kernel
theorem dX5_greatestDoom_46 : decode cX5_greatestDoom 46 = .ok (.ireturn, 1) := by decide +kernel
theorem dX5_listOpen_0 : decode cX5_listOpen 0 = .ok (.iconst 0, 1) := by decide +kernel
theorem dX5_listOpen_1 : decode cX5_listOpen 1 = .ok (.istore_n 1, 1) := by decide +kernel
theorem dX5_listOpen_2 : decode cX5_listOpen 2 = .ok (.iconst 0, 1) := by decide +kernel
theorem dX5_listOpen_3 : decode cX5_listOpen 3 = .ok (.istore_n 2, 1) := by decide +kernel
theorem dX5_listOpen_4 : decode cX5_listOpen 4 = .ok (.iload_n 2, 1) := by decide +kernel
theorem dX5_listOpen_5 : decode cX5_listOpen 5 = .ok (.aload_n 0, 1) := by decide +kernel
theorem dX5_listOpen_6 : decode cX5_listOpen 6 = .ok (.getfield 39, 3) := by decide +kernel
theorem dX5_listOpen_9 : decode cX5_listOpen 9 = .ok (.getfield 75, 3) := by decide +kernel
theorem dX5_listOpen_12 : decode cX5_listOpen 12 = .ok (.getfield 79, 3) := by decide +kernel
theorem dX5_listOpen_15 : decode cX5_listOpen 15 = .ok (.sipush 231, 3) := by decide +kernel
theorem dX5_listOpen_18 : decode cX5_listOpen 18 = .ok (.imul, 1) := by decide +kernel
theorem dX5_listOpen_19 : decode cX5_listOpen 19 = .ok (.if_icmp .ge 40, 3) := by decide +kernel
theorem dX5_listOpen_22 : decode cX5_listOpen 22 = .ok (.iload_n 2, 1) := by decide +kernel
theorem dX5_listOpen_23 : decode cX5_listOpen 23 = .ok (.sipush 2079, 3) := by decide +kernel
theorem dX5_listOpen_26 : decode cX5_listOpen 26 = .ok (.if_icmp .ge 33, 3) := by decide +kernel
theorem dX5_listOpen_29 : decode cX5_listOpen 29 = .ok (.aload_n 0, 1) := by decide +kernel
theorem dX5_listOpen_30 : decode cX5_listOpen 30 = .ok (.getfield 39, 3) := by decide +kernel
theorem dX5_listOpen_33 : decode cX5_listOpen 33 = .ok (.getfield 75, 3) := by decide +kernel
theorem dX5_listOpen_36 : decode cX5_listOpen 36 = .ok (.iload_n 2, 1) := by decide +kernel
theorem dX5_listOpen_37 : decode cX5_listOpen 37 = .ok (.invokevirtual 84, 3) := by decide +kernel
theorem dX5_listOpen_40 : decode cX5_listOpen 40 = .ok (.ifCond .eq 13, 3) := by decide +kernel
theorem dX5_listOpen_43 : decode cX5_listOpen 43 = .ok (.aload_n 0, 1) := by decide +kernel
theorem dX5_listOpen_44 : decode cX5_listOpen 44 = .ok (.getfield 36, 3) := by decide +kernel
theorem dX5_listOpen_47 : decode cX5_listOpen 47 = .ok (.iload_n 1, 1) := by decide +kernel
theorem dX5_listOpen_48 : decode cX5_listOpen 48 = .ok (.iload_n 2, 1) := by decide +kernel
theorem dX5_listOpen_49 : decode cX5_listOpen 49 = .ok (.iastore, 1) := by decide +kernel
theorem dX5_listOpen_50 : decode cX5_listOpen 50 = .ok (.iinc 1 1, 3) := by decide +kernel
theorem dX5_listOpen_53 : decode cX5_listOpen 53 = .ok (.iinc 2 1, 3) := by decide +kernel
theorem dX5_listOpen_56 : decode cX5_listOpen 56 = .ok (.goto (-52), 3) := by decide +kernel
theorem dX5_listOpen_59 : decode cX5_listOpen 59 = .ok (.iload_n 1, 1) := by decide +kernel
theorem dX5_listOpen_60 : decode cX5_listOpen 60 = .ok (.ireturn, 1) := by decide +kernel
theorem dX5_leadsWell_0 : decode cX5_leadsWell 0 = .ok (.iload 5, 2) := by decide +kernel
theorem dX5_leadsWell_2 : decode cX5_leadsWell 2 = .ok (.istore 7, 2) := by decide +kernel
theorem dX5_leadsWell_4 : decode cX5_leadsWell 4 = .ok (.iload 7, 2) := by decide +kernel
theorem dX5_leadsWell_6 : decode cX5_leadsWell 6 = .ok (.iload 6, 2) := by decide +kernel
theorem dX5_leadsWell_8 : decode cX5_leadsWell 8 = .ok (.if_icmp .gt 45, 3) := by decide +kernel
theorem dX5_leadsWell_11 : decode cX5_leadsWell 11 = .ok (.aload_n 0, 1) := by decide +kernel
theorem dX5_leadsWell_12 : decode cX5_leadsWell 12 = .ok (.getfield 39, 3) := by decide +kernel
theorem dX5_leadsWell_15 : decode cX5_leadsWell 15 = .ok (.iload_n 3, 1) := by decide +kernel
theorem dX5_leadsWell_16 : decode cX5_leadsWell 16 = .ok (.iload 4, 2) := by decide +kernel
theorem dX5_leadsWell_18 : decode cX5_leadsWell 18 = .ok (.iload 7, 2) := by decide +kernel
theorem dX5_leadsWell_20 : decode cX5_leadsWell 20 = .ok (.invokevirtual 87, 3) := by decide +kernel
theorem dX5_leadsWell_23 : decode cX5_leadsWell 23 = .ok (.istore 8, 2) := by decide +kernel
theorem dX5_leadsWell_25 : decode cX5_leadsWell 25 = .ok (.iload 8, 2) := by decide +kernel
theorem dX5_leadsWell_27 : decode cX5_leadsWell 27 = .ok (.ifCond .lt 18, 3) := by decide +kernel
theorem dX5_leadsWell_30 : decode cX5_leadsWell 30 = .ok (.iload 8, 2) := by decide +kernel
theorem dX5_leadsWell_32 : decode cX5_leadsWell 32 = .ok (.aload_n 1, 1) := by decide +kernel
theorem dX5_leadsWell_33 : decode cX5_leadsWell 33 = .ok (.arraylength, 1) := by decide +kernel
theorem dX5_leadsWell_34 : decode cX5_leadsWell 34 = .ok (.if_icmp .ge 11, 3) := by decide +kernel
theorem dX5_leadsWell_37 : decode cX5_leadsWell 37 = .ok (.aload_n 1, 1) := by decide +kernel
theorem dX5_leadsWell_38 : decode cX5_leadsWell 38 = .ok (.iload 8, 2) := by decide +kernel
theorem dX5_leadsWell_40 : decode cX5_leadsWell 40 = .ok (.iaload, 1) := by decide +kernel
theorem dX5_leadsWell_41 : decode cX5_leadsWell 41 = .ok (.iload_n 2, 1) := by decide +kernel
theorem dX5_leadsWell_42 : decode cX5_leadsWell 42 = .ok (.if_icmp .ge 5, 3) := by decide +kernel
theorem dX5_leadsWell_45 : decode cX5_leadsWell 45 = .ok (.iconst 0, 1) := by decide +kernel
theorem dX5_leadsWell_46 : decode cX5_leadsWell 46 = .ok (.ireturn, 1) := by decide +kernel
theorem dX5_leadsWell_47 : decode cX5_leadsWell 47 = .ok (.iinc 7 1, 3) := by decide +kernel
theorem dX5_leadsWell_50 : decode cX5_leadsWell 50 = .ok (.goto (-46), 3) := by decide +kernel
theorem dX5_leadsWell_53 : decode cX5_leadsWell 53 = .ok (.iconst 1, 1) := by decide +kernel
theorem dX5_leadsWell_54 : decode cX5_leadsWell 54 = .ok (.ireturn, 1) := by decide +kernel
theorem dX5_firstGood_0 : decode cX5_firstGood 0 = .ok (.aload_n 0, 1) := by decide +kernel
theorem dX5_firstGood_1 : decode cX5_firstGood 1 = .ok (.getfield 39, 3) := by decide +kernel
theorem dX5_firstGood_4 : decode cX5_firstGood 4 = .ok (.iload_n 3, 1) := by decide +kernel
theorem dX5_firstGood_5 : decode cX5_firstGood 5 = .ok (.invokevirtual 91, 3) := by decide +kernel
theorem dX5_firstGood_8 : decode cX5_firstGood 8 = .ok (.istore 6, 2) := by decide +kernel
theorem dX5_firstGood_10 : decode cX5_firstGood 10 = .ok (.aload_n 0, 1) := by decide +kernel
theorem dX5_firstGood_11 : decode cX5_firstGood 11 = .ok (.getfield 39, 3) := by decide +kernel
theorem dX5_firstGood_14 : decode cX5_firstGood 14 = .ok (.iload_n 3, 1) := by decide +kernel
theorem dX5_firstGood_15 : decode cX5_firstGood 15 = .ok (.invokevirtual 58, 3) := by decide +kernel
theorem dX5_firstGood_18 : decode cX5_firstGood 18 = .ok (.iload 5, 2) := by decide +kernel
theorem dX5_firstGood_20 : decode cX5_firstGood 20 = .ok (.isub, 1) := by decide +kernel
theorem dX5_firstGood_21 : decode cX5_firstGood 21 = .ok (.istore 7, 2) := by decide +kernel
theorem dX5_firstGood_23 : decode cX5_firstGood 23 = .ok (.aload_n 0, 1) := by decide +kernel
theorem dX5_firstGood_24 : decode cX5_firstGood 24 = .ok (.getfield 39, 3) := by decide +kernel
theorem dX5_firstGood_27 : decode cX5_firstGood 27 = .ok (.iload_n 3, 1) := by decide +kernel
theorem dX5_firstGood_28 : decode cX5_firstGood 28 = .ok (.invokevirtual 64, 3) := by decide +kernel
theorem dX5_firstGood_31 : decode cX5_firstGood 31 = .ok (.iload 5, 2) := by decide +kernel
theorem dX5_firstGood_33 : decode cX5_firstGood 33 = .ok (.iadd, 1) := by decide +kernel
theorem dX5_firstGood_34 : decode cX5_firstGood 34 = .ok (.istore 8, 2) := by decide +kernel
theorem dX5_firstGood_36 : decode cX5_firstGood 36 = .ok (.iload 4, 2) := by decide +kernel
theorem dX5_firstGood_38 : decode cX5_firstGood 38 = .ok (.ifCond .ge 7, 3) := by decide +kernel
theorem dX5_firstGood_41 : decode cX5_firstGood 41 = .ok (.iconst 0, 1) := by decide +kernel
theorem dX5_firstGood_42 : decode cX5_firstGood 42 = .ok (.goto 5, 3) := by decide +kernel
theorem dX5_firstGood_45 : decode cX5_firstGood 45 = .ok (.iload 4, 2) := by decide +kernel
theorem dX5_firstGood_47 : decode cX5_firstGood 47 = .ok (.istore 9, 2) := by decide +kernel
theorem dX5_firstGood_49 : decode cX5_firstGood 49 = .ok (.iload 9, 2) := by decide +kernel
theorem dX5_firstGood_51 : decode cX5_firstGood 51 = .ok (.bipush 6, 2) := by decide +kernel
theorem dX5_firstGood_53 : decode cX5_firstGood 53 = .ok (.if_icmp .ge 39, 3) := by decide +kernel
theorem dX5_firstGood_56 : decode cX5_firstGood 56 = .ok (.iload 6, 2) := by decide +kernel
theorem dX5_firstGood_58 : decode cX5_firstGood 58 = .ok (.iload 9, 2) := by decide +kernel
theorem dX5_firstGood_60 : decode cX5_firstGood 60 = .ok (.ishr, 1) := by decide +kernel
theorem dX5_firstGood_61 : decode cX5_firstGood 61 = .ok (.iconst 1, 1) := by decide +kernel
theorem dX5_firstGood_62 : decode cX5_firstGood 62 = .ok (.iand, 1) := by decide +kernel
theorem dX5_firstGood_63 : decode cX5_firstGood 63 = .ok (.iconst 1, 1) := by decide +kernel
theorem dX5_firstGood_64 : decode cX5_firstGood 64 = .ok (.if_icmp .ne 22, 3) := by decide +kernel
theorem dX5_firstGood_67 : decode cX5_firstGood 67 = .ok (.aload_n 0, 1) := by decide +kernel
theorem dX5_firstGood_68 : decode cX5_firstGood 68 = .ok (.aload_n 1, 1) := by decide +kernel
theorem dX5_firstGood_69 : decode cX5_firstGood 69 = .ok (.iload_n 2, 1) := by decide +kernel
theorem dX5_firstGood_70 : decode cX5_firstGood 70 = .ok (.iload_n 3, 1) := by decide +kernel
theorem dX5_firstGood_71 : decode cX5_firstGood 71 = .ok (.iload 9, 2) := by decide +kernel
theorem dX5_firstGood_73 : decode cX5_firstGood 73 = .ok (.iload 7, 2) := by decide +kernel
theorem dX5_firstGood_75 : decode cX5_firstGood 75 = .ok (.iload 8, 2) := by decide +kernel
theorem dX5_firstGood_77 : decode cX5_firstGood 77 = .ok (.invokevirtual 67, 3) := by decide +kernel
theorem dX5_firstGood_80 : decode cX5_firstGood 80 = .ok (.ifCond .eq 6, 3) := by decide +kernel
theorem dX5_firstGood_83 : decode cX5_firstGood 83 = .ok (.iload 9, 2) := by decide +kernel
theorem dX5_firstGood_85 : decode cX5_firstGood 85 = .ok (.ireturn, 1) := by decide +kernel
theorem dX5_firstGood_86 : decode cX5_firstGood 86 = .ok (.iinc 9 1, 3) := by decide +kernel
theorem dX5_firstGood_89 : decode cX5_firstGood 89 = .ok (.goto (-40), 3) := by decide +kernel
theorem dX5_firstGood_92 : decode cX5_firstGood 92 = .ok (.iconst (-1), 1) := by decide +kernel
theorem dX5_firstGood_93 : decode cX5_firstGood 93 = .ok (.ireturn, 1) := by decide +kernel
theorem dX5_findFates_0 : decode cX5_findFates 0 = .ok (.aload_n 0, 1) := by decide +kernel
theorem dX5_findFates_1 : decode cX5_findFates 1 = .ok (.getfield 50, 3) := by decide +kernel
theorem dX5_findFates_4 : decode cX5_findFates 4 = .ok (.ifCond .eq 4, 3) := by decide +kernel
theorem dX5_findFates_7 : decode cX5_findFates 7 = .ok (.return_, 1) := by decide +kernel
theorem dX5_findFates_8 : decode cX5_findFates 8 = .ok (.aload_n 0, 1) := by decide +kernel
theorem dX5_findFates_9 : decode cX5_findFates 9 = .ok (.iconst 1, 1) := by decide +kernel
theorem dX5_findFates_10 : decode cX5_findFates 10 = .ok (.putfield 50, 3) := by decide +kernel
theorem dX5_findFates_13 : decode cX5_findFates 13 = .ok (.iconst 0, 1) := by decide +kernel
theorem dX5_findFates_14 : decode cX5_findFates 14 = .ok (.istore_n 1, 1) := by decide +kernel
theorem dX5_findFates_15 : decode cX5_findFates 15 = .ok (.iload_n 1, 1) := by decide +kernel
theorem dX5_findFates_16 : decode cX5_findFates 16 = .ok (.sipush 2079, 3) := by decide +kernel
theorem dX5_findFates_19 : decode cX5_findFates 19 = .ok (.if_icmp .ge 43, 3) := by decide +kernel
theorem dX5_findFates_22 : decode cX5_findFates 22 = .ok (.aload_n 0, 1) := by decide +kernel
theorem dX5_findFates_23 : decode cX5_findFates 23 = .ok (.getfield 9, 3) := by decide +kernel
theorem dX5_findFates_26 : decode cX5_findFates 26 = .ok (.iload_n 1, 1) := by decide +kernel
theorem dX5_findFates_27 : decode cX5_findFates 27 = .ok (.aload_n 0, 1) := by decide +kernel
theorem dX5_findFates_28 : decode cX5_findFates 28 = .ok (.getfield 39, 3) := by decide +kernel
theorem dX5_findFates_31 : decode cX5_findFates 31 = .ok (.getfield 75, 3) := by decide +kernel
theorem dX5_findFates_34 : decode cX5_findFates 34 = .ok (.iload_n 1, 1) := by decide +kernel
theorem dX5_findFates_35 : decode cX5_findFates 35 = .ok (.invokevirtual 84, 3) := by decide +kernel
theorem dX5_findFates_38 : decode cX5_findFates 38 = .ok (.ifCond .eq 8, 3) := by decide +kernel
theorem dX5_findFates_41 : decode cX5_findFates 41 = .ok (.ldc 57, 2) := by decide +kernel
theorem dX5_findFates_43 : decode cX5_findFates 43 = .ok (.goto 4, 3) := by decide +kernel
theorem dX5_findFates_46 : decode cX5_findFates 46 = .ok (.iconst (-1), 1) := by decide +kernel
theorem dX5_findFates_47 : decode cX5_findFates 47 = .ok (.iastore, 1) := by decide +kernel
theorem dX5_findFates_48 : decode cX5_findFates 48 = .ok (.aload_n 0, 1) := by decide +kernel
theorem dX5_findFates_49 : decode cX5_findFates 49 = .ok (.getfield 15, 3) := by decide +kernel
theorem dX5_findFates_52 : decode cX5_findFates 52 = .ok (.iload_n 1, 1) := by decide +kernel
theorem dX5_findFates_53 : decode cX5_findFates 53 = .ok (.bipush (-2), 2) := by decide +kernel
theorem dX5_findFates_55 : decode cX5_findFates 55 = .ok (.iastore, 1) := by decide +kernel
theorem dX5_findFates_56 : decode cX5_findFates 56 = .ok (.iinc 1 1, 3) := by decide +kernel
theorem dX5_findFates_59 : decode cX5_findFates 59 = .ok (.goto (-44), 3) := by decide +kernel
theorem dX5_findFates_62 : decode cX5_findFates 62 = .ok (.aload_n 0, 1) := by decide +kernel
theorem dX5_findFates_63 : decode cX5_findFates 63 = .ok (.invokevirtual 94, 3) := by decide +kernel
theorem dX5_findFates_66 : decode cX5_findFates 66 = .ok (.istore_n 1, 1) := by decide +kernel
theorem dX5_findFates_67 : decode cX5_findFates 67 = .ok (.iconst 0, 1) := by decide +kernel
theorem dX5_findFates_68 : decode cX5_findFates 68 = .ok (.istore_n 2, 1) := by decide +kernel
theorem dX5_findFates_69 : decode cX5_findFates 69 = .ok (.iload_n 2, 1) := by decide +kernel
theorem dX5_findFates_70 : decode cX5_findFates 70 = .ok (.iload_n 1, 1) := by decide +kernel
theorem dX5_findFates_71 : decode cX5_findFates 71 = .ok (.if_icmp .ge 36, 3) := by decide +kernel
theorem dX5_findFates_74 : decode cX5_findFates 74 = .ok (.aload_n 0, 1) := by decide +kernel
theorem dX5_findFates_75 : decode cX5_findFates 75 = .ok (.getfield 15, 3) := by decide +kernel
theorem dX5_findFates_78 : decode cX5_findFates 78 = .ok (.aload_n 0, 1) := by decide +kernel
theorem dX5_findFates_79 : decode cX5_findFates 79 = .ok (.getfield 36, 3) := by decide +kernel
theorem dX5_findFates_82 : decode cX5_findFates 82 = .ok (.iload_n 2, 1) := by decide +kernel
theorem dX5_findFates_83 : decode cX5_findFates 83 = .ok (.iaload, 1) := by decide +kernel
theorem dX5_findFates_84 : decode cX5_findFates 84 = .ok (.aload_n 0, 1) := by decide +kernel
theorem dX5_findFates_85 : decode cX5_findFates 85 = .ok (.getfield 39, 3) := by decide +kernel
theorem dX5_findFates_88 : decode cX5_findFates 88 = .ok (.aload_n 0, 1) := by decide +kernel
theorem dX5_findFates_89 : decode cX5_findFates 89 = .ok (.getfield 36, 3) := by decide +kernel
theorem dX5_findFates_92 : decode cX5_findFates 92 = .ok (.iload_n 2, 1) := by decide +kernel
theorem dX5_findFates_93 : decode cX5_findFates 93 = .ok (.iaload, 1) := by decide +kernel
theorem dX5_findFates_94 : decode cX5_findFates 94 = .ok (.invokevirtual 91, 3) := by decide +kernel
theorem dX5_findFates_97 : decode cX5_findFates 97 = .ok (.invokestatic 98, 3) := by decide +kernel
theorem dX5_findFates_100 : decode cX5_findFates 100 = .ok (.iastore, 1) := by decide +kernel
theorem dX5_findFates_101 : decode cX5_findFates 101 = .ok (.iinc 2 1, 3) := by decide +kernel
theorem dX5_findFates_104 : decode cX5_findFates 104 = .ok (.goto (-35), 3) := by decide +kernel
theorem dX5_findFates_107 : decode cX5_findFates 107 = .ok (.iconst 1, 1) := by decide +kernel
theorem dX5_findFates_108 : decode cX5_findFates 108 = .ok (.istore_n 2, 1) := by decide +kernel
theorem dX5_findFates_109 : decode cX5_findFates 109 = .ok (.iconst 1, 1) := by decide +kernel
theorem dX5_findFates_110 : decode cX5_findFates 110 = .ok (.istore_n 3, 1) := by decide +kernel
theorem dX5_findFates_111 : decode cX5_findFates 111 = .ok (.iload_n 3, 1) := by decide +kernel
theorem dX5_findFates_112 : decode cX5_findFates 112 = .ok (.sipush 2080, 3) := by decide +kernel
theorem dX5_findFates_115 : decode cX5_findFates 115 = .ok (.if_icmp .gt 36, 3) := by decide +kernel
theorem dX5_findFates_118 : decode cX5_findFates 118 = .ok (.iload_n 2, 1) := by decide +kernel
theorem dX5_findFates_119 : decode cX5_findFates 119 = .ok (.ifCond .eq 32, 3) := by decide +kernel
theorem dX5_findFates_122 : decode cX5_findFates 122 = .ok (.iload_n 1, 1) := by decide +kernel
theorem dX5_findFates_123 : decode cX5_findFates 123 = .ok (.istore 4, 2) := by decide +kernel
theorem dX5_findFates_125 : decode cX5_findFates 125 = .ok (.aload_n 0, 1) := by decide +kernel
theorem dX5_findFates_126 : decode cX5_findFates 126 = .ok (.iload_n 3, 1) := by decide +kernel
theorem dX5_findFates_127 : decode cX5_findFates 127 = .ok (.iload 4, 2) := by decide +kernel
theorem dX5_findFates_129 : decode cX5_findFates 129 = .ok (.invokevirtual 101, 3) := by decide +kernel
theorem dX5_findFates_132 : decode cX5_findFates 132 = .ok (.istore_n 1, 1) := by decide +kernel
theorem dX5_findFates_133 : decode cX5_findFates 133 = .ok (.iload_n 1, 1) := by decide +kernel
theorem dX5_findFates_134 : decode cX5_findFates 134 = .ok (.iload 4, 2) := by decide +kernel
theorem dX5_findFates_136 : decode cX5_findFates 136 = .ok (.if_icmp .ge 7, 3) := by decide +kernel
theorem dX5_findFates_139 : decode cX5_findFates 139 = .ok (.iconst 1, 1) := by decide +kernel
theorem dX5_findFates_140 : decode cX5_findFates 140 = .ok (.goto 4, 3) := by decide +kernel
theorem dX5_findFates_143 : decode cX5_findFates 143 = .ok (.iconst 0, 1) := by decide +kernel
theorem dX5_findFates_144 : decode cX5_findFates 144 = .ok (.istore_n 2, 1) := by decide +kernel
theorem dX5_findFates_145 : decode cX5_findFates 145 = .ok (.iinc 3 1, 3) := by decide +kernel
theorem dX5_findFates_148 : decode cX5_findFates 148 = .ok (.goto (-37), 3) := by decide +kernel
theorem dX5_findFates_151 : decode cX5_findFates 151 = .ok (.return_, 1) := by decide +kernel
theorem dX5_fateRound_0 : decode cX5_fateRound 0 = .ok (.iconst 0, 1) := by decide +kernel
theorem dX5_fateRound_1 : decode cX5_fateRound 1 = .ok (.istore_n 3, 1) := by decide +kernel
theorem dX5_fateRound_2 : decode cX5_fateRound 2 = .ok (.iconst 0, 1) := by decide +kernel
theorem dX5_fateRound_3 : decode cX5_fateRound 3 = .ok (.istore 4, 2) := by decide +kernel
theorem dX5_fateRound_5 : decode cX5_fateRound 5 = .ok (.iload 4, 2) := by decide +kernel
theorem dX5_fateRound_7 : decode cX5_fateRound 7 = .ok (.iload_n 2, 1) := by decide +kernel
theorem dX5_fateRound_8 : decode cX5_fateRound 8 = .ok (.if_icmp .ge 80, 3) := by decide +kernel
theorem dX5_fateRound_11 : decode cX5_fateRound 11 = .ok (.aload_n 0, 1) := by decide +kernel
theorem dX5_fateRound_12 : decode cX5_fateRound 12 = .ok (.getfield 36, 3) := by decide +kernel
theorem dX5_fateRound_15 : decode cX5_fateRound 15 = .ok (.iload 4, 2) := by decide +kernel
theorem dX5_fateRound_17 : decode cX5_fateRound 17 = .ok (.iaload, 1) := by decide +kernel
theorem dX5_fateRound_18 : decode cX5_fateRound 18 = .ok (.istore 5, 2) := by decide +kernel
theorem dX5_fateRound_20 : decode cX5_fateRound 20 = .ok (.aload_n 0, 1) := by decide +kernel
theorem dX5_fateRound_21 : decode cX5_fateRound 21 = .ok (.aload_n 0, 1) := by decide +kernel
theorem dX5_fateRound_22 : decode cX5_fateRound 22 = .ok (.getfield 9, 3) := by decide +kernel
theorem dX5_fateRound_25 : decode cX5_fateRound 25 = .ok (.iload_n 1, 1) := by decide +kernel
theorem dX5_fateRound_26 : decode cX5_fateRound 26 = .ok (.iconst 1, 1) := by decide +kernel
theorem dX5_fateRound_27 : decode cX5_fateRound 27 = .ok (.isub, 1) := by decide +kernel
theorem dX5_fateRound_28 : decode cX5_fateRound 28 = .ok (.iload 5, 2) := by decide +kernel
theorem dX5_fateRound_30 : decode cX5_fateRound 30 = .ok (.aload_n 0, 1) := by decide +kernel
theorem dX5_fateRound_31 : decode cX5_fateRound 31 = .ok (.getfield 15, 3) := by decide +kernel
theorem dX5_fateRound_34 : decode cX5_fateRound 34 = .ok (.iload 5, 2) := by decide +kernel
theorem dX5_fateRound_36 : decode cX5_fateRound 36 = .ok (.iaload, 1) := by decide +kernel
theorem dX5_fateRound_37 : decode cX5_fateRound 37 = .ok (.iconst 0, 1) := by decide +kernel
theorem dX5_fateRound_38 : decode cX5_fateRound 38 = .ok (.invokevirtual 105, 3) := by decide +kernel
theorem dX5_fateRound_41 : decode cX5_fateRound 41 = .ok (.istore 6, 2) := by decide +kernel
theorem dX5_fateRound_43 : decode cX5_fateRound 43 = .ok (.iload 6, 2) := by decide +kernel
theorem dX5_fateRound_45 : decode cX5_fateRound 45 = .ok (.iconst (-1), 1) := by decide +kernel
theorem dX5_fateRound_46 : decode cX5_fateRound 46 = .ok (.if_icmp .ne 16, 3) := by decide +kernel
theorem dX5_fateRound_49 : decode cX5_fateRound 49 = .ok (.aload_n 0, 1) := by decide +kernel
theorem dX5_fateRound_50 : decode cX5_fateRound 50 = .ok (.getfield 9, 3) := by decide +kernel
theorem dX5_fateRound_53 : decode cX5_fateRound 53 = .ok (.iload 5, 2) := by decide +kernel
theorem dX5_fateRound_55 : decode cX5_fateRound 55 = .ok (.iload_n 1, 1) := by decide +kernel
theorem dX5_fateRound_56 : decode cX5_fateRound 56 = .ok (.iconst 1, 1) := by decide +kernel
theorem dX5_fateRound_57 : decode cX5_fateRound 57 = .ok (.isub, 1) := by decide +kernel
theorem dX5_fateRound_58 : decode cX5_fateRound 58 = .ok (.iastore, 1) := by decide +kernel
theorem dX5_fateRound_59 : decode cX5_fateRound 59 = .ok (.goto 23, 3) := by decide +kernel
theorem dX5_fateRound_62 : decode cX5_fateRound 62 = .ok (.aload_n 0, 1) := by decide +kernel
theorem dX5_fateRound_63 : decode cX5_fateRound 63 = .ok (.getfield 15, 3) := by decide +kernel
theorem dX5_fateRound_66 : decode cX5_fateRound 66 = .ok (.iload 5, 2) := by decide +kernel
theorem dX5_fateRound_68 : decode cX5_fateRound 68 = .ok (.iload 6, 2) := by decide +kernel
theorem dX5_fateRound_70 : decode cX5_fateRound 70 = .ok (.iastore, 1) := by decide +kernel
theorem dX5_fateRound_71 : decode cX5_fateRound 71 = .ok (.aload_n 0, 1) := by decide +kernel
theorem dX5_fateRound_72 : decode cX5_fateRound 72 = .ok (.getfield 36, 3) := by decide +kernel
theorem dX5_fateRound_75 : decode cX5_fateRound 75 = .ok (.iload_n 3, 1) := by decide +kernel
theorem dX5_fateRound_76 : decode cX5_fateRound 76 = .ok (.iload 5, 2) := by decide +kernel
theorem dX5_fateRound_78 : decode cX5_fateRound 78 = .ok (.iastore, 1) := by decide +kernel
theorem dX5_fateRound_79 : decode cX5_fateRound 79 = .ok (.iinc 3 1, 3) := by decide +kernel
theorem dX5_fateRound_82 : decode cX5_fateRound 82 = .ok (.iinc 4 1, 3) := by decide +kernel
theorem dX5_fateRound_85 : decode cX5_fateRound 85 = .ok (.goto (-80), 3) := by decide +kernel
theorem dX5_fateRound_88 : decode cX5_fateRound 88 = .ok (.iload_n 3, 1) := by decide +kernel
theorem dX5_fateRound_89 : decode cX5_fateRound 89 = .ok (.ireturn, 1) := by decide +kernel
theorem dX5_findReaches_0 : decode cX5_findReaches 0 = .ok (.aload_n 0, 1) := by decide +kernel
theorem dX5_findReaches_1 : decode cX5_findReaches 1 = .ok (.getfield 54, 3) := by decide +kernel
theorem dX5_findReaches_4 : decode cX5_findReaches 4 = .ok (.ifCond .eq 4, 3) := by decide +kernel
theorem dX5_findReaches_7 : decode cX5_findReaches 7 = .ok (.return_, 1) := by decide +kernel
theorem dX5_findReaches_8 : decode cX5_findReaches 8 = .ok (.aload_n 0, 1) := by decide +kernel
theorem dX5_findReaches_9 : decode cX5_findReaches 9 = .ok (.iconst 1, 1) := by decide +kernel
theorem dX5_findReaches_10 : decode cX5_findReaches 10 = .ok (.putfield 54, 3) := by decide +kernel
theorem dX5_findReaches_13 : decode cX5_findReaches 13 = .ok (.iconst 0, 1) := by decide +kernel
theorem dX5_findReaches_14 : decode cX5_findReaches 14 = .ok (.istore_n 1, 1) := by decide +kernel
theorem dX5_findReaches_15 : decode cX5_findReaches 15 = .ok (.iload_n 1, 1) := by decide +kernel
theorem dX5_findReaches_16 : decode cX5_findReaches 16 = .ok (.sipush 2079, 3) := by decide +kernel
theorem dX5_findReaches_19 : decode cX5_findReaches 19 = .ok (.if_icmp .ge 43, 3) := by decide +kernel
theorem dX5_findReaches_22 : decode cX5_findReaches 22 = .ok (.aload_n 0, 1) := by decide +kernel
theorem dX5_findReaches_23 : decode cX5_findReaches 23 = .ok (.getfield 18, 3) := by decide +kernel
theorem dX5_findReaches_26 : decode cX5_findReaches 26 = .ok (.iload_n 1, 1) := by decide +kernel
theorem dX5_findReaches_27 : decode cX5_findReaches 27 = .ok (.aload_n 0, 1) := by decide +kernel
theorem dX5_findReaches_28 : decode cX5_findReaches 28 = .ok (.getfield 39, 3) := by decide +kernel
theorem dX5_findReaches_31 : decode cX5_findReaches 31 = .ok (.getfield 75, 3) := by decide +kernel
theorem dX5_findReaches_34 : decode cX5_findReaches 34 = .ok (.iload_n 1, 1) := by decide +kernel
theorem dX5_findReaches_35 : decode cX5_findReaches 35 = .ok (.invokevirtual 109, 3) := by decide +kernel
theorem dX5_findReaches_38 : decode cX5_findReaches 38 = .ok (.ifCond .eq 7, 3) := by decide +kernel
theorem dX5_findReaches_41 : decode cX5_findReaches 41 = .ok (.iconst 0, 1) := by decide +kernel
theorem dX5_findReaches_42 : decode cX5_findReaches 42 = .ok (.goto 5, 3) := by decide +kernel
theorem dX5_findReaches_45 : decode cX5_findReaches 45 = .ok (.ldc 112, 2) := by decide +kernel
theorem dX5_findReaches_47 : decode cX5_findReaches 47 = .ok (.iastore, 1) := by decide +kernel
theorem dX5_findReaches_48 : decode cX5_findReaches 48 = .ok (.aload_n 0, 1) := by decide +kernel
theorem dX5_findReaches_49 : decode cX5_findReaches 49 = .ok (.getfield 21, 3) := by decide +kernel
theorem dX5_findReaches_52 : decode cX5_findReaches 52 = .ok (.iload_n 1, 1) := by decide +kernel
theorem dX5_findReaches_53 : decode cX5_findReaches 53 = .ok (.bipush (-2), 2) := by decide +kernel
theorem dX5_findReaches_55 : decode cX5_findReaches 55 = .ok (.iastore, 1) := by decide +kernel
theorem dX5_findReaches_56 : decode cX5_findReaches 56 = .ok (.iinc 1 1, 3) := by decide +kernel
theorem dX5_findReaches_59 : decode cX5_findReaches 59 = .ok (.goto (-44), 3) := by decide +kernel
theorem dX5_findReaches_62 : decode cX5_findReaches 62 = .ok (.aload_n 0, 1) := by decide +kernel
theorem dX5_findReaches_63 : decode cX5_findReaches 63 = .ok (.invokevirtual 94, 3) := by decide +kernel
theorem dX5_findReaches_66 : decode cX5_findReaches 66 = .ok (.istore_n 1, 1) := by decide +kernel
theorem dX5_findReaches_67 : decode cX5_findReaches 67 = .ok (.iconst 1, 1) := by decide +kernel
theorem dX5_findReaches_68 : decode cX5_findReaches 68 = .ok (.istore_n 2, 1) := by decide +kernel
theorem dX5_findReaches_69 : decode cX5_findReaches 69 = .ok (.iconst 1, 1) := by decide +kernel
theorem dX5_findReaches_70 : decode cX5_findReaches 70 = .ok (.istore_n 3, 1) := by decide +kernel
theorem dX5_findReaches_71 : decode cX5_findReaches 71 = .ok (.iload_n 3, 1) := by decide +kernel
theorem dX5_findReaches_72 : decode cX5_findReaches 72 = .ok (.sipush 2080, 3) := by decide +kernel
theorem dX5_findReaches_75 : decode cX5_findReaches 75 = .ok (.if_icmp .gt 36, 3) := by decide +kernel
theorem dX5_findReaches_78 : decode cX5_findReaches 78 = .ok (.iload_n 2, 1) := by decide +kernel
theorem dX5_findReaches_79 : decode cX5_findReaches 79 = .ok (.ifCond .eq 32, 3) := by decide +kernel
theorem dX5_findReaches_82 : decode cX5_findReaches 82 = .ok (.iload_n 1, 1) := by decide +kernel
theorem dX5_findReaches_83 : decode cX5_findReaches 83 = .ok (.istore 4, 2) := by decide +kernel
theorem dX5_findReaches_85 : decode cX5_findReaches 85 = .ok (.aload_n 0, 1) := by decide +kernel
theorem dX5_findReaches_86 : decode cX5_findReaches 86 = .ok (.iload_n 3, 1) := by decide +kernel
theorem dX5_findReaches_87 : decode cX5_findReaches 87 = .ok (.iload 4, 2) := by decide +kernel
theorem dX5_findReaches_89 : decode cX5_findReaches 89 = .ok (.invokevirtual 113, 3) := by decide +kernel
theorem dX5_findReaches_92 : decode cX5_findReaches 92 = .ok (.istore_n 1, 1) := by decide +kernel
theorem dX5_findReaches_93 : decode cX5_findReaches 93 = .ok (.iload_n 1, 1) := by decide +kernel
theorem dX5_findReaches_94 : decode cX5_findReaches 94 = .ok (.iload 4, 2) := by decide +kernel
theorem dX5_findReaches_96 : decode cX5_findReaches 96 = .ok (.if_icmp .ge 7, 3) := by decide +kernel
theorem dX5_findReaches_99 : decode cX5_findReaches 99 = .ok (.iconst 1, 1) := by decide +kernel
theorem dX5_findReaches_100 : decode cX5_findReaches 100 = .ok (.goto 4, 3) := by decide +kernel
theorem dX5_findReaches_103 : decode cX5_findReaches 103 = .ok (.iconst 0, 1) := by decide +kernel
theorem dX5_findReaches_104 : decode cX5_findReaches 104 = .ok (.istore_n 2, 1) := by decide +kernel
theorem dX5_findReaches_105 : decode cX5_findReaches 105 = .ok (.iinc 3 1, 3) := by decide +kernel
theorem dX5_findReaches_108 : decode cX5_findReaches 108 = .ok (.goto (-37), 3) := by decide +kernel
theorem dX5_findReaches_111 : decode cX5_findReaches 111 = .ok (.return_, 1) := by decide +kernel
theorem dX5_reachRound_0 : decode cX5_reachRound 0 = .ok (.iconst 0, 1) := by decide +kernel
theorem dX5_reachRound_1 : decode cX5_reachRound 1 = .ok (.istore_n 3, 1) := by decide +kernel
theorem dX5_reachRound_2 : decode cX5_reachRound 2 = .ok (.iconst 0, 1) := by decide +kernel
theorem dX5_reachRound_3 : decode cX5_reachRound 3 = .ok (.istore 4, 2) := by decide +kernel
theorem dX5_reachRound_5 : decode cX5_reachRound 5 = .ok (.iload 4, 2) := by decide +kernel
theorem dX5_reachRound_7 : decode cX5_reachRound 7 = .ok (.iload_n 2, 1) := by decide +kernel
theorem dX5_reachRound_8 : decode cX5_reachRound 8 = .ok (.if_icmp .ge 73, 3) := by decide +kernel
theorem dX5_reachRound_11 : decode cX5_reachRound 11 = .ok (.aload_n 0, 1) := by decide +kernel
theorem dX5_reachRound_12 : decode cX5_reachRound 12 = .ok (.getfield 36, 3) := by decide +kernel
theorem dX5_reachRound_15 : decode cX5_reachRound 15 = .ok (.iload 4, 2) := by decide +kernel
theorem dX5_reachRound_17 : decode cX5_reachRound 17 = .ok (.iaload, 1) := by decide +kernel
theorem dX5_reachRound_18 : decode cX5_reachRound 18 = .ok (.istore 5, 2) := by decide +kernel
theorem dX5_reachRound_20 : decode cX5_reachRound 20 = .ok (.aload_n 0, 1) := by decide +kernel
theorem dX5_reachRound_21 : decode cX5_reachRound 21 = .ok (.aload_n 0, 1) := by decide +kernel
theorem dX5_reachRound_22 : decode cX5_reachRound 22 = .ok (.getfield 18, 3) := by decide +kernel
theorem dX5_reachRound_25 : decode cX5_reachRound 25 = .ok (.iconst 1, 1) := by decide +kernel
theorem dX5_reachRound_26 : decode cX5_reachRound 26 = .ok (.iload_n 1, 1) := by decide +kernel
theorem dX5_reachRound_27 : decode cX5_reachRound 27 = .ok (.isub, 1) := by decide +kernel
theorem dX5_reachRound_28 : decode cX5_reachRound 28 = .ok (.iload 5, 2) := by decide +kernel
theorem dX5_reachRound_30 : decode cX5_reachRound 30 = .ok (.iconst 0, 1) := by decide +kernel
theorem dX5_reachRound_31 : decode cX5_reachRound 31 = .ok (.iconst 0, 1) := by decide +kernel
theorem dX5_reachRound_32 : decode cX5_reachRound 32 = .ok (.invokevirtual 105, 3) := by decide +kernel
theorem dX5_reachRound_35 : decode cX5_reachRound 35 = .ok (.istore 6, 2) := by decide +kernel
theorem dX5_reachRound_37 : decode cX5_reachRound 37 = .ok (.iload 6, 2) := by decide +kernel
theorem dX5_reachRound_39 : decode cX5_reachRound 39 = .ok (.iconst (-1), 1) := by decide +kernel
theorem dX5_reachRound_40 : decode cX5_reachRound 40 = .ok (.if_icmp .ne 17, 3) := by decide +kernel
theorem dX5_reachRound_43 : decode cX5_reachRound 43 = .ok (.aload_n 0, 1) := by decide +kernel
theorem dX5_reachRound_44 : decode cX5_reachRound 44 = .ok (.getfield 36, 3) := by decide +kernel
theorem dX5_reachRound_47 : decode cX5_reachRound 47 = .ok (.iload_n 3, 1) := by decide +kernel
theorem dX5_reachRound_48 : decode cX5_reachRound 48 = .ok (.iload 5, 2) := by decide +kernel
theorem dX5_reachRound_50 : decode cX5_reachRound 50 = .ok (.iastore, 1) := by decide +kernel
theorem dX5_reachRound_51 : decode cX5_reachRound 51 = .ok (.iinc 3 1, 3) := by decide +kernel
theorem dX5_reachRound_54 : decode cX5_reachRound 54 = .ok (.goto 21, 3) := by decide +kernel
theorem dX5_reachRound_57 : decode cX5_reachRound 57 = .ok (.aload_n 0, 1) := by decide +kernel
theorem dX5_reachRound_58 : decode cX5_reachRound 58 = .ok (.getfield 18, 3) := by decide +kernel
theorem dX5_reachRound_61 : decode cX5_reachRound 61 = .ok (.iload 5, 2) := by decide +kernel
theorem dX5_reachRound_63 : decode cX5_reachRound 63 = .ok (.iload_n 1, 1) := by decide +kernel
theorem dX5_reachRound_64 : decode cX5_reachRound 64 = .ok (.ineg, 1) := by decide +kernel
theorem dX5_reachRound_65 : decode cX5_reachRound 65 = .ok (.iastore, 1) := by decide +kernel
theorem dX5_reachRound_66 : decode cX5_reachRound 66 = .ok (.aload_n 0, 1) := by decide +kernel
theorem dX5_reachRound_67 : decode cX5_reachRound 67 = .ok (.getfield 21, 3) := by decide +kernel
theorem dX5_reachRound_70 : decode cX5_reachRound 70 = .ok (.iload 5, 2) := by decide +kernel
theorem dX5_reachRound_72 : decode cX5_reachRound 72 = .ok (.iload 6, 2) := by decide +kernel
theorem dX5_reachRound_74 : decode cX5_reachRound 74 = .ok (.iastore, 1) := by decide +kernel
theorem dX5_reachRound_75 : decode cX5_reachRound 75 = .ok (.iinc 4 1, 3) := by decide +kernel
theorem dX5_reachRound_78 : decode cX5_reachRound 78 = .ok (.goto (-73), 3) := by decide +kernel
theorem dX5_reachRound_81 : decode cX5_reachRound 81 = .ok (.iload_n 3, 1) := by decide +kernel
theorem dX5_reachRound_82 : decode cX5_reachRound 82 = .ok (.ireturn, 1) := by decide +kernel
theorem dX5_shrink_0 : decode cX5_shrink 0 = .ok (.iload_n 1, 1) := by decide +kernel
theorem dX5_shrink_1 : decode cX5_shrink 1 = .ok (.istore_n 3, 1) := by decide +kernel
theorem dX5_shrink_2 : decode cX5_shrink 2 = .ok (.iconst 1, 1) := by decide +kernel
theorem dX5_shrink_3 : decode cX5_shrink 3 = .ok (.istore 4, 2) := by decide +kernel
theorem dX5_shrink_5 : decode cX5_shrink 5 = .ok (.iconst 0, 1) := by decide +kernel
theorem dX5_shrink_6 : decode cX5_shrink 6 = .ok (.istore 5, 2) := by decide +kernel
theorem dX5_shrink_8 : decode cX5_shrink 8 = .ok (.iload 5, 2) := by decide +kernel
theorem dX5_shrink_10 : decode cX5_shrink 10 = .ok (.sipush 2079, 3) := by decide +kernel
theorem dX5_shrink_13 : decode cX5_shrink 13 = .ok (.if_icmp .gt 115, 3) := by decide +kernel
theorem dX5_shrink_16 : decode cX5_shrink 16 = .ok (.iload 4, 2) := by decide +kernel
theorem dX5_shrink_18 : decode cX5_shrink 18 = .ok (.ifCond .eq 110, 3) := by decide +kernel
theorem dX5_shrink_21 : decode cX5_shrink 21 = .ok (.iload_n 3, 1) := by decide +kernel
theorem dX5_shrink_22 : decode cX5_shrink 22 = .ok (.istore 6, 2) := by decide +kernel
theorem dX5_shrink_24 : decode cX5_shrink 24 = .ok (.iconst 0, 1) := by decide +kernel
theorem dX5_shrink_25 : decode cX5_shrink 25 = .ok (.istore_n 3, 1) := by decide +kernel
theorem dX5_shrink_26 : decode cX5_shrink 26 = .ok (.iconst 0, 1) := by decide +kernel
theorem dX5_shrink_27 : decode cX5_shrink 27 = .ok (.istore 7, 2) := by decide +kernel
theorem dX5_shrink_29 : decode cX5_shrink 29 = .ok (.iload 7, 2) := by decide +kernel
theorem dX5_shrink_31 : decode cX5_shrink 31 = .ok (.iload 6, 2) := by decide +kernel
theorem dX5_shrink_33 : decode cX5_shrink 33 = .ok (.if_icmp .ge 76, 3) := by decide +kernel
theorem dX5_shrink_36 : decode cX5_shrink 36 = .ok (.aload_n 0, 1) := by decide +kernel
theorem dX5_shrink_37 : decode cX5_shrink 37 = .ok (.getfield 36, 3) := by decide +kernel
theorem dX5_shrink_40 : decode cX5_shrink 40 = .ok (.iload 7, 2) := by decide +kernel
theorem dX5_shrink_42 : decode cX5_shrink 42 = .ok (.iaload, 1) := by decide +kernel
theorem dX5_shrink_43 : decode cX5_shrink 43 = .ok (.istore 8, 2) := by decide +kernel
theorem dX5_shrink_45 : decode cX5_shrink 45 = .ok (.aload_n 0, 1) := by decide +kernel
theorem dX5_shrink_46 : decode cX5_shrink 46 = .ok (.aload_n 0, 1) := by decide +kernel
theorem dX5_shrink_47 : decode cX5_shrink 47 = .ok (.getfield 30, 3) := by decide +kernel
theorem dX5_shrink_50 : decode cX5_shrink 50 = .ok (.iconst 1, 1) := by decide +kernel
theorem dX5_shrink_51 : decode cX5_shrink 51 = .ok (.iload 8, 2) := by decide +kernel
theorem dX5_shrink_53 : decode cX5_shrink 53 = .ok (.aload_n 0, 1) := by decide +kernel
theorem dX5_shrink_54 : decode cX5_shrink 54 = .ok (.getfield 33, 3) := by decide +kernel
theorem dX5_shrink_57 : decode cX5_shrink 57 = .ok (.iload 8, 2) := by decide +kernel
theorem dX5_shrink_59 : decode cX5_shrink 59 = .ok (.iaload, 1) := by decide +kernel
theorem dX5_shrink_60 : decode cX5_shrink 60 = .ok (.iload_n 2, 1) := by decide +kernel
theorem dX5_shrink_61 : decode cX5_shrink 61 = .ok (.invokevirtual 105, 3) := by decide +kernel
theorem dX5_shrink_64 : decode cX5_shrink 64 = .ok (.istore 9, 2) := by decide +kernel
theorem dX5_shrink_66 : decode cX5_shrink 66 = .ok (.iload 9, 2) := by decide +kernel
theorem dX5_shrink_68 : decode cX5_shrink 68 = .ok (.iconst (-1), 1) := by decide +kernel
theorem dX5_shrink_69 : decode cX5_shrink 69 = .ok (.if_icmp .ne 14, 3) := by decide +kernel
theorem dX5_shrink_72 : decode cX5_shrink 72 = .ok (.aload_n 0, 1) := by decide +kernel
theorem dX5_shrink_73 : decode cX5_shrink 73 = .ok (.getfield 30, 3) := by decide +kernel
theorem dX5_shrink_76 : decode cX5_shrink 76 = .ok (.iload 8, 2) := by decide +kernel
theorem dX5_shrink_78 : decode cX5_shrink 78 = .ok (.iconst 0, 1) := by decide +kernel
theorem dX5_shrink_79 : decode cX5_shrink 79 = .ok (.iastore, 1) := by decide +kernel
theorem dX5_shrink_80 : decode cX5_shrink 80 = .ok (.goto 23, 3) := by decide +kernel
theorem dX5_shrink_83 : decode cX5_shrink 83 = .ok (.aload_n 0, 1) := by decide +kernel
theorem dX5_shrink_84 : decode cX5_shrink 84 = .ok (.getfield 33, 3) := by decide +kernel
theorem dX5_shrink_87 : decode cX5_shrink 87 = .ok (.iload 8, 2) := by decide +kernel
theorem dX5_shrink_89 : decode cX5_shrink 89 = .ok (.iload 9, 2) := by decide +kernel
theorem dX5_shrink_91 : decode cX5_shrink 91 = .ok (.iastore, 1) := by decide +kernel
theorem dX5_shrink_92 : decode cX5_shrink 92 = .ok (.aload_n 0, 1) := by decide +kernel
theorem dX5_shrink_93 : decode cX5_shrink 93 = .ok (.getfield 36, 3) := by decide +kernel
theorem dX5_shrink_96 : decode cX5_shrink 96 = .ok (.iload_n 3, 1) := by decide +kernel
theorem dX5_shrink_97 : decode cX5_shrink 97 = .ok (.iload 8, 2) := by decide +kernel
theorem dX5_shrink_99 : decode cX5_shrink 99 = .ok (.iastore, 1) := by decide +kernel
theorem dX5_shrink_100 : decode cX5_shrink 100 = .ok (.iinc 3 1, 3) := by decide +kernel
theorem dX5_shrink_103 : decode cX5_shrink 103 = .ok (.iinc 7 1, 3) := by decide +kernel
theorem dX5_shrink_106 : decode cX5_shrink 106 = .ok (.goto (-77), 3) := by decide +kernel
theorem dX5_shrink_109 : decode cX5_shrink 109 = .ok (.iload_n 3, 1) := by decide +kernel
theorem dX5_shrink_110 : decode cX5_shrink 110 = .ok (.iload 6, 2) := by decide +kernel
theorem dX5_shrink_112 : decode cX5_shrink 112 = .ok (.if_icmp .ge 7, 3) := by decide +kernel
theorem dX5_shrink_115 : decode cX5_shrink 115 = .ok (.iconst 1, 1) := by decide +kernel
theorem dX5_shrink_116 : decode cX5_shrink 116 = .ok (.goto 4, 3) := by decide +kernel
theorem dX5_shrink_119 : decode cX5_shrink 119 = .ok (.iconst 0, 1) := by decide +kernel
theorem dX5_shrink_120 : decode cX5_shrink 120 = .ok (.istore 4, 2) := by decide +kernel
theorem dX5_shrink_122 : decode cX5_shrink 122 = .ok (.iinc 5 1, 3) := by decide +kernel
theorem dX5_shrink_125 : decode cX5_shrink 125 = .ok (.goto (-117), 3) := by decide +kernel
theorem dX5_shrink_128 : decode cX5_shrink 128 = .ok (.return_, 1) := by decide +kernel
theorem dX5_bearing_0 : decode cX5_bearing 0 = .ok (.aload_n 0, 1) := by decide +kernel
theorem dX5_bearing_1 : decode cX5_bearing 1 = .ok (.getfield 43, 3) := by decide +kernel
theorem dX5_bearing_4 : decode cX5_bearing 4 = .ok (.iconst (-1), 1) := by decide +kernel
theorem dX5_bearing_5 : decode cX5_bearing 5 = .ok (.if_icmp .ne 62, 3) := by decide +kernel
theorem dX5_bearing_8 : decode cX5_bearing 8 = .ok (.aload_n 0, 1) := by decide +kernel
theorem dX5_bearing_9 : decode cX5_bearing 9 = .ok (.iconst 0, 1) := by decide +kernel
theorem dX5_bearing_10 : decode cX5_bearing 10 = .ok (.putfield 43, 3) := by decide +kernel
theorem dX5_bearing_13 : decode cX5_bearing 13 = .ok (.iconst 0, 1) := by decide +kernel
theorem dX5_bearing_14 : decode cX5_bearing 14 = .ok (.istore_n 2, 1) := by decide +kernel
theorem dX5_bearing_15 : decode cX5_bearing 15 = .ok (.iload_n 2, 1) := by decide +kernel
theorem dX5_bearing_16 : decode cX5_bearing 16 = .ok (.sipush 2079, 3) := by decide +kernel
theorem dX5_bearing_19 : decode cX5_bearing 19 = .ok (.if_icmp .ge 48, 3) := by decide +kernel
theorem dX5_bearing_22 : decode cX5_bearing 22 = .ok (.aload_n 0, 1) := by decide +kernel
theorem dX5_bearing_23 : decode cX5_bearing 23 = .ok (.getfield 24, 3) := by decide +kernel
theorem dX5_bearing_26 : decode cX5_bearing 26 = .ok (.iload_n 2, 1) := by decide +kernel
theorem dX5_bearing_27 : decode cX5_bearing 27 = .ok (.aload_n 0, 1) := by decide +kernel
theorem dX5_bearing_28 : decode cX5_bearing 28 = .ok (.iload_n 2, 1) := by decide +kernel
theorem dX5_bearing_29 : decode cX5_bearing 29 = .ok (.invokevirtual 71, 3) := by decide +kernel
theorem dX5_bearing_32 : decode cX5_bearing 32 = .ok (.ifCond .ne 8, 3) := by decide +kernel
theorem dX5_bearing_35 : decode cX5_bearing 35 = .ok (.bipush (-2), 2) := by decide +kernel
theorem dX5_bearing_37 : decode cX5_bearing 37 = .ok (.goto 23, 3) := by decide +kernel
theorem dX5_bearing_40 : decode cX5_bearing 40 = .ok (.aload_n 0, 1) := by decide +kernel
theorem dX5_bearing_41 : decode cX5_bearing 41 = .ok (.getfield 39, 3) := by decide +kernel
theorem dX5_bearing_44 : decode cX5_bearing 44 = .ok (.getfield 75, 3) := by decide +kernel
theorem dX5_bearing_47 : decode cX5_bearing 47 = .ok (.iload_n 2, 1) := by decide +kernel
theorem dX5_bearing_48 : decode cX5_bearing 48 = .ok (.invokevirtual 109, 3) := by decide +kernel
theorem dX5_bearing_51 : decode cX5_bearing 51 = .ok (.ifCond .eq 8, 3) := by decide +kernel
theorem dX5_bearing_54 : decode cX5_bearing 54 = .ok (.bipush 6, 2) := by decide +kernel
theorem dX5_bearing_56 : decode cX5_bearing 56 = .ok (.goto 4, 3) := by decide +kernel
theorem dX5_bearing_59 : decode cX5_bearing 59 = .ok (.iconst 0, 1) := by decide +kernel
theorem dX5_bearing_60 : decode cX5_bearing 60 = .ok (.iastore, 1) := by decide +kernel
theorem dX5_bearing_61 : decode cX5_bearing 61 = .ok (.iinc 2 1, 3) := by decide +kernel
theorem dX5_bearing_64 : decode cX5_bearing 64 = .ok (.goto (-49), 3) := by decide +kernel
theorem dX5_bearing_67 : decode cX5_bearing 67 = .ok (.aload_n 0, 1) := by decide +kernel
theorem dX5_bearing_68 : decode cX5_bearing 68 = .ok (.getfield 43, 3) := by decide +kernel
theorem dX5_bearing_71 : decode cX5_bearing 71 = .ok (.iconst 1, 1) := by decide +kernel
theorem dX5_bearing_72 : decode cX5_bearing 72 = .ok (.iadd, 1) := by decide +kernel
theorem dX5_bearing_73 : decode cX5_bearing 73 = .ok (.istore_n 2, 1) := by decide +kernel
theorem dX5_bearing_74 : decode cX5_bearing 74 = .ok (.iload_n 2, 1) := by decide +kernel
theorem dX5_bearing_75 : decode cX5_bearing 75 = .ok (.bipush 6, 2) := by decide +kernel
theorem dX5_bearing_77 : decode cX5_bearing 77 = .ok (.if_icmp .gt 167, 3) := by decide +kernel
theorem dX5_bearing_80 : decode cX5_bearing 80 = .ok (.aload_n 0, 1) := by decide +kernel
theorem dX5_bearing_81 : decode cX5_bearing 81 = .ok (.getfield 24, 3) := by decide +kernel
theorem dX5_bearing_84 : decode cX5_bearing 84 = .ok (.iload_n 1, 1) := by decide +kernel
theorem dX5_bearing_85 : decode cX5_bearing 85 = .ok (.iaload, 1) := by decide +kernel
theorem dX5_bearing_86 : decode cX5_bearing 86 = .ok (.iload_n 2, 1) := by decide +kernel
theorem dX5_bearing_87 : decode cX5_bearing 87 = .ok (.iconst 1, 1) := by decide +kernel
theorem dX5_bearing_88 : decode cX5_bearing 88 = .ok (.isub, 1) := by decide +kernel
theorem dX5_bearing_89 : decode cX5_bearing 89 = .ok (.if_icmp .ne 155, 3) := by decide +kernel
theorem dX5_bearing_92 : decode cX5_bearing 92 = .ok (.iconst 0, 1) := by decide +kernel
theorem dX5_bearing_93 : decode cX5_bearing 93 = .ok (.istore_n 3, 1) := by decide +kernel
theorem dX5_bearing_94 : decode cX5_bearing 94 = .ok (.iconst 0, 1) := by decide +kernel
theorem dX5_bearing_95 : decode cX5_bearing 95 = .ok (.istore 4, 2) := by decide +kernel
theorem dX5_bearing_97 : decode cX5_bearing 97 = .ok (.iload 4, 2) := by decide +kernel
theorem dX5_bearing_99 : decode cX5_bearing 99 = .ok (.sipush 2079, 3) := by decide +kernel
theorem dX5_bearing_102 : decode cX5_bearing 102 = .ok (.if_icmp .ge 66, 3) := by decide +kernel
theorem dX5_bearing_105 : decode cX5_bearing 105 = .ok (.aload_n 0, 1) := by decide +kernel
theorem dX5_bearing_106 : decode cX5_bearing 106 = .ok (.getfield 30, 3) := by decide +kernel
theorem dX5_bearing_109 : decode cX5_bearing 109 = .ok (.iload 4, 2) := by decide +kernel
theorem dX5_bearing_111 : decode cX5_bearing 111 = .ok (.aload_n 0, 1) := by decide +kernel
theorem dX5_bearing_112 : decode cX5_bearing 112 = .ok (.getfield 24, 3) := by decide +kernel
theorem dX5_bearing_115 : decode cX5_bearing 115 = .ok (.iload 4, 2) := by decide +kernel
theorem dX5_bearing_117 : decode cX5_bearing 117 = .ok (.iaload, 1) := by decide +kernel
theorem dX5_bearing_118 : decode cX5_bearing 118 = .ok (.iload_n 2, 1) := by decide +kernel
theorem dX5_bearing_119 : decode cX5_bearing 119 = .ok (.iconst 1, 1) := by decide +kernel
theorem dX5_bearing_120 : decode cX5_bearing 120 = .ok (.isub, 1) := by decide +kernel
theorem dX5_bearing_121 : decode cX5_bearing 121 = .ok (.if_icmp .lt 7, 3) := by decide +kernel
theorem dX5_bearing_124 : decode cX5_bearing 124 = .ok (.iconst 1, 1) := by decide +kernel
theorem dX5_bearing_125 : decode cX5_bearing 125 = .ok (.goto 4, 3) := by decide +kernel
theorem dX5_bearing_128 : decode cX5_bearing 128 = .ok (.iconst 0, 1) := by decide +kernel
theorem dX5_bearing_129 : decode cX5_bearing 129 = .ok (.iastore, 1) := by decide +kernel
theorem dX5_bearing_130 : decode cX5_bearing 130 = .ok (.aload_n 0, 1) := by decide +kernel
theorem dX5_bearing_131 : decode cX5_bearing 131 = .ok (.getfield 33, 3) := by decide +kernel
theorem dX5_bearing_134 : decode cX5_bearing 134 = .ok (.iload 4, 2) := by decide +kernel
theorem dX5_bearing_136 : decode cX5_bearing 136 = .ok (.iconst 0, 1) := by decide +kernel
theorem dX5_bearing_137 : decode cX5_bearing 137 = .ok (.iastore, 1) := by decide +kernel
theorem dX5_bearing_138 : decode cX5_bearing 138 = .ok (.aload_n 0, 1) := by decide +kernel
theorem dX5_bearing_139 : decode cX5_bearing 139 = .ok (.getfield 24, 3) := by decide +kernel
theorem dX5_bearing_142 : decode cX5_bearing 142 = .ok (.iload 4, 2) := by decide +kernel
theorem dX5_bearing_144 : decode cX5_bearing 144 = .ok (.iaload, 1) := by decide +kernel
theorem dX5_bearing_145 : decode cX5_bearing 145 = .ok (.iload_n 2, 1) := by decide +kernel
theorem dX5_bearing_146 : decode cX5_bearing 146 = .ok (.iconst 1, 1) := by decide +kernel
theorem dX5_bearing_147 : decode cX5_bearing 147 = .ok (.isub, 1) := by decide +kernel
theorem dX5_bearing_148 : decode cX5_bearing 148 = .ok (.if_icmp .ne 14, 3) := by decide +kernel
theorem dX5_bearing_151 : decode cX5_bearing 151 = .ok (.aload_n 0, 1) := by decide +kernel
theorem dX5_bearing_152 : decode cX5_bearing 152 = .ok (.getfield 36, 3) := by decide +kernel
theorem dX5_bearing_155 : decode cX5_bearing 155 = .ok (.iload_n 3, 1) := by decide +kernel
theorem dX5_bearing_156 : decode cX5_bearing 156 = .ok (.iload 4, 2) := by decide +kernel
theorem dX5_bearing_158 : decode cX5_bearing 158 = .ok (.iastore, 1) := by decide +kernel
theorem dX5_bearing_159 : decode cX5_bearing 159 = .ok (.iinc 3 1, 3) := by decide +kernel
theorem dX5_bearing_162 : decode cX5_bearing 162 = .ok (.iinc 4 1, 3) := by decide +kernel
theorem dX5_bearing_165 : decode cX5_bearing 165 = .ok (.goto (-68), 3) := by decide +kernel
theorem dX5_bearing_168 : decode cX5_bearing 168 = .ok (.aload_n 0, 1) := by decide +kernel
theorem dX5_bearing_169 : decode cX5_bearing 169 = .ok (.iload_n 3, 1) := by decide +kernel
theorem dX5_bearing_170 : decode cX5_bearing 170 = .ok (.iload_n 2, 1) := by decide +kernel
theorem dX5_bearing_171 : decode cX5_bearing 171 = .ok (.invokevirtual 116, 3) := by decide +kernel
theorem dX5_bearing_174 : decode cX5_bearing 174 = .ok (.iconst 0, 1) := by decide +kernel
theorem dX5_bearing_175 : decode cX5_bearing 175 = .ok (.istore 4, 2) := by decide +kernel
theorem dX5_bearing_177 : decode cX5_bearing 177 = .ok (.iload 4, 2) := by decide +kernel
theorem dX5_bearing_179 : decode cX5_bearing 179 = .ok (.sipush 2079, 3) := by decide +kernel
theorem dX5_bearing_182 : decode cX5_bearing 182 = .ok (.if_icmp .ge 51, 3) := by decide +kernel
theorem dX5_bearing_185 : decode cX5_bearing 185 = .ok (.aload_n 0, 1) := by decide +kernel
theorem dX5_bearing_186 : decode cX5_bearing 186 = .ok (.getfield 24, 3) := by decide +kernel
theorem dX5_bearing_189 : decode cX5_bearing 189 = .ok (.iload 4, 2) := by decide +kernel
theorem dX5_bearing_191 : decode cX5_bearing 191 = .ok (.aload_n 0, 1) := by decide +kernel
theorem dX5_bearing_192 : decode cX5_bearing 192 = .ok (.getfield 30, 3) := by decide +kernel
theorem dX5_bearing_195 : decode cX5_bearing 195 = .ok (.iload 4, 2) := by decide +kernel
theorem dX5_bearing_197 : decode cX5_bearing 197 = .ok (.iaload, 1) := by decide +kernel
theorem dX5_bearing_198 : decode cX5_bearing 198 = .ok (.iconst 1, 1) := by decide +kernel
theorem dX5_bearing_199 : decode cX5_bearing 199 = .ok (.if_icmp .ne 20, 3) := by decide +kernel
theorem dX5_bearing_202 : decode cX5_bearing 202 = .ok (.aload_n 0, 1) := by decide +kernel
theorem dX5_bearing_203 : decode cX5_bearing 203 = .ok (.getfield 24, 3) := by decide +kernel
theorem dX5_bearing_206 : decode cX5_bearing 206 = .ok (.iload 4, 2) := by decide +kernel
theorem dX5_bearing_208 : decode cX5_bearing 208 = .ok (.iaload, 1) := by decide +kernel
theorem dX5_bearing_209 : decode cX5_bearing 209 = .ok (.iload_n 2, 1) := by decide +kernel
theorem dX5_bearing_210 : decode cX5_bearing 210 = .ok (.iconst 1, 1) := by decide +kernel
theorem dX5_bearing_211 : decode cX5_bearing 211 = .ok (.isub, 1) := by decide +kernel
theorem dX5_bearing_212 : decode cX5_bearing 212 = .ok (.if_icmp .ne 7, 3) := by decide +kernel
theorem dX5_bearing_215 : decode cX5_bearing 215 = .ok (.iload_n 2, 1) := by decide +kernel
theorem dX5_bearing_216 : decode cX5_bearing 216 = .ok (.goto 10, 3) := by decide +kernel
theorem dX5_bearing_219 : decode cX5_bearing 219 = .ok (.aload_n 0, 1) := by decide +kernel
theorem dX5_bearing_220 : decode cX5_bearing 220 = .ok (.getfield 24, 3) := by decide +kernel
theorem dX5_bearing_223 : decode cX5_bearing 223 = .ok (.iload 4, 2) := by decide +kernel
theorem dX5_bearing_225 : decode cX5_bearing 225 = .ok (.iaload, 1) := by decide +kernel
theorem dX5_bearing_226 : decode cX5_bearing 226 = .ok (.iastore, 1) := by decide +kernel
theorem dX5_bearing_227 : decode cX5_bearing 227 = .ok (.iinc 4 1, 3) := by decide +kernel
theorem dX5_bearing_230 : decode cX5_bearing 230 = .ok (.goto (-53), 3) := by decide +kernel
theorem dX5_bearing_233 : decode cX5_bearing 233 = .ok (.aload_n 0, 1) := by decide +kernel
theorem dX5_bearing_234 : decode cX5_bearing 234 = .ok (.iload_n 2, 1) := by decide +kernel
theorem dX5_bearing_235 : decode cX5_bearing 235 = .ok (.putfield 43, 3) := by decide +kernel
theorem dX5_bearing_238 : decode cX5_bearing 238 = .ok (.iinc 2 1, 3) := by decide +kernel
theorem dX5_bearing_241 : decode cX5_bearing 241 = .ok (.goto (-167), 3) := by decide +kernel
theorem dX5_bearing_244 : decode cX5_bearing 244 = .ok (.aload_n 0, 1) := by decide +kernel
theorem dX5_bearing_245 : decode cX5_bearing 245 = .ok (.getfield 24, 3) := by decide +kernel
theorem dX5_bearing_248 : decode cX5_bearing 248 = .ok (.iload_n 1, 1) := by decide +kernel
theorem dX5_bearing_249 : decode cX5_bearing 249 = .ok (.iaload, 1) := by decide +kernel
theorem dX5_bearing_250 : decode cX5_bearing 250 = .ok (.ireturn, 1) := by decide +kernel
theorem dX5_leastPole_0 : decode cX5_leastPole 0 = .ok (.aload_n 0, 1) := by decide +kernel
theorem dX5_leastPole_1 : decode cX5_leastPole 1 = .ok (.getfield 39, 3) := by decide +kernel
theorem dX5_leastPole_4 : decode cX5_leastPole 4 = .ok (.getfield 120, 3) := by decide +kernel
theorem dX5_leastPole_7 : decode cX5_leastPole 7 = .ok (.istore_n 2, 1) := by decide +kernel
theorem dX5_leastPole_8 : decode cX5_leastPole 8 = .ok (.bipush (-2), 2) := by decide +kernel
theorem dX5_leastPole_10 : decode cX5_leastPole 10 = .ok (.istore_n 3, 1) := by decide +kernel
theorem dX5_leastPole_11 : decode cX5_leastPole 11 = .ok (.iconst 1, 1) := by decide +kernel
theorem dX5_leastPole_12 : decode cX5_leastPole 12 = .ok (.istore 4, 2) := by decide +kernel
theorem dX5_leastPole_14 : decode cX5_leastPole 14 = .ok (.iload 4, 2) := by decide +kernel
theorem dX5_leastPole_16 : decode cX5_leastPole 16 = .ok (.iconst 4, 1) := by decide +kernel
theorem dX5_leastPole_17 : decode cX5_leastPole 17 = .ok (.if_icmp .gt 196, 3) := by decide +kernel
theorem dX5_leastPole_20 : decode cX5_leastPole 20 = .ok (.iload_n 3, 1) := by decide +kernel
theorem dX5_leastPole_21 : decode cX5_leastPole 21 = .ok (.bipush (-2), 2) := by decide +kernel
theorem dX5_leastPole_23 : decode cX5_leastPole 23 = .ok (.if_icmp .ne 190, 3) := by decide +kernel
theorem dX5_leastPole_26 : decode cX5_leastPole 26 = .ok (.aload_n 0, 1) := by decide +kernel
theorem dX5_leastPole_27 : decode cX5_leastPole 27 = .ok (.getfield 47, 3) := by decide +kernel
theorem dX5_leastPole_30 : decode cX5_leastPole 30 = .ok (.iload 4, 2) := by decide +kernel
theorem dX5_leastPole_32 : decode cX5_leastPole 32 = .ok (.ishr, 1) := by decide +kernel
theorem dX5_leastPole_33 : decode cX5_leastPole 33 = .ok (.iconst 1, 1) := by decide +kernel
theorem dX5_leastPole_34 : decode cX5_leastPole 34 = .ok (.iand, 1) := by decide +kernel
theorem dX5_leastPole_35 : decode cX5_leastPole 35 = .ok (.ifCond .ne 154, 3) := by decide +kernel
theorem dX5_leastPole_38 : decode cX5_leastPole 38 = .ok (.aload_n 0, 1) := by decide +kernel
theorem dX5_leastPole_39 : decode cX5_leastPole 39 = .ok (.getfield 39, 3) := by decide +kernel
theorem dX5_leastPole_42 : decode cX5_leastPole 42 = .ok (.getfield 120, 3) := by decide +kernel
theorem dX5_leastPole_45 : decode cX5_leastPole 45 = .ok (.iload 4, 2) := by decide +kernel
theorem dX5_leastPole_47 : decode cX5_leastPole 47 = .ok (.if_icmp .eq 19, 3) := by decide +kernel
theorem dX5_leastPole_50 : decode cX5_leastPole 50 = .ok (.aload_n 0, 1) := by decide +kernel
theorem dX5_leastPole_51 : decode cX5_leastPole 51 = .ok (.getfield 39, 3) := by decide +kernel
theorem dX5_leastPole_54 : decode cX5_leastPole 54 = .ok (.aload_n 0, 1) := by decide +kernel
theorem dX5_leastPole_55 : decode cX5_leastPole 55 = .ok (.getfield 39, 3) := by decide +kernel
theorem dX5_leastPole_58 : decode cX5_leastPole 58 = .ok (.getfield 75, 3) := by decide +kernel
theorem dX5_leastPole_61 : decode cX5_leastPole 61 = .ok (.iload 4, 2) := by decide +kernel
theorem dX5_leastPole_63 : decode cX5_leastPole 63 = .ok (.invokevirtual 123, 3) := by decide +kernel
theorem dX5_leastPole_66 : decode cX5_leastPole 66 = .ok (.iconst 0, 1) := by decide +kernel
theorem dX5_leastPole_67 : decode cX5_leastPole 67 = .ok (.istore 5, 2) := by decide +kernel
theorem dX5_leastPole_69 : decode cX5_leastPole 69 = .ok (.iload 5, 2) := by decide +kernel
theorem dX5_leastPole_71 : decode cX5_leastPole 71 = .ok (.sipush 2079, 3) := by decide +kernel
theorem dX5_leastPole_74 : decode cX5_leastPole 74 = .ok (.if_icmp .ge 44, 3) := by decide +kernel
theorem dX5_leastPole_77 : decode cX5_leastPole 77 = .ok (.aload_n 0, 1) := by decide +kernel
theorem dX5_leastPole_78 : decode cX5_leastPole 78 = .ok (.getfield 30, 3) := by decide +kernel
theorem dX5_leastPole_81 : decode cX5_leastPole 81 = .ok (.iload 5, 2) := by decide +kernel
theorem dX5_leastPole_83 : decode cX5_leastPole 83 = .ok (.aload_n 0, 1) := by decide +kernel
theorem dX5_leastPole_84 : decode cX5_leastPole 84 = .ok (.getfield 39, 3) := by decide +kernel
theorem dX5_leastPole_87 : decode cX5_leastPole 87 = .ok (.getfield 75, 3) := by decide +kernel
theorem dX5_leastPole_90 : decode cX5_leastPole 90 = .ok (.iload 5, 2) := by decide +kernel
theorem dX5_leastPole_92 : decode cX5_leastPole 92 = .ok (.invokevirtual 84, 3) := by decide +kernel
theorem dX5_leastPole_95 : decode cX5_leastPole 95 = .ok (.ifCond .eq 7, 3) := by decide +kernel
theorem dX5_leastPole_98 : decode cX5_leastPole 98 = .ok (.iconst 1, 1) := by decide +kernel
theorem dX5_leastPole_99 : decode cX5_leastPole 99 = .ok (.goto 4, 3) := by decide +kernel
theorem dX5_leastPole_102 : decode cX5_leastPole 102 = .ok (.iconst 0, 1) := by decide +kernel
theorem dX5_leastPole_103 : decode cX5_leastPole 103 = .ok (.iastore, 1) := by decide +kernel
theorem dX5_leastPole_104 : decode cX5_leastPole 104 = .ok (.aload_n 0, 1) := by decide +kernel
theorem dX5_leastPole_105 : decode cX5_leastPole 105 = .ok (.getfield 33, 3) := by decide +kernel
theorem dX5_leastPole_108 : decode cX5_leastPole 108 = .ok (.iload 5, 2) := by decide +kernel
theorem dX5_leastPole_110 : decode cX5_leastPole 110 = .ok (.iconst 0, 1) := by decide +kernel
theorem dX5_leastPole_111 : decode cX5_leastPole 111 = .ok (.iastore, 1) := by decide +kernel
theorem dX5_leastPole_112 : decode cX5_leastPole 112 = .ok (.iinc 5 1, 3) := by decide +kernel
theorem dX5_leastPole_115 : decode cX5_leastPole 115 = .ok (.goto (-46), 3) := by decide +kernel
theorem dX5_leastPole_118 : decode cX5_leastPole 118 = .ok (.aload_n 0, 1) := by decide +kernel
theorem dX5_leastPole_119 : decode cX5_leastPole 119 = .ok (.aload_n 0, 1) := by decide +kernel
theorem dX5_leastPole_120 : decode cX5_leastPole 120 = .ok (.invokevirtual 94, 3) := by decide +kernel
theorem dX5_leastPole_123 : decode cX5_leastPole 123 = .ok (.iconst 0, 1) := by decide +kernel
theorem dX5_leastPole_124 : decode cX5_leastPole 124 = .ok (.invokevirtual 116, 3) := by decide +kernel
theorem dX5_leastPole_127 : decode cX5_leastPole 127 = .ok (.iconst 0, 1) := by decide +kernel
theorem dX5_leastPole_128 : decode cX5_leastPole 128 = .ok (.istore 5, 2) := by decide +kernel
theorem dX5_leastPole_130 : decode cX5_leastPole 130 = .ok (.iload 5, 2) := by decide +kernel
theorem dX5_leastPole_132 : decode cX5_leastPole 132 = .ok (.sipush 2079, 3) := by decide +kernel
theorem dX5_leastPole_135 : decode cX5_leastPole 135 = .ok (.if_icmp .ge 41, 3) := by decide +kernel
theorem dX5_leastPole_138 : decode cX5_leastPole 138 = .ok (.aload_n 0, 1) := by decide +kernel
theorem dX5_leastPole_139 : decode cX5_leastPole 139 = .ok (.getfield 27, 3) := by decide +kernel
theorem dX5_leastPole_142 : decode cX5_leastPole 142 = .ok (.iload 5, 2) := by decide +kernel
theorem dX5_leastPole_144 : decode cX5_leastPole 144 = .ok (.aload_n 0, 1) := by decide +kernel
theorem dX5_leastPole_145 : decode cX5_leastPole 145 = .ok (.getfield 27, 3) := by decide +kernel
theorem dX5_leastPole_148 : decode cX5_leastPole 148 = .ok (.iload 5, 2) := by decide +kernel
theorem dX5_leastPole_150 : decode cX5_leastPole 150 = .ok (.iaload, 1) := by decide +kernel
theorem dX5_leastPole_151 : decode cX5_leastPole 151 = .ok (.iconst 1, 1) := by decide +kernel
theorem dX5_leastPole_152 : decode cX5_leastPole 152 = .ok (.iload 4, 2) := by decide +kernel
theorem dX5_leastPole_154 : decode cX5_leastPole 154 = .ok (.ishl, 1) := by decide +kernel
theorem dX5_leastPole_155 : decode cX5_leastPole 155 = .ok (.iconst (-1), 1) := by decide +kernel
theorem dX5_leastPole_156 : decode cX5_leastPole 156 = .ok (.ixor, 1) := by decide +kernel
theorem dX5_leastPole_157 : decode cX5_leastPole 157 = .ok (.iand, 1) := by decide +kernel
theorem dX5_leastPole_158 : decode cX5_leastPole 158 = .ok (.aload_n 0, 1) := by decide +kernel
theorem dX5_leastPole_159 : decode cX5_leastPole 159 = .ok (.getfield 30, 3) := by decide +kernel
theorem dX5_leastPole_162 : decode cX5_leastPole 162 = .ok (.iload 5, 2) := by decide +kernel
theorem dX5_leastPole_164 : decode cX5_leastPole 164 = .ok (.iaload, 1) := by decide +kernel
theorem dX5_leastPole_165 : decode cX5_leastPole 165 = .ok (.iload 4, 2) := by decide +kernel
theorem dX5_leastPole_167 : decode cX5_leastPole 167 = .ok (.ishl, 1) := by decide +kernel
theorem dX5_leastPole_168 : decode cX5_leastPole 168 = .ok (.ior, 1) := by decide +kernel
theorem dX5_leastPole_169 : decode cX5_leastPole 169 = .ok (.iastore, 1) := by decide +kernel
theorem dX5_leastPole_170 : decode cX5_leastPole 170 = .ok (.iinc 5 1, 3) := by decide +kernel
theorem dX5_leastPole_173 : decode cX5_leastPole 173 = .ok (.goto (-43), 3) := by decide +kernel
theorem dX5_leastPole_176 : decode cX5_leastPole 176 = .ok (.aload_n 0, 1) := by decide +kernel
theorem dX5_leastPole_177 : decode cX5_leastPole 177 = .ok (.dup, 1) := by decide +kernel
theorem dX5_leastPole_178 : decode cX5_leastPole 178 = .ok (.getfield 47, 3) := by decide +kernel
theorem dX5_leastPole_181 : decode cX5_leastPole 181 = .ok (.iconst 1, 1) := by decide +kernel
theorem dX5_leastPole_182 : decode cX5_leastPole 182 = .ok (.iload 4, 2) := by decide +kernel
theorem dX5_leastPole_184 : decode cX5_leastPole 184 = .ok (.ishl, 1) := by decide +kernel
theorem dX5_leastPole_185 : decode cX5_leastPole 185 = .ok (.ior, 1) := by decide +kernel
theorem dX5_leastPole_186 : decode cX5_leastPole 186 = .ok (.putfield 47, 3) := by decide +kernel
theorem dX5_leastPole_189 : decode cX5_leastPole 189 = .ok (.aload_n 0, 1) := by decide +kernel
theorem dX5_leastPole_190 : decode cX5_leastPole 190 = .ok (.getfield 27, 3) := by decide +kernel
theorem dX5_leastPole_193 : decode cX5_leastPole 193 = .ok (.iload_n 1, 1) := by decide +kernel
theorem dX5_leastPole_194 : decode cX5_leastPole 194 = .ok (.iaload, 1) := by decide +kernel
theorem dX5_leastPole_195 : decode cX5_leastPole 195 = .ok (.iload 4, 2) := by decide +kernel
theorem dX5_leastPole_197 : decode cX5_leastPole 197 = .ok (.ishr, 1) := by decide +kernel
theorem dX5_leastPole_198 : decode cX5_leastPole 198 = .ok (.iconst 1, 1) := by decide +kernel
theorem dX5_leastPole_199 : decode cX5_leastPole 199 = .ok (.iand, 1) := by decide +kernel
theorem dX5_leastPole_200 : decode cX5_leastPole 200 = .ok (.iconst 1, 1) := by decide +kernel
theorem dX5_leastPole_201 : decode cX5_leastPole 201 = .ok (.if_icmp .ne 6, 3) := by decide +kernel
theorem dX5_leastPole_204 : decode cX5_leastPole 204 = .ok (.iload 4, 2) := by decide +kernel
theorem dX5_leastPole_206 : decode cX5_leastPole 206 = .ok (.istore_n 3, 1) := by decide +kernel
theorem dX5_leastPole_207 : decode cX5_leastPole 207 = .ok (.iinc 4 1, 3) := by decide +kernel
theorem dX5_leastPole_210 : decode cX5_leastPole 210 = .ok (.goto (-196), 3) := by decide +kernel
theorem dX5_leastPole_213 : decode cX5_leastPole 213 = .ok (.aload_n 0, 1) := by decide +kernel
theorem dX5_leastPole_214 : decode cX5_leastPole 214 = .ok (.getfield 39, 3) := by decide +kernel
theorem dX5_leastPole_217 : decode cX5_leastPole 217 = .ok (.getfield 120, 3) := by decide +kernel
theorem dX5_leastPole_220 : decode cX5_leastPole 220 = .ok (.iload_n 2, 1) := by decide +kernel
theorem dX5_leastPole_221 : decode cX5_leastPole 221 = .ok (.if_icmp .eq 18, 3) := by decide +kernel
theorem dX5_leastPole_224 : decode cX5_leastPole 224 = .ok (.aload_n 0, 1) := by decide +kernel
theorem dX5_leastPole_225 : decode cX5_leastPole 225 = .ok (.getfield 39, 3) := by decide +kernel
theorem dX5_leastPole_228 : decode cX5_leastPole 228 = .ok (.aload_n 0, 1) := by decide +kernel
theorem dX5_leastPole_229 : decode cX5_leastPole 229 = .ok (.getfield 39, 3) := by decide +kernel
theorem dX5_leastPole_232 : decode cX5_leastPole 232 = .ok (.getfield 75, 3) := by decide +kernel
theorem dX5_leastPole_235 : decode cX5_leastPole 235 = .ok (.iload_n 2, 1) := by decide +kernel
theorem dX5_leastPole_236 : decode cX5_leastPole 236 = .ok (.invokevirtual 123, 3) := by decide +kernel
theorem dX5_leastPole_239 : decode cX5_leastPole 239 = .ok (.iload_n 3, 1) := by decide +kernel
theorem dX5_leastPole_240 : decode cX5_leastPole 240 = .ok (.ireturn, 1) := by decide +kernel
theorem dX6_init_0 : decode cX6_init 0 = .ok (.aload_n 0, 1) := by decide +kernel
theorem dX6_init_1 : decode cX6_init 1 = .ok (.invokespecial 3, 3) := by decide +kernel
theorem dX6_init_4 : decode cX6_init 4 = .ok (.aload_n 0, 1) := by decide +kernel
theorem dX6_init_5 : decode cX6_init 5 = .ok (.bipush 24, 2) := by decide +kernel
theorem dX6_init_7 : decode cX6_init 7 = .ok (.newarray .int, 2) := by decide +kernel
theorem dX6_init_9 : decode cX6_init 9 = .ok (.putfield 11, 3) := by decide +kernel
theorem dX6_init_12 : decode cX6_init 12 = .ok (.aload_n 0, 1) := by decide +kernel
theorem dX6_init_13 : decode cX6_init 13 = .ok (.bipush 24, 2) := by decide +kernel
theorem dX6_init_15 : decode cX6_init 15 = .ok (.newarray .int, 2) := by decide +kernel
theorem dX6_init_17 : decode cX6_init 17 = .ok (.putfield 15, 3) := by decide +kernel
theorem dX6_init_20 : decode cX6_init 20 = .ok (.aload_n 0, 1) := by decide +kernel
theorem dX6_init_21 : decode cX6_init 21 = .ok (.sipush 2079, 3) := by decide +kernel
theorem dX6_init_24 : decode cX6_init 24 = .ok (.newarray .int, 2) := by decide +kernel
theorem dX6_init_26 : decode cX6_init 26 = .ok (.putfield 18, 3) := by decide +kernel
theorem dX6_init_29 : decode cX6_init 29 = .ok (.aload_n 0, 1) := by decide +kernel
theorem dX6_init_30 : decode cX6_init 30 = .ok (.sipush 2079, 3) := by decide +kernel
theorem dX6_init_33 : decode cX6_init 33 = .ok (.newarray .int, 2) := by decide +kernel
theorem dX6_init_35 : decode cX6_init 35 = .ok (.putfield 21, 3) := by decide +kernel
theorem dX6_init_38 : decode cX6_init 38 = .ok (.aload_n 0, 1) := by decide +kernel
theorem dX6_init_39 : decode cX6_init 39 = .ok (.iconst 4, 1) := by decide +kernel
theorem dX6_init_40 : decode cX6_init 40 = .ok (.newarray .int, 2) := by decide +kernel
theorem dX6_init_42 : decode cX6_init 42 = .ok (.putfield 24, 3) := by decide +kernel
theorem dX6_init_45 : decode cX6_init 45 = .ok (.aload_n 0, 1) := by decide +kernel
theorem dX6_init_46 : decode cX6_init 46 = .ok (.sipush 10395, 3) := by decide +kernel
theorem dX6_init_49 : decode cX6_init 49 = .ok (.newarray .int, 2) := by decide +kernel
theorem dX6_init_51 : decode cX6_init 51 = .ok (.putfield 27, 3) := by decide +kernel
theorem dX6_init_54 : decode cX6_init 54 = .ok (.aload_n 0, 1) := by decide +kernel
theorem dX6_init_55 : decode cX6_init 55 = .ok (.iconst 5, 1) := by decide +kernel
theorem dX6_init_56 : decode cX6_init 56 = .ok (.newarray .int, 2) := by decide +kernel
theorem dX6_init_58 : decode cX6_init 58 = .ok (.putfield 30, 3) := by decide +kernel
theorem dX6_init_61 : decode cX6_init 61 = .ok (.aload_n 0, 1) := by decide +kernel
theorem dX6_init_62 : decode cX6_init 62 = .ok (.sipush 2079, 3) := by decide +kernel
theorem dX6_init_65 : decode cX6_init 65 = .ok (.newarray .int, 2) := by decide +kernel
theorem dX6_init_67 : decode cX6_init 67 = .ok (.putfield 33, 3) := by decide +kernel
theorem dX6_init_70 : decode cX6_init 70 = .ok (.aload_n 0, 1) := by decide +kernel
theorem dX6_init_71 : decode cX6_init 71 = .ok (.aload_n 1, 1) := by decide +kernel
theorem dX6_init_72 : decode cX6_init 72 = .ok (.putfield 36, 3) := by decide +kernel
theorem dX6_init_75 : decode cX6_init 75 = .ok (.aload_n 0, 1) := by decide +kernel
theorem dX6_init_76 : decode cX6_init 76 = .ok (.iconst (-1), 1) := by decide +kernel
theorem dX6_init_77 : decode cX6_init 77 = .ok (.putfield 40, 3) := by decide +kernel
theorem dX6_init_80 : decode cX6_init 80 = .ok (.return_, 1) := by decide +kernel
theorem dX6_addForecast_0 : decode cX6_addForecast 0 = .ok (.aload_n 0, 1) := by decide +kernel
theorem dX6_addForecast_1 : decode cX6_addForecast 1 = .ok (.getfield 44, 3) := by decide +kernel
theorem dX6_addForecast_4 : decode cX6_addForecast 4 = .ok (.bipush 24, 2) := by decide +kernel
theorem dX6_addForecast_6 : decode cX6_addForecast 6 = .ok (.if_icmp .lt 5, 3) := by decide +kernel
theorem dX6_addForecast_9 : decode cX6_addForecast 9 = .ok (.iconst (-1), 1) := by decide +kernel
theorem dX6_addForecast_10 : decode cX6_addForecast 10 = .ok (.ireturn, 1) := by decide +kernel
theorem dX6_addForecast_11 : decode cX6_addForecast 11 = .ok (.aload_n 0, 1) := by decide +kernel
theorem dX6_addForecast_12 : decode cX6_addForecast 12 = .ok (.getfield 11, 3) := by decide +kernel
theorem dX6_addForecast_15 : decode cX6_addForecast 15 = .ok (.aload_n 0, 1) := by decide +kernel
theorem dX6_addForecast_16 : decode cX6_addForecast 16 = .ok (.getfield 44, 3) := by decide +kernel
theorem dX6_addForecast_19 : decode cX6_addForecast 19 = .ok (.iload_n 1, 1) := by decide +kernel
theorem dX6_addForecast_20 : decode cX6_addForecast 20 = .ok (.iastore, 1) := by decide +kernel
theorem dX6_addForecast_21 : decode cX6_addForecast 21 = .ok (.aload_n 0, 1) := by decide +kernel
theorem dX6_addForecast_22 : decode cX6_addForecast 22 = .ok (.dup, 1) := by decide +kernel
theorem dX6_addForecast_23 : decode cX6_addForecast 23 = .ok (.getfield 44, 3) := by decide +kernel
theorem dX6_addForecast_26 : decode cX6_addForecast 26 = .ok (.iconst 1, 1) := by decide +kernel
theorem dX6_addForecast_27 : decode cX6_addForecast 27 = .ok (.iadd, 1) := by decide +kernel
theorem dX6_addForecast_28 : decode cX6_addForecast 28 = .ok (.putfield 44, 3) := by decide +kernel
theorem dX6_addForecast_31 : decode cX6_addForecast 31 = .ok (.aload_n 0, 1) := by decide +kernel
theorem dX6_addForecast_32 : decode cX6_addForecast 32 = .ok (.iconst (-1), 1) := by decide +kernel
theorem dX6_addForecast_33 : decode cX6_addForecast 33 = .ok (.putfield 40, 3) := by decide +kernel
theorem dX6_addForecast_36 : decode cX6_addForecast 36 = .ok (.aload_n 0, 1) := by decide +kernel
theorem dX6_addForecast_37 : decode cX6_addForecast 37 = .ok (.getfield 44, 3) := by decide +kernel
theorem dX6_addForecast_40 : decode cX6_addForecast 40 = .ok (.ireturn, 1) := by decide +kernel
theorem dX6_dropForecasts_0 : decode cX6_dropForecasts 0 = .ok (.aload_n 0, 1) := by decide +kernel
theorem dX6_dropForecasts_1 : decode cX6_dropForecasts 1 = .ok (.iconst 0, 1) := by decide +kernel
theorem dX6_dropForecasts_2 : decode cX6_dropForecasts 2 = .ok (.putfield 44, 3) := by decide +kernel
theorem dX6_dropForecasts_5 : decode cX6_dropForecasts 5 = .ok (.aload_n 0, 1) := by decide +kernel
theorem dX6_dropForecasts_6 : decode cX6_dropForecasts 6 = .ok (.iconst (-1), 1) := by decide +kernel
theorem dX6_dropForecasts_7 : decode cX6_dropForecasts 7 = .ok (.putfield 40, 3) := by decide +kernel
theorem dX6_dropForecasts_10 : decode cX6_dropForecasts 10 = .ok (.return_, 1) := by decide +kernel
theorem dX6_dropPlan_0 : decode cX6_dropPlan 0 = .ok (.aload_n 0, 1) := by decide +kernel
theorem dX6_dropPlan_1 : decode cX6_dropPlan 1 = .ok (.iconst (-1), 1) := by decide +kernel
theorem dX6_dropPlan_2 : decode cX6_dropPlan 2 = .ok (.putfield 40, 3) := by decide +kernel
theorem dX6_dropPlan_5 : decode cX6_dropPlan 5 = .ok (.return_, 1) := by decide +kernel
theorem dX6_plan_0 : decode cX6_plan 0 = .ok (.aload_n 0, 1) := by decide +kernel
theorem dX6_plan_1 : decode cX6_plan 1 = .ok (.getfield 40, 3) := by decide +kernel
theorem dX6_plan_4 : decode cX6_plan 4 = .ok (.iload_n 1, 1) := by decide +kernel
theorem dX6_plan_5 : decode cX6_plan 5 = .ok (.if_icmp .ne 4, 3) := by decide +kernel
theorem dX6_plan_8 : decode cX6_plan 8 = .ok (.return_, 1) := by decide +kernel
theorem dX6_plan_9 : decode cX6_plan 9 = .ok (.aload_n 0, 1) := by decide +kernel
theorem dX6_plan_10 : decode cX6_plan 10 = .ok (.iload_n 1, 1) := by decide +kernel
theorem dX6_plan_11 : decode cX6_plan 11 = .ok (.putfield 40, 3) := by decide +kernel
theorem dX6_plan_14 : decode cX6_plan 14 = .ok (.aload_n 0, 1) := by decide +kernel
theorem dX6_plan_15 : decode cX6_plan 15 = .ok (.aload_n 0, 1) := by decide +kernel
theorem dX6_plan_16 : decode cX6_plan 16 = .ok (.getfield 36, 3) := by decide +kernel
theorem dX6_plan_19 : decode cX6_plan 19 = .ok (.getfield 47, 3) := by decide +kernel
theorem dX6_plan_22 : decode cX6_plan 22 = .ok (.iload_n 1, 1) := by decide +kernel
theorem dX6_plan_23 : decode cX6_plan 23 = .ok (.invokevirtual 53, 3) := by decide +kernel
theorem dX6_plan_26 : decode cX6_plan 26 = .ok (.ifCond .eq 7, 3) := by decide +kernel
theorem dX6_plan_29 : decode cX6_plan 29 = .ok (.iconst 0, 1) := by decide +kernel
theorem dX6_plan_30 : decode cX6_plan 30 = .ok (.goto 5, 3) := by decide +kernel
theorem dX6_plan_33 : decode cX6_plan 33 = .ok (.bipush (-2), 2) := by decide +kernel
theorem dX6_plan_35 : decode cX6_plan 35 = .ok (.putfield 59, 3) := by decide +kernel
theorem dX6_plan_38 : decode cX6_plan 38 = .ok (.aload_n 0, 1) := by decide +kernel
theorem dX6_plan_39 : decode cX6_plan 39 = .ok (.getfield 18, 3) := by decide +kernel
theorem dX6_plan_42 : decode cX6_plan 42 = .ok (.iconst 0, 1) := by decide +kernel
theorem dX6_plan_43 : decode cX6_plan 43 = .ok (.invokestatic 62, 3) := by decide +kernel
theorem dX6_plan_46 : decode cX6_plan 46 = .ok (.aload_n 0, 1) := by decide +kernel
theorem dX6_plan_47 : decode cX6_plan 47 = .ok (.getfield 21, 3) := by decide +kernel
theorem dX6_plan_50 : decode cX6_plan 50 = .ok (.iconst 0, 1) := by decide +kernel
theorem dX6_plan_51 : decode cX6_plan 51 = .ok (.invokestatic 62, 3) := by decide +kernel
theorem dX6_plan_54 : decode cX6_plan 54 = .ok (.aload_n 0, 1) := by decide +kernel
theorem dX6_plan_55 : decode cX6_plan 55 = .ok (.getfield 18, 3) := by decide +kernel
theorem dX6_plan_58 : decode cX6_plan 58 = .ok (.iload_n 1, 1) := by decide +kernel
theorem dX6_plan_59 : decode cX6_plan 59 = .ok (.iconst 1, 1) := by decide +kernel
theorem dX6_plan_60 : decode cX6_plan 60 = .ok (.iastore, 1) := by decide +kernel
theorem dX6_plan_61 : decode cX6_plan 61 = .ok (.iconst 0, 1) := by decide +kernel
theorem dX6_plan_62 : decode cX6_plan 62 = .ok (.istore_n 2, 1) := by decide +kernel
theorem dX6_plan_63 : decode cX6_plan 63 = .ok (.iload_n 2, 1) := by decide +kernel
theorem dX6_plan_64 : decode cX6_plan 64 = .ok (.aload_n 0, 1) := by decide +kernel
theorem dX6_plan_65 : decode cX6_plan 65 = .ok (.getfield 44, 3) := by decide +kernel
theorem dX6_plan_68 : decode cX6_plan 68 = .ok (.if_icmp .ge 33, 3) := by decide +kernel
theorem dX6_plan_71 : decode cX6_plan 71 = .ok (.aload_n 0, 1) := by decide +kernel
theorem dX6_plan_72 : decode cX6_plan 72 = .ok (.getfield 59, 3) := by decide +kernel
theorem dX6_plan_75 : decode cX6_plan 75 = .ok (.bipush (-2), 2) := by decide +kernel
theorem dX6_plan_77 : decode cX6_plan 77 = .ok (.if_icmp .ne 24, 3) := by decide +kernel
theorem dX6_plan_80 : decode cX6_plan 80 = .ok (.aload_n 0, 1) := by decide +kernel
theorem dX6_plan_81 : decode cX6_plan 81 = .ok (.iload_n 2, 1) := by decide +kernel
theorem dX6_plan_82 : decode cX6_plan 82 = .ok (.invokevirtual 68, 3) := by decide +kernel
theorem dX6_plan_85 : decode cX6_plan 85 = .ok (.ifCond .eq 10, 3) := by decide +kernel
theorem dX6_plan_88 : decode cX6_plan 88 = .ok (.aload_n 0, 1) := by decide +kernel
theorem dX6_plan_89 : decode cX6_plan 89 = .ok (.iload_n 2, 1) := by decide +kernel
theorem dX6_plan_90 : decode cX6_plan 90 = .ok (.iconst 1, 1) := by decide +kernel
theorem dX6_plan_91 : decode cX6_plan 91 = .ok (.iadd, 1) := by decide +kernel
theorem dX6_plan_92 : decode cX6_plan 92 = .ok (.putfield 59, 3) := by decide +kernel
theorem dX6_plan_95 : decode cX6_plan 95 = .ok (.iinc 2 1, 3) := by decide +kernel
theorem dX6_plan_98 : decode cX6_plan 98 = .ok (.goto (-35), 3) := by decide +kernel
theorem dX6_plan_101 : decode cX6_plan 101 = .ok (.aload_n 0, 1) := by decide +kernel
theorem dX6_plan_102 : decode cX6_plan 102 = .ok (.getfield 59, 3) := by decide +kernel
theorem dX6_plan_105 : decode cX6_plan 105 = .ok (.iconst 1, 1) := by decide +kernel
theorem dX6_plan_106 : decode cX6_plan 106 = .ok (.isub, 1) := by decide +kernel
theorem dX6_plan_107 : decode cX6_plan 107 = .ok (.istore_n 2, 1) := by decide +kernel
theorem dX6_plan_108 : decode cX6_plan 108 = .ok (.iload_n 2, 1) := by decide +kernel
theorem dX6_plan_109 : decode cX6_plan 109 = .ok (.ifCond .lt 60, 3) := by decide +kernel
theorem dX6_plan_112 : decode cX6_plan 112 = .ok (.iconst 0, 1) := by decide +kernel
theorem dX6_plan_113 : decode cX6_plan 113 = .ok (.istore_n 3, 1) := by decide +kernel
theorem dX6_plan_114 : decode cX6_plan 114 = .ok (.iload_n 3, 1) := by decide +kernel
theorem dX6_plan_115 : decode cX6_plan 115 = .ok (.sipush 2079, 3) := by decide +kernel
theorem dX6_plan_118 : decode cX6_plan 118 = .ok (.if_icmp .ge 45, 3) := by decide +kernel
theorem dX6_plan_121 : decode cX6_plan 121 = .ok (.aload_n 0, 1) := by decide +kernel
theorem dX6_plan_122 : decode cX6_plan 122 = .ok (.getfield 18, 3) := by decide +kernel
theorem dX6_plan_125 : decode cX6_plan 125 = .ok (.iload_n 3, 1) := by decide +kernel
theorem dX6_plan_126 : decode cX6_plan 126 = .ok (.iaload, 1) := by decide +kernel
theorem dX6_plan_127 : decode cX6_plan 127 = .ok (.iload_n 2, 1) := by decide +kernel
theorem dX6_plan_128 : decode cX6_plan 128 = .ok (.ishr, 1) := by decide +kernel
theorem dX6_plan_129 : decode cX6_plan 129 = .ok (.iconst 1, 1) := by decide +kernel
theorem dX6_plan_130 : decode cX6_plan 130 = .ok (.iand, 1) := by decide +kernel
theorem dX6_plan_131 : decode cX6_plan 131 = .ok (.iconst 1, 1) := by decide +kernel
theorem dX6_plan_132 : decode cX6_plan 132 = .ok (.if_icmp .ne 25, 3) := by decide +kernel
theorem dX6_plan_135 : decode cX6_plan 135 = .ok (.aload_n 0, 1) := by decide +kernel
theorem dX6_plan_136 : decode cX6_plan 136 = .ok (.iload_n 3, 1) := by decide +kernel
theorem dX6_plan_137 : decode cX6_plan 137 = .ok (.iload_n 2, 1) := by decide +kernel
theorem dX6_plan_138 : decode cX6_plan 138 = .ok (.invokevirtual 71, 3) := by decide +kernel
theorem dX6_plan_141 : decode cX6_plan 141 = .ok (.iconst (-1), 1) := by decide +kernel
theorem dX6_plan_142 : decode cX6_plan 142 = .ok (.if_icmp .eq 15, 3) := by decide +kernel
theorem dX6_plan_145 : decode cX6_plan 145 = .ok (.aload_n 0, 1) := by decide +kernel
theorem dX6_plan_146 : decode cX6_plan 146 = .ok (.getfield 21, 3) := by decide +kernel
theorem dX6_plan_149 : decode cX6_plan 149 = .ok (.iload_n 3, 1) := by decide +kernel
theorem dX6_plan_150 : decode cX6_plan 150 = .ok (.dup2, 1) := by decide +kernel
theorem dX6_plan_151 : decode cX6_plan 151 = .ok (.iaload, 1) := by decide +kernel
theorem dX6_plan_152 : decode cX6_plan 152 = .ok (.iconst 1, 1) := by decide +kernel
theorem dX6_plan_153 : decode cX6_plan 153 = .ok (.iload_n 2, 1) := by decide +kernel
theorem dX6_plan_154 : decode cX6_plan 154 = .ok (.ishl, 1) := by decide +kernel
theorem dX6_plan_155 : decode cX6_plan 155 = .ok (.ior, 1) := by decide +kernel
theorem dX6_plan_156 : decode cX6_plan 156 = .ok (.iastore, 1) := by decide +kernel
theorem dX6_plan_157 : decode cX6_plan 157 = .ok (.iinc 3 1, 3) := by decide +kernel
theorem dX6_plan_160 : decode cX6_plan 160 = .ok (.goto (-46), 3) := by decide +kernel
theorem dX6_plan_163 : decode cX6_plan 163 = .ok (.iinc 2 (-1), 3) := by decide +kernel
theorem dX6_plan_166 : decode cX6_plan 166 = .ok (.goto (-58), 3) := by decide +kernel
theorem dX6_plan_169 : decode cX6_plan 169 = .ok (.iload_n 1, 1) := by decide +kernel
theorem dX6_plan_170 : decode cX6_plan 170 = .ok (.istore_n 2, 1) := by decide +kernel
theorem dX6_plan_171 : decode cX6_plan 171 = .ok (.iconst 0, 1) := by decide +kernel
theorem dX6_plan_172 : decode cX6_plan 172 = .ok (.istore_n 3, 1) := by decide +kernel
theorem dX6_plan_173 : decode cX6_plan 173 = .ok (.iload_n 3, 1) := by decide +kernel
theorem dX6_plan_174 : decode cX6_plan 174 = .ok (.aload_n 0, 1) := by decide +kernel
theorem dX6_plan_175 : decode cX6_plan 175 = .ok (.getfield 59, 3) := by decide +kernel
theorem dX6_plan_178 : decode cX6_plan 178 = .ok (.if_icmp .ge 61, 3) := by decide +kernel
theorem dX6_plan_181 : decode cX6_plan 181 = .ok (.iload_n 3, 1) := by decide +kernel
theorem dX6_plan_182 : decode cX6_plan 182 = .ok (.bipush 24, 2) := by decide +kernel
theorem dX6_plan_184 : decode cX6_plan 184 = .ok (.if_icmp .ge 55, 3) := by decide +kernel
theorem dX6_plan_187 : decode cX6_plan 187 = .ok (.iload_n 2, 1) := by decide +kernel
theorem dX6_plan_188 : decode cX6_plan 188 = .ok (.ifCond .lt 51, 3) := by decide +kernel
theorem dX6_plan_191 : decode cX6_plan 191 = .ok (.aload_n 0, 1) := by decide +kernel
theorem dX6_plan_192 : decode cX6_plan 192 = .ok (.iload_n 2, 1) := by decide +kernel
theorem dX6_plan_193 : decode cX6_plan 193 = .ok (.iload_n 3, 1) := by decide +kernel
theorem dX6_plan_194 : decode cX6_plan 194 = .ok (.invokevirtual 71, 3) := by decide +kernel
theorem dX6_plan_197 : decode cX6_plan 197 = .ok (.istore 4, 2) := by decide +kernel
theorem dX6_plan_199 : decode cX6_plan 199 = .ok (.aload_n 0, 1) := by decide +kernel
theorem dX6_plan_200 : decode cX6_plan 200 = .ok (.getfield 15, 3) := by decide +kernel
theorem dX6_plan_203 : decode cX6_plan 203 = .ok (.iload_n 3, 1) := by decide +kernel
theorem dX6_plan_204 : decode cX6_plan 204 = .ok (.iload 4, 2) := by decide +kernel
theorem dX6_plan_206 : decode cX6_plan 206 = .ok (.iastore, 1) := by decide +kernel
theorem dX6_plan_207 : decode cX6_plan 207 = .ok (.iload 4, 2) := by decide +kernel
theorem dX6_plan_209 : decode cX6_plan 209 = .ok (.ifCond .ge 7, 3) := by decide +kernel
theorem dX6_plan_212 : decode cX6_plan 212 = .ok (.iconst (-1), 1) := by decide +kernel
theorem dX6_plan_213 : decode cX6_plan 213 = .ok (.goto 19, 3) := by decide +kernel
theorem dX6_plan_216 : decode cX6_plan 216 = .ok (.aload_n 0, 1) := by decide +kernel
theorem dX6_plan_217 : decode cX6_plan 217 = .ok (.getfield 36, 3) := by decide +kernel
theorem dX6_plan_220 : decode cX6_plan 220 = .ok (.iload_n 2, 1) := by decide +kernel
theorem dX6_plan_221 : decode cX6_plan 221 = .ok (.iload 4, 2) := by decide +kernel
theorem dX6_plan_223 : decode cX6_plan 223 = .ok (.aload_n 0, 1) := by decide +kernel
theorem dX6_plan_224 : decode cX6_plan 224 = .ok (.getfield 11, 3) := by decide +kernel
theorem dX6_plan_227 : decode cX6_plan 227 = .ok (.iload_n 3, 1) := by decide +kernel
theorem dX6_plan_228 : decode cX6_plan 228 = .ok (.iaload, 1) := by decide +kernel
theorem dX6_plan_229 : decode cX6_plan 229 = .ok (.invokevirtual 75, 3) := by decide +kernel
theorem dX6_plan_232 : decode cX6_plan 232 = .ok (.istore_n 2, 1) := by decide +kernel
theorem dX6_plan_233 : decode cX6_plan 233 = .ok (.iinc 3 1, 3) := by decide +kernel
theorem dX6_plan_236 : decode cX6_plan 236 = .ok (.goto (-63), 3) := by decide +kernel
theorem dX6_plan_239 : decode cX6_plan 239 = .ok (.return_, 1) := by decide +kernel
theorem dX6_goForwards_0 : decode cX6_goForwards 0 = .ok (.iconst 0, 1) := by decide +kernel
theorem dX6_goForwards_1 : decode cX6_goForwards 1 = .ok (.istore_n 2, 1) := by decide +kernel
theorem dX6_goForwards_2 : decode cX6_goForwards 2 = .ok (.iconst 0, 1) := by decide +kernel
theorem dX6_goForwards_3 : decode cX6_goForwards 3 = .ok (.istore_n 3, 1) := by decide +kernel
theorem dX6_goForwards_4 : decode cX6_goForwards 4 = .ok (.iload_n 3, 1) := by decide +kernel
theorem dX6_goForwards_5 : decode cX6_goForwards 5 = .ok (.sipush 2079, 3) := by decide +kernel
theorem dX6_goForwards_8 : decode cX6_goForwards 8 = .ok (.if_icmp .ge 131, 3) := by decide +kernel
theorem dX6_goForwards_11 : decode cX6_goForwards 11 = .ok (.aload_n 0, 1) := by decide +kernel
theorem dX6_goForwards_12 : decode cX6_goForwards 12 = .ok (.getfield 18, 3) := by decide +kernel
theorem dX6_goForwards_15 : decode cX6_goForwards 15 = .ok (.iload_n 3, 1) := by decide +kernel
theorem dX6_goForwards_16 : decode cX6_goForwards 16 = .ok (.iaload, 1) := by decide +kernel
theorem dX6_goForwards_17 : decode cX6_goForwards 17 = .ok (.iload_n 1, 1) := by decide +kernel
theorem dX6_goForwards_18 : decode cX6_goForwards 18 = .ok (.ishr, 1) := by decide +kernel
theorem dX6_goForwards_19 : decode cX6_goForwards 19 = .ok (.iconst 1, 1) := by decide +kernel
theorem dX6_goForwards_20 : decode cX6_goForwards 20 = .ok (.iand, 1) := by decide +kernel
theorem dX6_goForwards_21 : decode cX6_goForwards 21 = .ok (.iconst 1, 1) := by decide +kernel
theorem dX6_goForwards_22 : decode cX6_goForwards 22 = .ok (.if_icmp .ne 14, 3) := by decide +kernel
theorem dX6_goForwards_25 : decode cX6_goForwards 25 = .ok (.aload_n 0, 1) := by decide +kernel
theorem dX6_goForwards_26 : decode cX6_goForwards 26 = .ok (.getfield 36, 3) := by decide +kernel
theorem dX6_goForwards_29 : decode cX6_goForwards 29 = .ok (.iload_n 3, 1) := by decide +kernel
theorem dX6_goForwards_30 : decode cX6_goForwards 30 = .ok (.invokevirtual 79, 3) := by decide +kernel
theorem dX6_goForwards_33 : decode cX6_goForwards 33 = .ok (.goto 4, 3) := by decide +kernel
theorem dX6_goForwards_36 : decode cX6_goForwards 36 = .ok (.iconst 0, 1) := by decide +kernel
theorem dX6_goForwards_37 : decode cX6_goForwards 37 = .ok (.istore 4, 2) := by decide +kernel
theorem dX6_goForwards_39 : decode cX6_goForwards 39 = .ok (.iconst 0, 1) := by decide +kernel
theorem dX6_goForwards_40 : decode cX6_goForwards 40 = .ok (.istore 5, 2) := by decide +kernel
theorem dX6_goForwards_42 : decode cX6_goForwards 42 = .ok (.iload 5, 2) := by decide +kernel
theorem dX6_goForwards_44 : decode cX6_goForwards 44 = .ok (.bipush 6, 2) := by decide +kernel
theorem dX6_goForwards_46 : decode cX6_goForwards 46 = .ok (.if_icmp .ge 87, 3) := by decide +kernel
theorem dX6_goForwards_49 : decode cX6_goForwards 49 = .ok (.iload 4, 2) := by decide +kernel
theorem dX6_goForwards_51 : decode cX6_goForwards 51 = .ok (.iload 5, 2) := by decide +kernel
theorem dX6_goForwards_53 : decode cX6_goForwards 53 = .ok (.ishr, 1) := by decide +kernel
theorem dX6_goForwards_54 : decode cX6_goForwards 54 = .ok (.iconst 1, 1) := by decide +kernel
theorem dX6_goForwards_55 : decode cX6_goForwards 55 = .ok (.iand, 1) := by decide +kernel
theorem dX6_goForwards_56 : decode cX6_goForwards 56 = .ok (.iconst 1, 1) := by decide +kernel
theorem dX6_goForwards_57 : decode cX6_goForwards 57 = .ok (.if_icmp .ne 22, 3) := by decide +kernel
theorem dX6_goForwards_60 : decode cX6_goForwards 60 = .ok (.aload_n 0, 1) := by decide +kernel
theorem dX6_goForwards_61 : decode cX6_goForwards 61 = .ok (.getfield 36, 3) := by decide +kernel
theorem dX6_goForwards_64 : decode cX6_goForwards 64 = .ok (.iload_n 3, 1) := by decide +kernel
theorem dX6_goForwards_65 : decode cX6_goForwards 65 = .ok (.iload 5, 2) := by decide +kernel
theorem dX6_goForwards_67 : decode cX6_goForwards 67 = .ok (.aload_n 0, 1) := by decide +kernel
theorem dX6_goForwards_68 : decode cX6_goForwards 68 = .ok (.getfield 11, 3) := by decide +kernel
theorem dX6_goForwards_71 : decode cX6_goForwards 71 = .ok (.iload_n 1, 1) := by decide +kernel
theorem dX6_goForwards_72 : decode cX6_goForwards 72 = .ok (.iaload, 1) := by decide +kernel
theorem dX6_goForwards_73 : decode cX6_goForwards 73 = .ok (.invokevirtual 75, 3) := by decide +kernel
theorem dX6_goForwards_76 : decode cX6_goForwards 76 = .ok (.goto 4, 3) := by decide +kernel
theorem dX6_goForwards_79 : decode cX6_goForwards 79 = .ok (.iconst (-1), 1) := by decide +kernel
theorem dX6_goForwards_80 : decode cX6_goForwards 80 = .ok (.istore 6, 2) := by decide +kernel
theorem dX6_goForwards_82 : decode cX6_goForwards 82 = .ok (.iload 6, 2) := by decide +kernel
theorem dX6_goForwards_84 : decode cX6_goForwards 84 = .ok (.ifCond .lt 43, 3) := by decide +kernel
theorem dX6_goForwards_87 : decode cX6_goForwards 87 = .ok (.aload_n 0, 1) := by decide +kernel
theorem dX6_goForwards_88 : decode cX6_goForwards 88 = .ok (.getfield 18, 3) := by decide +kernel
theorem dX6_goForwards_91 : decode cX6_goForwards 91 = .ok (.iload 6, 2) := by decide +kernel
theorem dX6_goForwards_93 : decode cX6_goForwards 93 = .ok (.dup2, 1) := by decide +kernel
theorem dX6_goForwards_94 : decode cX6_goForwards 94 = .ok (.iaload, 1) := by decide +kernel
theorem dX6_goForwards_95 : decode cX6_goForwards 95 = .ok (.iconst 1, 1) := by decide +kernel
theorem dX6_goForwards_96 : decode cX6_goForwards 96 = .ok (.iload_n 1, 1) := by decide +kernel
theorem dX6_goForwards_97 : decode cX6_goForwards 97 = .ok (.iconst 1, 1) := by decide +kernel
theorem dX6_goForwards_98 : decode cX6_goForwards 98 = .ok (.iadd, 1) := by decide +kernel
theorem dX6_goForwards_99 : decode cX6_goForwards 99 = .ok (.ishl, 1) := by decide +kernel
theorem dX6_goForwards_100 : decode cX6_goForwards 100 = .ok (.ior, 1) := by decide +kernel
theorem dX6_goForwards_101 : decode cX6_goForwards 101 = .ok (.iastore, 1) := by decide +kernel
theorem dX6_goForwards_102 : decode cX6_goForwards 102 = .ok (.iload_n 2, 1) := by decide +kernel
theorem dX6_goForwards_103 : decode cX6_goForwards 103 = .ok (.ifCond .ne 18, 3) := by decide +kernel
theorem dX6_goForwards_106 : decode cX6_goForwards 106 = .ok (.aload_n 0, 1) := by decide +kernel
theorem dX6_goForwards_107 : decode cX6_goForwards 107 = .ok (.getfield 36, 3) := by decide +kernel
theorem dX6_goForwards_110 : decode cX6_goForwards 110 = .ok (.getfield 47, 3) := by decide +kernel
theorem dX6_goForwards_113 : decode cX6_goForwards 113 = .ok (.iload 6, 2) := by decide +kernel
theorem dX6_goForwards_115 : decode cX6_goForwards 115 = .ok (.invokevirtual 53, 3) := by decide +kernel
theorem dX6_goForwards_118 : decode cX6_goForwards 118 = .ok (.ifCond .eq 7, 3) := by decide +kernel
theorem dX6_goForwards_121 : decode cX6_goForwards 121 = .ok (.iconst 1, 1) := by decide +kernel
theorem dX6_goForwards_122 : decode cX6_goForwards 122 = .ok (.goto 4, 3) := by decide +kernel
theorem dX6_goForwards_125 : decode cX6_goForwards 125 = .ok (.iconst 0, 1) := by decide +kernel
theorem dX6_goForwards_126 : decode cX6_goForwards 126 = .ok (.istore_n 2, 1) := by decide +kernel
theorem dX6_goForwards_127 : decode cX6_goForwards 127 = .ok (.iinc 5 1, 3) := by decide +kernel
theorem dX6_goForwards_130 : decode cX6_goForwards 130 = .ok (.goto (-88), 3) := by decide +kernel
theorem dX6_goForwards_133 : decode cX6_goForwards 133 = .ok (.iinc 3 1, 3) := by decide +kernel
theorem dX6_goForwards_136 : decode cX6_goForwards 136 = .ok (.goto (-132), 3) := by decide +kernel
theorem dX6_goForwards_139 : decode cX6_goForwards 139 = .ok (.iload_n 2, 1) := by decide +kernel
theorem dX6_goForwards_140 : decode cX6_goForwards 140 = .ok (.ireturn, 1) := by decide +kernel
theorem dX6_goodAct_0 : decode cX6_goodAct 0 = .ok (.aload_n 0, 1) := by decide +kernel
theorem dX6_goodAct_1 : decode cX6_goodAct 1 = .ok (.getfield 36, 3) := by decide +kernel
theorem dX6_goodAct_4 : decode cX6_goodAct 4 = .ok (.iload_n 1, 1) := by decide +kernel
theorem dX6_goodAct_5 : decode cX6_goodAct 5 = .ok (.invokevirtual 79, 3) := by decide +kernel
theorem dX6_goodAct_8 : decode cX6_goodAct 8 = .ok (.istore_n 3, 1) := by decide +kernel
theorem dX6_goodAct_9 : decode cX6_goodAct 9 = .ok (.iconst 0, 1) := by decide +kernel
theorem dX6_goodAct_10 : decode cX6_goodAct 10 = .ok (.istore 4, 2) := by decide +kernel
theorem dX6_goodAct_12 : decode cX6_goodAct 12 = .ok (.iload 4, 2) := by decide +kernel
theorem dX6_goodAct_14 : decode cX6_goodAct 14 = .ok (.bipush 6, 2) := by decide +kernel
theorem dX6_goodAct_16 : decode cX6_goodAct 16 = .ok (.if_icmp .ge 94, 3) := by decide +kernel
theorem dX6_goodAct_19 : decode cX6_goodAct 19 = .ok (.iload_n 3, 1) := by decide +kernel
theorem dX6_goodAct_20 : decode cX6_goodAct 20 = .ok (.iload 4, 2) := by decide +kernel
theorem dX6_goodAct_22 : decode cX6_goodAct 22 = .ok (.ishr, 1) := by decide +kernel
theorem dX6_goodAct_23 : decode cX6_goodAct 23 = .ok (.iconst 1, 1) := by decide +kernel
theorem dX6_goodAct_24 : decode cX6_goodAct 24 = .ok (.iand, 1) := by decide +kernel
theorem dX6_goodAct_25 : decode cX6_goodAct 25 = .ok (.iconst 1, 1) := by decide +kernel
theorem dX6_goodAct_26 : decode cX6_goodAct 26 = .ok (.if_icmp .ne 22, 3) := by decide +kernel
theorem dX6_goodAct_29 : decode cX6_goodAct 29 = .ok (.aload_n 0, 1) := by decide +kernel
theorem dX6_goodAct_30 : decode cX6_goodAct 30 = .ok (.getfield 36, 3) := by decide +kernel
theorem dX6_goodAct_33 : decode cX6_goodAct 33 = .ok (.iload_n 1, 1) := by decide +kernel
theorem dX6_goodAct_34 : decode cX6_goodAct 34 = .ok (.iload 4, 2) := by decide +kernel
theorem dX6_goodAct_36 : decode cX6_goodAct 36 = .ok (.aload_n 0, 1) := by decide +kernel
theorem dX6_goodAct_37 : decode cX6_goodAct 37 = .ok (.getfield 11, 3) := by decide +kernel
theorem dX6_goodAct_40 : decode cX6_goodAct 40 = .ok (.iload_n 2, 1) := by decide +kernel
theorem dX6_goodAct_41 : decode cX6_goodAct 41 = .ok (.iaload, 1) := by decide +kernel
theorem dX6_goodAct_42 : decode cX6_goodAct 42 = .ok (.invokevirtual 75, 3) := by decide +kernel
theorem dX6_goodAct_45 : decode cX6_goodAct 45 = .ok (.goto 4, 3) := by decide +kernel
theorem dX6_goodAct_48 : decode cX6_goodAct 48 = .ok (.iconst (-1), 1) := by decide +kernel
theorem dX6_goodAct_49 : decode cX6_goodAct 49 = .ok (.istore 5, 2) := by decide +kernel
theorem dX6_goodAct_51 : decode cX6_goodAct 51 = .ok (.iload 5, 2) := by decide +kernel
theorem dX6_goodAct_53 : decode cX6_goodAct 53 = .ok (.ifCond .lt 51, 3) := by decide +kernel
theorem dX6_goodAct_56 : decode cX6_goodAct 56 = .ok (.iload_n 2, 1) := by decide +kernel
theorem dX6_goodAct_57 : decode cX6_goodAct 57 = .ok (.iconst 1, 1) := by decide +kernel
theorem dX6_goodAct_58 : decode cX6_goodAct 58 = .ok (.iadd, 1) := by decide +kernel
theorem dX6_goodAct_59 : decode cX6_goodAct 59 = .ok (.aload_n 0, 1) := by decide +kernel
theorem dX6_goodAct_60 : decode cX6_goodAct 60 = .ok (.getfield 59, 3) := by decide +kernel
theorem dX6_goodAct_63 : decode cX6_goodAct 63 = .ok (.if_icmp .ne 21, 3) := by decide +kernel
theorem dX6_goodAct_66 : decode cX6_goodAct 66 = .ok (.aload_n 0, 1) := by decide +kernel
theorem dX6_goodAct_67 : decode cX6_goodAct 67 = .ok (.getfield 36, 3) := by decide +kernel
theorem dX6_goodAct_70 : decode cX6_goodAct 70 = .ok (.getfield 47, 3) := by decide +kernel
theorem dX6_goodAct_73 : decode cX6_goodAct 73 = .ok (.iload 5, 2) := by decide +kernel
theorem dX6_goodAct_75 : decode cX6_goodAct 75 = .ok (.invokevirtual 53, 3) := by decide +kernel
theorem dX6_goodAct_78 : decode cX6_goodAct 78 = .ok (.ifCond .eq 26, 3) := by decide +kernel
theorem dX6_goodAct_81 : decode cX6_goodAct 81 = .ok (.goto 20, 3) := by decide +kernel
theorem dX6_goodAct_84 : decode cX6_goodAct 84 = .ok (.aload_n 0, 1) := by decide +kernel
theorem dX6_goodAct_85 : decode cX6_goodAct 85 = .ok (.getfield 21, 3) := by decide +kernel
theorem dX6_goodAct_88 : decode cX6_goodAct 88 = .ok (.iload 5, 2) := by decide +kernel
theorem dX6_goodAct_90 : decode cX6_goodAct 90 = .ok (.iaload, 1) := by decide +kernel
theorem dX6_goodAct_91 : decode cX6_goodAct 91 = .ok (.iload_n 2, 1) := by decide +kernel
theorem dX6_goodAct_92 : decode cX6_goodAct 92 = .ok (.iconst 1, 1) := by decide +kernel
theorem dX6_goodAct_93 : decode cX6_goodAct 93 = .ok (.iadd, 1) := by decide +kernel
theorem dX6_goodAct_94 : decode cX6_goodAct 94 = .ok (.ishr, 1) := by decide +kernel
theorem dX6_goodAct_95 : decode cX6_goodAct 95 = .ok (.iconst 1, 1) := by decide +kernel
theorem dX6_goodAct_96 : decode cX6_goodAct 96 = .ok (.iand, 1) := by decide +kernel
theorem dX6_goodAct_97 : decode cX6_goodAct 97 = .ok (.iconst 1, 1) := by decide +kernel
theorem dX6_goodAct_98 : decode cX6_goodAct 98 = .ok (.if_icmp .ne 6, 3) := by decide +kernel
theorem dX6_goodAct_101 : decode cX6_goodAct 101 = .ok (.iload 4, 2) := by decide +kernel
theorem dX6_goodAct_103 : decode cX6_goodAct 103 = .ok (.ireturn, 1) := by decide +kernel
theorem dX6_goodAct_104 : decode cX6_goodAct 104 = .ok (.iinc 4 1, 3) := by decide +kernel
theorem dX6_goodAct_107 : decode cX6_goodAct 107 = .ok (.goto (-95), 3) := by decide +kernel
theorem dX6_goodAct_110 : decode cX6_goodAct 110 = .ok (.iconst (-1), 1) := by decide +kernel
theorem dX6_goodAct_111 : decode cX6_goodAct 111 = .ok (.ireturn, 1) := by decide +kernel
theorem dX6_plannedAct_0 : decode cX6_plannedAct 0 = .ok (.iload_n 1, 1) := by decide +kernel
theorem dX6_plannedAct_1 : decode cX6_plannedAct 1 = .ok (.ifCond .lt 26, 3) := by decide +kernel
theorem dX6_plannedAct_4 : decode cX6_plannedAct 4 = .ok (.iload_n 1, 1) := by decide +kernel
theorem dX6_plannedAct_5 : decode cX6_plannedAct 5 = .ok (.aload_n 0, 1) := by decide +kernel
theorem dX6_plannedAct_6 : decode cX6_plannedAct 6 = .ok (.getfield 59, 3) := by decide +kernel
theorem dX6_plannedAct_9 : decode cX6_plannedAct 9 = .ok (.if_icmp .ge 18, 3) := by decide +kernel
theorem dX6_plannedAct_12 : decode cX6_plannedAct 12 = .ok (.iload_n 1, 1) := by decide +kernel
theorem dX6_plannedAct_13 : decode cX6_plannedAct 13 = .ok (.bipush 24, 2) := by decide +kernel
theorem dX6_plannedAct_15 : decode cX6_plannedAct 15 = .ok (.if_icmp .ge 12, 3) := by decide +kernel
theorem dX6_plannedAct_18 : decode cX6_plannedAct 18 = .ok (.aload_n 0, 1) := by decide +kernel
theorem dX6_plannedAct_19 : decode cX6_plannedAct 19 = .ok (.getfield 15, 3) := by decide +kernel
theorem dX6_plannedAct_22 : decode cX6_plannedAct 22 = .ok (.iload_n 1, 1) := by decide +kernel
theorem dX6_plannedAct_23 : decode cX6_plannedAct 23 = .ok (.iaload, 1) := by decide +kernel
theorem dX6_plannedAct_24 : decode cX6_plannedAct 24 = .ok (.goto 4, 3) := by decide +kernel
theorem dX6_plannedAct_27 : decode cX6_plannedAct 27 = .ok (.iconst (-1), 1) := by decide +kernel
theorem dX6_plannedAct_28 : decode cX6_plannedAct 28 = .ok (.ireturn, 1) := by decide +kernel
theorem dX6_blindRows_0 : decode cX6_blindRows 0 = .ok (.aload_n 0, 1) := by decide +kernel
theorem dX6_blindRows_1 : decode cX6_blindRows 1 = .ok (.getfield 27, 3) := by decide +kernel
theorem dX6_blindRows_4 : decode cX6_blindRows 4 = .ok (.iconst 0, 1) := by decide +kernel
theorem dX6_blindRows_5 : decode cX6_blindRows 5 = .ok (.iload_n 1, 1) := by decide +kernel
theorem dX6_blindRows_6 : decode cX6_blindRows 6 = .ok (.iastore, 1) := by decide +kernel
theorem dX6_blindRows_7 : decode cX6_blindRows 7 = .ok (.aload_n 0, 1) := by decide +kernel
theorem dX6_blindRows_8 : decode cX6_blindRows 8 = .ok (.getfield 30, 3) := by decide +kernel
theorem dX6_blindRows_11 : decode cX6_blindRows 11 = .ok (.iconst 0, 1) := by decide +kernel
theorem dX6_blindRows_12 : decode cX6_blindRows 12 = .ok (.aload_n 0, 1) := by decide +kernel
theorem dX6_blindRows_13 : decode cX6_blindRows 13 = .ok (.getfield 36, 3) := by decide +kernel
theorem dX6_blindRows_16 : decode cX6_blindRows 16 = .ok (.getfield 47, 3) := by decide +kernel
theorem dX6_blindRows_19 : decode cX6_blindRows 19 = .ok (.iload_n 1, 1) := by decide +kernel
theorem dX6_blindRows_20 : decode cX6_blindRows 20 = .ok (.invokevirtual 53, 3) := by decide +kernel
theorem dX6_blindRows_23 : decode cX6_blindRows 23 = .ok (.ifCond .eq 7, 3) := by decide +kernel
theorem dX6_blindRows_26 : decode cX6_blindRows 26 = .ok (.iconst 0, 1) := by decide +kernel
theorem dX6_blindRows_27 : decode cX6_blindRows 27 = .ok (.goto 4, 3) := by decide +kernel
theorem dX6_blindRows_30 : decode cX6_blindRows 30 = .ok (.iconst 1, 1) := by decide +kernel
theorem dX6_blindRows_31 : decode cX6_blindRows 31 = .ok (.iastore, 1) := by decide +kernel
theorem dX6_blindRows_32 : decode cX6_blindRows 32 = .ok (.aload_n 0, 1) := by decide +kernel
theorem dX6_blindRows_33 : decode cX6_blindRows 33 = .ok (.iconst 0, 1) := by decide +kernel
theorem dX6_blindRows_34 : decode cX6_blindRows 34 = .ok (.iload_n 2, 1) := by decide +kernel
theorem dX6_blindRows_35 : decode cX6_blindRows 35 = .ok (.iload_n 3, 1) := by decide +kernel
theorem dX6_blindRows_36 : decode cX6_blindRows 36 = .ok (.invokevirtual 83, 3) := by decide +kernel
theorem dX6_blindRows_39 : decode cX6_blindRows 39 = .ok (.ireturn, 1) := by decide +kernel
theorem dX6_rowsFrom_0 : decode cX6_rowsFrom 0 = .ok (.iload_n 1, 1) := by decide +kernel
theorem dX6_rowsFrom_1 : decode cX6_rowsFrom 1 = .ok (.iload_n 2, 1) := by decide +kernel
theorem dX6_rowsFrom_2 : decode cX6_rowsFrom 2 = .ok (.if_icmp .ge 8, 3) := by decide +kernel
theorem dX6_rowsFrom_5 : decode cX6_rowsFrom 5 = .ok (.iload_n 1, 1) := by decide +kernel
theorem dX6_rowsFrom_6 : decode cX6_rowsFrom 6 = .ok (.iconst 4, 1) := by decide +kernel
theorem dX6_rowsFrom_7 : decode cX6_rowsFrom 7 = .ok (.if_icmp .lt 5, 3) := by decide +kernel
theorem dX6_rowsFrom_10 : decode cX6_rowsFrom 10 = .ok (.iconst 1, 1) := by decide +kernel
theorem dX6_rowsFrom_11 : decode cX6_rowsFrom 11 = .ok (.ireturn, 1) := by decide +kernel
theorem dX6_rowsFrom_12 : decode cX6_rowsFrom 12 = .ok (.iconst 0, 1) := by decide +kernel
theorem dX6_rowsFrom_13 : decode cX6_rowsFrom 13 = .ok (.istore 4, 2) := by decide +kernel
theorem dX6_rowsFrom_15 : decode cX6_rowsFrom 15 = .ok (.iconst 0, 1) := by decide +kernel
theorem dX6_rowsFrom_16 : decode cX6_rowsFrom 16 = .ok (.istore 5, 2) := by decide +kernel
theorem dX6_rowsFrom_18 : decode cX6_rowsFrom 18 = .ok (.iload 5, 2) := by decide +kernel
theorem dX6_rowsFrom_20 : decode cX6_rowsFrom 20 = .ok (.aload_n 0, 1) := by decide +kernel
theorem dX6_rowsFrom_21 : decode cX6_rowsFrom 21 = .ok (.getfield 36, 3) := by decide +kernel
theorem dX6_rowsFrom_24 : decode cX6_rowsFrom 24 = .ok (.getfield 47, 3) := by decide +kernel
theorem dX6_rowsFrom_27 : decode cX6_rowsFrom 27 = .ok (.getfield 87, 3) := by decide +kernel
theorem dX6_rowsFrom_30 : decode cX6_rowsFrom 30 = .ok (.if_icmp .ge 50, 3) := by decide +kernel
theorem dX6_rowsFrom_33 : decode cX6_rowsFrom 33 = .ok (.iload_n 3, 1) := by decide +kernel
theorem dX6_rowsFrom_34 : decode cX6_rowsFrom 34 = .ok (.ifCond .eq 8, 3) := by decide +kernel
theorem dX6_rowsFrom_37 : decode cX6_rowsFrom 37 = .ok (.iload 4, 2) := by decide +kernel
theorem dX6_rowsFrom_39 : decode cX6_rowsFrom 39 = .ok (.ifCond .gt 41, 3) := by decide +kernel
theorem dX6_rowsFrom_42 : decode cX6_rowsFrom 42 = .ok (.aload_n 0, 1) := by decide +kernel
theorem dX6_rowsFrom_43 : decode cX6_rowsFrom 43 = .ok (.iload_n 1, 1) := by decide +kernel
theorem dX6_rowsFrom_44 : decode cX6_rowsFrom 44 = .ok (.iload 5, 2) := by decide +kernel
theorem dX6_rowsFrom_46 : decode cX6_rowsFrom 46 = .ok (.invokevirtual 90, 3) := by decide +kernel
theorem dX6_rowsFrom_49 : decode cX6_rowsFrom 49 = .ok (.ifCond .eq 25, 3) := by decide +kernel
theorem dX6_rowsFrom_52 : decode cX6_rowsFrom 52 = .ok (.aload_n 0, 1) := by decide +kernel
theorem dX6_rowsFrom_53 : decode cX6_rowsFrom 53 = .ok (.getfield 24, 3) := by decide +kernel
theorem dX6_rowsFrom_56 : decode cX6_rowsFrom 56 = .ok (.iload_n 1, 1) := by decide +kernel
theorem dX6_rowsFrom_57 : decode cX6_rowsFrom 57 = .ok (.iload 5, 2) := by decide +kernel
theorem dX6_rowsFrom_59 : decode cX6_rowsFrom 59 = .ok (.iastore, 1) := by decide +kernel
theorem dX6_rowsFrom_60 : decode cX6_rowsFrom 60 = .ok (.iload 4, 2) := by decide +kernel
theorem dX6_rowsFrom_62 : decode cX6_rowsFrom 62 = .ok (.aload_n 0, 1) := by decide +kernel
theorem dX6_rowsFrom_63 : decode cX6_rowsFrom 63 = .ok (.iload_n 1, 1) := by decide +kernel
theorem dX6_rowsFrom_64 : decode cX6_rowsFrom 64 = .ok (.iconst 1, 1) := by decide +kernel
theorem dX6_rowsFrom_65 : decode cX6_rowsFrom 65 = .ok (.iadd, 1) := by decide +kernel
theorem dX6_rowsFrom_66 : decode cX6_rowsFrom 66 = .ok (.iload_n 2, 1) := by decide +kernel
theorem dX6_rowsFrom_67 : decode cX6_rowsFrom 67 = .ok (.iload_n 3, 1) := by decide +kernel
theorem dX6_rowsFrom_68 : decode cX6_rowsFrom 68 = .ok (.invokevirtual 83, 3) := by decide +kernel
theorem dX6_rowsFrom_71 : decode cX6_rowsFrom 71 = .ok (.iadd, 1) := by decide +kernel
theorem dX6_rowsFrom_72 : decode cX6_rowsFrom 72 = .ok (.istore 4, 2) := by decide +kernel
theorem dX6_rowsFrom_74 : decode cX6_rowsFrom 74 = .ok (.iinc 5 1, 3) := by decide +kernel
theorem dX6_rowsFrom_77 : decode cX6_rowsFrom 77 = .ok (.goto (-59), 3) := by decide +kernel
theorem dX6_rowsFrom_80 : decode cX6_rowsFrom 80 = .ok (.iload 4, 2) := by decide +kernel
theorem dX6_rowsFrom_82 : decode cX6_rowsFrom 82 = .ok (.ireturn, 1) := by decide +kernel
theorem dX6_allGoOn_0 : decode cX6_allGoOn 0 = .ok (.aload_n 0, 1) := by decide +kernel
theorem dX6_allGoOn_1 : decode cX6_allGoOn 1 = .ok (.dup, 1) := by decide +kernel
theorem dX6_allGoOn_2 : decode cX6_allGoOn 2 = .ok (.getfield 94, 3) := by decide +kernel
theorem dX6_allGoOn_5 : decode cX6_allGoOn 5 = .ok (.iconst 1, 1) := by decide +kernel
theorem dX6_allGoOn_6 : decode cX6_allGoOn 6 = .ok (.iadd, 1) := by decide +kernel
theorem dX6_allGoOn_7 : decode cX6_allGoOn 7 = .ok (.putfield 94, 3) := by decide +kernel
theorem dX6_allGoOn_10 : decode cX6_allGoOn 10 = .ok (.aload_n 0, 1) := by decide +kernel
theorem dX6_allGoOn_11 : decode cX6_allGoOn 11 = .ok (.getfield 30, 3) := by decide +kernel
theorem dX6_allGoOn_14 : decode cX6_allGoOn 14 = .ok (.iload_n 1, 1) := by decide +kernel
theorem dX6_allGoOn_15 : decode cX6_allGoOn 15 = .ok (.iconst 1, 1) := by decide +kernel
theorem dX6_allGoOn_16 : decode cX6_allGoOn 16 = .ok (.iadd, 1) := by decide +kernel
theorem dX6_allGoOn_17 : decode cX6_allGoOn 17 = .ok (.iconst 0, 1) := by decide +kernel
theorem dX6_allGoOn_18 : decode cX6_allGoOn 18 = .ok (.iastore, 1) := by decide +kernel
theorem dX6_allGoOn_19 : decode cX6_allGoOn 19 = .ok (.iconst 0, 1) := by decide +kernel
theorem dX6_allGoOn_20 : decode cX6_allGoOn 20 = .ok (.istore_n 3, 1) := by decide +kernel
theorem dX6_allGoOn_21 : decode cX6_allGoOn 21 = .ok (.iload_n 3, 1) := by decide +kernel
theorem dX6_allGoOn_22 : decode cX6_allGoOn 22 = .ok (.aload_n 0, 1) := by decide +kernel
theorem dX6_allGoOn_23 : decode cX6_allGoOn 23 = .ok (.getfield 30, 3) := by decide +kernel
theorem dX6_allGoOn_26 : decode cX6_allGoOn 26 = .ok (.iload_n 1, 1) := by decide +kernel
theorem dX6_allGoOn_27 : decode cX6_allGoOn 27 = .ok (.iaload, 1) := by decide +kernel
theorem dX6_allGoOn_28 : decode cX6_allGoOn 28 = .ok (.if_icmp .ge 177, 3) := by decide +kernel
theorem dX6_allGoOn_31 : decode cX6_allGoOn 31 = .ok (.aload_n 0, 1) := by decide +kernel
theorem dX6_allGoOn_32 : decode cX6_allGoOn 32 = .ok (.getfield 27, 3) := by decide +kernel
theorem dX6_allGoOn_35 : decode cX6_allGoOn 35 = .ok (.iload_n 1, 1) := by decide +kernel
theorem dX6_allGoOn_36 : decode cX6_allGoOn 36 = .ok (.sipush 2079, 3) := by decide +kernel
theorem dX6_allGoOn_39 : decode cX6_allGoOn 39 = .ok (.imul, 1) := by decide +kernel
theorem dX6_allGoOn_40 : decode cX6_allGoOn 40 = .ok (.iload_n 3, 1) := by decide +kernel
theorem dX6_allGoOn_41 : decode cX6_allGoOn 41 = .ok (.iadd, 1) := by decide +kernel
theorem dX6_allGoOn_42 : decode cX6_allGoOn 42 = .ok (.iaload, 1) := by decide +kernel
theorem dX6_allGoOn_43 : decode cX6_allGoOn 43 = .ok (.istore 4, 2) := by decide +kernel
theorem dX6_allGoOn_45 : decode cX6_allGoOn 45 = .ok (.aload_n 0, 1) := by decide +kernel
theorem dX6_allGoOn_46 : decode cX6_allGoOn 46 = .ok (.getfield 36, 3) := by decide +kernel
theorem dX6_allGoOn_49 : decode cX6_allGoOn 49 = .ok (.iload 4, 2) := by decide +kernel
theorem dX6_allGoOn_51 : decode cX6_allGoOn 51 = .ok (.iload_n 2, 1) := by decide +kernel
theorem dX6_allGoOn_52 : decode cX6_allGoOn 52 = .ok (.invokevirtual 97, 3) := by decide +kernel
theorem dX6_allGoOn_55 : decode cX6_allGoOn 55 = .ok (.ifCond .ne 5, 3) := by decide +kernel
theorem dX6_allGoOn_58 : decode cX6_allGoOn 58 = .ok (.iconst 0, 1) := by decide +kernel
theorem dX6_allGoOn_59 : decode cX6_allGoOn 59 = .ok (.ireturn, 1) := by decide +kernel
theorem dX6_allGoOn_60 : decode cX6_allGoOn 60 = .ok (.aload_n 0, 1) := by decide +kernel
theorem dX6_allGoOn_61 : decode cX6_allGoOn 61 = .ok (.getfield 36, 3) := by decide +kernel
theorem dX6_allGoOn_64 : decode cX6_allGoOn 64 = .ok (.iload 4, 2) := by decide +kernel
theorem dX6_allGoOn_66 : decode cX6_allGoOn 66 = .ok (.invokevirtual 100, 3) := by decide +kernel
theorem dX6_allGoOn_69 : decode cX6_allGoOn 69 = .ok (.istore 5, 2) := by decide +kernel
theorem dX6_allGoOn_71 : decode cX6_allGoOn 71 = .ok (.iload 5, 2) := by decide +kernel
theorem dX6_allGoOn_73 : decode cX6_allGoOn 73 = .ok (.aload_n 0, 1) := by decide +kernel
theorem dX6_allGoOn_74 : decode cX6_allGoOn 74 = .ok (.getfield 36, 3) := by decide +kernel
theorem dX6_allGoOn_77 : decode cX6_allGoOn 77 = .ok (.iload 4, 2) := by decide +kernel
theorem dX6_allGoOn_79 : decode cX6_allGoOn 79 = .ok (.invokevirtual 103, 3) := by decide +kernel
theorem dX6_allGoOn_82 : decode cX6_allGoOn 82 = .ok (.if_icmp .gt 117, 3) := by decide +kernel
theorem dX6_allGoOn_85 : decode cX6_allGoOn 85 = .ok (.aload_n 0, 1) := by decide +kernel
theorem dX6_allGoOn_86 : decode cX6_allGoOn 86 = .ok (.getfield 36, 3) := by decide +kernel
theorem dX6_allGoOn_89 : decode cX6_allGoOn 89 = .ok (.iload 4, 2) := by decide +kernel
theorem dX6_allGoOn_91 : decode cX6_allGoOn 91 = .ok (.iload_n 2, 1) := by decide +kernel
theorem dX6_allGoOn_92 : decode cX6_allGoOn 92 = .ok (.iload 5, 2) := by decide +kernel
theorem dX6_allGoOn_94 : decode cX6_allGoOn 94 = .ok (.invokevirtual 75, 3) := by decide +kernel
theorem dX6_allGoOn_97 : decode cX6_allGoOn 97 = .ok (.istore 6, 2) := by decide +kernel
theorem dX6_allGoOn_99 : decode cX6_allGoOn 99 = .ok (.iload 6, 2) := by decide +kernel
theorem dX6_allGoOn_101 : decode cX6_allGoOn 101 = .ok (.ifCond .ge 5, 3) := by decide +kernel
theorem dX6_allGoOn_104 : decode cX6_allGoOn 104 = .ok (.iconst 0, 1) := by decide +kernel
theorem dX6_allGoOn_105 : decode cX6_allGoOn 105 = .ok (.ireturn, 1) := by decide +kernel
theorem dX6_allGoOn_106 : decode cX6_allGoOn 106 = .ok (.aload_n 0, 1) := by decide +kernel
theorem dX6_allGoOn_107 : decode cX6_allGoOn 107 = .ok (.getfield 30, 3) := by decide +kernel
theorem dX6_allGoOn_110 : decode cX6_allGoOn 110 = .ok (.iload_n 1, 1) := by decide +kernel
theorem dX6_allGoOn_111 : decode cX6_allGoOn 111 = .ok (.iconst 1, 1) := by decide +kernel
theorem dX6_allGoOn_112 : decode cX6_allGoOn 112 = .ok (.iadd, 1) := by decide +kernel
theorem dX6_allGoOn_113 : decode cX6_allGoOn 113 = .ok (.iaload, 1) := by decide +kernel
theorem dX6_allGoOn_114 : decode cX6_allGoOn 114 = .ok (.istore 7, 2) := by decide +kernel
theorem dX6_allGoOn_116 : decode cX6_allGoOn 116 = .ok (.aload_n 0, 1) := by decide +kernel
theorem dX6_allGoOn_117 : decode cX6_allGoOn 117 = .ok (.getfield 36, 3) := by decide +kernel
theorem dX6_allGoOn_120 : decode cX6_allGoOn 120 = .ok (.getfield 47, 3) := by decide +kernel
theorem dX6_allGoOn_123 : decode cX6_allGoOn 123 = .ok (.iload 6, 2) := by decide +kernel
theorem dX6_allGoOn_125 : decode cX6_allGoOn 125 = .ok (.invokevirtual 53, 3) := by decide +kernel
theorem dX6_allGoOn_128 : decode cX6_allGoOn 128 = .ok (.ifCond .ne 65, 3) := by decide +kernel
theorem dX6_allGoOn_131 : decode cX6_allGoOn 131 = .ok (.aload_n 0, 1) := by decide +kernel
theorem dX6_allGoOn_132 : decode cX6_allGoOn 132 = .ok (.getfield 33, 3) := by decide +kernel
theorem dX6_allGoOn_135 : decode cX6_allGoOn 135 = .ok (.iload 6, 2) := by decide +kernel
theorem dX6_allGoOn_137 : decode cX6_allGoOn 137 = .ok (.iaload, 1) := by decide +kernel
theorem dX6_allGoOn_138 : decode cX6_allGoOn 138 = .ok (.aload_n 0, 1) := by decide +kernel
theorem dX6_allGoOn_139 : decode cX6_allGoOn 139 = .ok (.getfield 94, 3) := by decide +kernel
theorem dX6_allGoOn_142 : decode cX6_allGoOn 142 = .ok (.if_icmp .eq 51, 3) := by decide +kernel
theorem dX6_allGoOn_145 : decode cX6_allGoOn 145 = .ok (.iload 7, 2) := by decide +kernel
theorem dX6_allGoOn_147 : decode cX6_allGoOn 147 = .ok (.sipush 2079, 3) := by decide +kernel
theorem dX6_allGoOn_150 : decode cX6_allGoOn 150 = .ok (.if_icmp .ge 43, 3) := by decide +kernel
theorem dX6_allGoOn_153 : decode cX6_allGoOn 153 = .ok (.aload_n 0, 1) := by decide +kernel
theorem dX6_allGoOn_154 : decode cX6_allGoOn 154 = .ok (.getfield 33, 3) := by decide +kernel
theorem dX6_allGoOn_157 : decode cX6_allGoOn 157 = .ok (.iload 6, 2) := by decide +kernel
theorem dX6_allGoOn_159 : decode cX6_allGoOn 159 = .ok (.aload_n 0, 1) := by decide +kernel
theorem dX6_allGoOn_160 : decode cX6_allGoOn 160 = .ok (.getfield 94, 3) := by decide +kernel
theorem dX6_allGoOn_163 : decode cX6_allGoOn 163 = .ok (.iastore, 1) := by decide +kernel
theorem dX6_allGoOn_164 : decode cX6_allGoOn 164 = .ok (.aload_n 0, 1) := by decide +kernel
theorem dX6_allGoOn_165 : decode cX6_allGoOn 165 = .ok (.getfield 27, 3) := by decide +kernel
theorem dX6_allGoOn_168 : decode cX6_allGoOn 168 = .ok (.iload_n 1, 1) := by decide +kernel
theorem dX6_allGoOn_169 : decode cX6_allGoOn 169 = .ok (.iconst 1, 1) := by decide +kernel
theorem dX6_allGoOn_170 : decode cX6_allGoOn 170 = .ok (.iadd, 1) := by decide +kernel
theorem dX6_allGoOn_171 : decode cX6_allGoOn 171 = .ok (.sipush 2079, 3) := by decide +kernel
theorem dX6_allGoOn_174 : decode cX6_allGoOn 174 = .ok (.imul, 1) := by decide +kernel
theorem dX6_allGoOn_175 : decode cX6_allGoOn 175 = .ok (.iload 7, 2) := by decide +kernel
theorem dX6_allGoOn_177 : decode cX6_allGoOn 177 = .ok (.iadd, 1) := by decide +kernel
theorem dX6_allGoOn_178 : decode cX6_allGoOn 178 = .ok (.iload 6, 2) := by decide +kernel
theorem dX6_allGoOn_180 : decode cX6_allGoOn 180 = .ok (.iastore, 1) := by decide +kernel
theorem dX6_allGoOn_181 : decode cX6_allGoOn 181 = .ok (.aload_n 0, 1) := by decide +kernel
theorem dX6_allGoOn_182 : decode cX6_allGoOn 182 = .ok (.getfield 30, 3) := by decide +kernel
theorem dX6_allGoOn_185 : decode cX6_allGoOn 185 = .ok (.iload_n 1, 1) := by decide +kernel
theorem dX6_allGoOn_186 : decode cX6_allGoOn 186 = .ok (.iconst 1, 1) := by decide +kernel
theorem dX6_allGoOn_187 : decode cX6_allGoOn 187 = .ok (.iadd, 1) := by decide +kernel
theorem dX6_allGoOn_188 : decode cX6_allGoOn 188 = .ok (.iload 7, 2) := by decide +kernel
theorem dX6_allGoOn_190 : decode cX6_allGoOn 190 = .ok (.iconst 1, 1) := by decide +kernel
theorem dX6_allGoOn_191 : decode cX6_allGoOn 191 = .ok (.iadd, 1) := by decide +kernel
theorem dX6_allGoOn_192 : decode cX6_allGoOn 192 = .ok (.iastore, 1) := by decide +kernel
theorem dX6_allGoOn_193 : decode cX6_allGoOn 193 = .ok (.iinc 5 1, 3) := by decide +kernel
theorem dX6_allGoOn_196 : decode cX6_allGoOn 196 = .ok (.goto (-125), 3) := by decide +kernel
theorem dX6_allGoOn_199 : decode cX6_allGoOn 199 = .ok (.iinc 3 1, 3) := by decide +kernel
theorem dX6_allGoOn_202 : decode cX6_allGoOn 202 = .ok (.goto (-181), 3) := by decide +kernel
theorem dX6_allGoOn_205 : decode cX6_allGoOn 205 = .ok (.iconst 1, 1) := by decide +kernel
theorem dX6_allGoOn_206 : decode cX6_allGoOn 206 = .ok (.ireturn, 1) := by decide +kernel
theorem dX7_init_0 : decode cX7_init 0 = .ok (.aload_n 0, 1) := by decide +kernel
theorem dX7_init_1 : decode cX7_init 1 = .ok (.invokespecial 3, 3) := by decide +kernel
theorem dX7_init_4 : decode cX7_init 4 = .ok (.aload_n 0, 1) := by decide +kernel
theorem dX7_init_5 : decode cX7_init 5 = .ok (.sipush 401, 3) := by decide +kernel
theorem dX7_init_8 : decode cX7_init 8 = .ok (.newarray .int, 2) := by decide +kernel
theorem dX7_init_10 : decode cX7_init 10 = .ok (.putfield 9, 3) := by decide +kernel
theorem dX7_init_13 : decode cX7_init 13 = .ok (.aload_n 0, 1) := by decide +kernel
theorem dX7_init_14 : decode cX7_init 14 = .ok (.sipush 401, 3) := by decide +kernel
theorem dX7_init_17 : decode cX7_init 17 = .ok (.newarray .int, 2) := by decide +kernel
theorem dX7_init_19 : decode cX7_init 19 = .ok (.putfield 15, 3) := by decide +kernel
theorem dX7_init_22 : decode cX7_init 22 = .ok (.aload_n 0, 1) := by decide +kernel
theorem dX7_init_23 : decode cX7_init 23 = .ok (.sipush 401, 3) := by decide +kernel
theorem dX7_init_26 : decode cX7_init 26 = .ok (.newarray .long, 2) := by decide +kernel
theorem dX7_init_28 : decode cX7_init 28 = .ok (.putfield 18, 3) := by decide +kernel
theorem dX7_init_31 : decode cX7_init 31 = .ok (.aload_n 0, 1) := by decide +kernel
theorem dX7_init_32 : decode cX7_init 32 = .ok (.iconst 0, 1) := by decide +kernel
theorem dX7_init_33 : decode cX7_init 33 = .ok (.newarray .int, 2) := by decide +kernel
theorem dX7_init_35 : decode cX7_init 35 = .ok (.putfield 22, 3) := by decide +kernel
theorem dX7_init_38 : decode cX7_init 38 = .ok (.return_, 1) := by decide +kernel
theorem dX7_scan_0 : decode cX7_scan 0 = .ok (.aload_n 0, 1) := by decide +kernel
theorem dX7_scan_1 : decode cX7_scan 1 = .ok (.aload_n 1, 1) := by decide +kernel
theorem dX7_scan_2 : decode cX7_scan 2 = .ok (.putfield 22, 3) := by decide +kernel
theorem dX7_scan_5 : decode cX7_scan 5 = .ok (.aload_n 0, 1) := by decide +kernel
theorem dX7_scan_6 : decode cX7_scan 6 = .ok (.iload_n 2, 1) := by decide +kernel
theorem dX7_scan_7 : decode cX7_scan 7 = .ok (.aload_n 1, 1) := by decide +kernel
theorem dX7_scan_8 : decode cX7_scan 8 = .ok (.arraylength, 1) := by decide +kernel
theorem dX7_scan_9 : decode cX7_scan 9 = .ok (.if_icmp .ge 7, 3) := by decide +kernel
theorem dX7_scan_12 : decode cX7_scan 12 = .ok (.iload_n 2, 1) := by decide +kernel
theorem dX7_scan_13 : decode cX7_scan 13 = .ok (.goto 5, 3) := by decide +kernel
theorem dX7_scan_16 : decode cX7_scan 16 = .ok (.aload_n 1, 1) := by decide +kernel
theorem dX7_scan_17 : decode cX7_scan 17 = .ok (.arraylength, 1) := by decide +kernel
theorem dX7_scan_18 : decode cX7_scan 18 = .ok (.putfield 25, 3) := by decide +kernel
theorem dX7_scan_21 : decode cX7_scan 21 = .ok (.aload_n 0, 1) := by decide +kernel
theorem dX7_scan_22 : decode cX7_scan 22 = .ok (.iconst 0, 1) := by decide +kernel
theorem dX7_scan_23 : decode cX7_scan 23 = .ok (.putfield 29, 3) := by decide +kernel
theorem dX7_scan_26 : decode cX7_scan 26 = .ok (.iconst 1, 1) := by decide +kernel
theorem dX7_scan_27 : decode cX7_scan 27 = .ok (.istore_n 3, 1) := by decide +kernel
theorem dX7_scan_28 : decode cX7_scan 28 = .ok (.iconst 0, 1) := by decide +kernel
theorem dX7_scan_29 : decode cX7_scan 29 = .ok (.istore 4, 2) := by decide +kernel
theorem dX7_scan_31 : decode cX7_scan 31 = .ok (.iload 4, 2) := by decide +kernel
theorem dX7_scan_33 : decode cX7_scan 33 = .ok (.sipush 400, 3) := by decide +kernel
theorem dX7_scan_36 : decode cX7_scan 36 = .ok (.if_icmp .gt 79, 3) := by decide +kernel
theorem dX7_scan_39 : decode cX7_scan 39 = .ok (.iload_n 3, 1) := by decide +kernel
theorem dX7_scan_40 : decode cX7_scan 40 = .ok (.ifCond .eq 75, 3) := by decide +kernel
theorem dX7_scan_43 : decode cX7_scan 43 = .ok (.aload_n 0, 1) := by decide +kernel
theorem dX7_scan_44 : decode cX7_scan 44 = .ok (.invokevirtual 32, 3) := by decide +kernel
theorem dX7_scan_47 : decode cX7_scan 47 = .ok (.aload_n 0, 1) := by decide +kernel
theorem dX7_scan_48 : decode cX7_scan 48 = .ok (.getfield 15, 3) := by decide +kernel
theorem dX7_scan_51 : decode cX7_scan 51 = .ok (.iload 4, 2) := by decide +kernel
theorem dX7_scan_53 : decode cX7_scan 53 = .ok (.aload_n 0, 1) := by decide +kernel
theorem dX7_scan_54 : decode cX7_scan 54 = .ok (.getfield 29, 3) := by decide +kernel
theorem dX7_scan_57 : decode cX7_scan 57 = .ok (.iastore, 1) := by decide +kernel
theorem dX7_scan_58 : decode cX7_scan 58 = .ok (.aload_n 0, 1) := by decide +kernel
theorem dX7_scan_59 : decode cX7_scan 59 = .ok (.getfield 18, 3) := by decide +kernel
theorem dX7_scan_62 : decode cX7_scan 62 = .ok (.iload 4, 2) := by decide +kernel
theorem dX7_scan_64 : decode cX7_scan 64 = .ok (.lconst 0, 1) := by decide +kernel
theorem dX7_scan_65 : decode cX7_scan 65 = .ok (.lastore, 1) := by decide +kernel
theorem dX7_scan_66 : decode cX7_scan 66 = .ok (.aload_n 0, 1) := by decide +kernel
theorem dX7_scan_67 : decode cX7_scan 67 = .ok (.getfield 9, 3) := by decide +kernel
theorem dX7_scan_70 : decode cX7_scan 70 = .ok (.iload 4, 2) := by decide +kernel
theorem dX7_scan_72 : decode cX7_scan 72 = .ok (.aload_n 0, 1) := by decide +kernel
theorem dX7_scan_73 : decode cX7_scan 73 = .ok (.iload 4, 2) := by decide +kernel
theorem dX7_scan_75 : decode cX7_scan 75 = .ok (.invokevirtual 35, 3) := by decide +kernel
theorem dX7_scan_78 : decode cX7_scan 78 = .ok (.iastore, 1) := by decide +kernel
theorem dX7_scan_79 : decode cX7_scan 79 = .ok (.aload_n 0, 1) := by decide +kernel
theorem dX7_scan_80 : decode cX7_scan 80 = .ok (.getfield 9, 3) := by decide +kernel
theorem dX7_scan_83 : decode cX7_scan 83 = .ok (.iload 4, 2) := by decide +kernel
theorem dX7_scan_85 : decode cX7_scan 85 = .ok (.iaload, 1) := by decide +kernel
theorem dX7_scan_86 : decode cX7_scan 86 = .ok (.bipush 30, 2) := by decide +kernel
theorem dX7_scan_88 : decode cX7_scan 88 = .ok (.if_icmp .eq 19, 3) := by decide +kernel
theorem dX7_scan_91 : decode cX7_scan 91 = .ok (.aload_n 0, 1) := by decide +kernel
theorem dX7_scan_92 : decode cX7_scan 92 = .ok (.getfield 9, 3) := by decide +kernel
theorem dX7_scan_95 : decode cX7_scan 95 = .ok (.iload 4, 2) := by decide +kernel
theorem dX7_scan_97 : decode cX7_scan 97 = .ok (.iaload, 1) := by decide +kernel
theorem dX7_scan_98 : decode cX7_scan 98 = .ok (.bipush 31, 2) := by decide +kernel
theorem dX7_scan_100 : decode cX7_scan 100 = .ok (.if_icmp .eq 7, 3) := by decide +kernel
theorem dX7_scan_103 : decode cX7_scan 103 = .ok (.iconst 1, 1) := by decide +kernel
theorem dX7_scan_104 : decode cX7_scan 104 = .ok (.goto 4, 3) := by decide +kernel
theorem dX7_scan_107 : decode cX7_scan 107 = .ok (.iconst 0, 1) := by decide +kernel
theorem dX7_scan_108 : decode cX7_scan 108 = .ok (.istore_n 3, 1) := by decide +kernel
theorem dX7_scan_109 : decode cX7_scan 109 = .ok (.iinc 4 1, 3) := by decide +kernel
theorem dX7_scan_112 : decode cX7_scan 112 = .ok (.goto (-81), 3) := by decide +kernel
theorem dX7_scan_115 : decode cX7_scan 115 = .ok (.return_, 1) := by decide +kernel
theorem dX7_charAt_0 : decode cX7_charAt 0 = .ok (.iload_n 1, 1) := by decide +kernel
theorem dX7_charAt_1 : decode cX7_charAt 1 = .ok (.ifCond .lt 20, 3) := by decide +kernel
theorem dX7_charAt_4 : decode cX7_charAt 4 = .ok (.iload_n 1, 1) := by decide +kernel
theorem dX7_charAt_5 : decode cX7_charAt 5 = .ok (.aload_n 0, 1) := by decide +kernel
theorem dX7_charAt_6 : decode cX7_charAt 6 = .ok (.getfield 25, 3) := by decide +kernel
theorem dX7_charAt_9 : decode cX7_charAt 9 = .ok (.if_icmp .ge 12, 3) := by decide +kernel
theorem dX7_charAt_12 : decode cX7_charAt 12 = .ok (.aload_n 0, 1) := by decide +kernel
theorem dX7_charAt_13 : decode cX7_charAt 13 = .ok (.getfield 22, 3) := by decide +kernel
theorem dX7_charAt_16 : decode cX7_charAt 16 = .ok (.iload_n 1, 1) := by decide +kernel
theorem dX7_charAt_17 : decode cX7_charAt 17 = .ok (.iaload, 1) := by decide +kernel
theorem dX7_charAt_18 : decode cX7_charAt 18 = .ok (.goto 4, 3) := by decide +kernel
theorem dX7_charAt_21 : decode cX7_charAt 21 = .ok (.iconst (-1), 1) := by decide +kernel
theorem dX7_charAt_22 : decode cX7_charAt 22 = .ok (.ireturn, 1) := by decide +kernel
theorem dX7_skipBlanks_0 : decode cX7_skipBlanks 0 = .ok (.aload_n 0, 1) := by decide +kernel
theorem dX7_skipBlanks_1 : decode cX7_skipBlanks 1 = .ok (.getfield 29, 3) := by decide +kernel
theorem dX7_skipBlanks_4 : decode cX7_skipBlanks 4 = .ok (.istore_n 1, 1) := by decide +kernel
theorem dX7_skipBlanks_5 : decode cX7_skipBlanks 5 = .ok (.iload_n 1, 1) := by decide +kernel
theorem dX7_skipBlanks_6 : decode cX7_skipBlanks 6 = .ok (.aload_n 0, 1) := by decide +kernel
theorem dX7_skipBlanks_7 : decode cX7_skipBlanks 7 = .ok (.getfield 25, 3) := by decide +kernel
theorem dX7_skipBlanks_10 : decode cX7_skipBlanks 10 = .ok (.if_icmp .ge 27, 3) := by decide +kernel
theorem dX7_skipBlanks_13 : decode cX7_skipBlanks 13 = .ok (.aload_n 0, 1) := by decide +kernel
theorem dX7_skipBlanks_14 : decode cX7_skipBlanks 14 = .ok (.iload_n 1, 1) := by decide +kernel
theorem dX7_skipBlanks_15 : decode cX7_skipBlanks 15 = .ok (.invokevirtual 39, 3) := by decide +kernel
theorem dX7_skipBlanks_18 : decode cX7_skipBlanks 18 = .ok (.invokestatic 42, 3) := by decide +kernel
theorem dX7_skipBlanks_21 : decode cX7_skipBlanks 21 = .ok (.ifCond .eq 16, 3) := by decide +kernel
theorem dX7_skipBlanks_24 : decode cX7_skipBlanks 24 = .ok (.aload_n 0, 1) := by decide +kernel
theorem dX7_skipBlanks_25 : decode cX7_skipBlanks 25 = .ok (.iload_n 1, 1) := by decide +kernel
theorem dX7_skipBlanks_26 : decode cX7_skipBlanks 26 = .ok (.iconst 1, 1) := by decide +kernel
theorem dX7_skipBlanks_27 : decode cX7_skipBlanks 27 = .ok (.iadd, 1) := by decide +kernel
theorem dX7_skipBlanks_28 : decode cX7_skipBlanks 28 = .ok (.putfield 29, 3) := by decide +kernel
