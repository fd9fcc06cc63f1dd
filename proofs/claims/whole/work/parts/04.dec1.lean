theorem dX1_binding_20 : decode cX1_binding 20 = .ok (.iload_n 0, 1) := by decide +kernel
theorem dX1_binding_21 : decode cX1_binding 21 = .ok (.bipush 10, 2) := by decide +kernel
theorem dX1_binding_23 : decode cX1_binding 23 = .ok (.if_icmp .ne 7, 3) := by decide +kernel
theorem dX1_binding_26 : decode cX1_binding 26 = .ok (.iconst 0, 1) := by decide +kernel
theorem dX1_binding_27 : decode cX1_binding 27 = .ok (.goto 4, 3) := by decide +kernel
theorem dX1_binding_30 : decode cX1_binding 30 = .ok (.iconst 1, 1) := by decide +kernel
theorem dX1_binding_31 : decode cX1_binding 31 = .ok (.ireturn, 1) := by decide +kernel
theorem dX2_init_0 : decode cX2_init 0 = .ok (.aload_n 0, 1) := by decide +kernel
theorem dX2_init_1 : decode cX2_init 1 = .ok (.invokespecial 3, 3) := by decide +kernel
theorem dX2_init_4 : decode cX2_init 4 = .ok (.aload_n 0, 1) := by decide +kernel
theorem dX2_init_5 : decode cX2_init 5 = .ok (.bipush 64, 2) := by decide +kernel
theorem dX2_init_7 : decode cX2_init 7 = .ok (.newarray .int, 2) := by decide +kernel
theorem dX2_init_9 : decode cX2_init 9 = .ok (.putfield 9, 3) := by decide +kernel
theorem dX2_init_12 : decode cX2_init 12 = .ok (.aload_n 0, 1) := by decide +kernel
theorem dX2_init_13 : decode cX2_init 13 = .ok (.bipush 8, 2) := by decide +kernel
theorem dX2_init_15 : decode cX2_init 15 = .ok (.newarray .int, 2) := by decide +kernel
theorem dX2_init_17 : decode cX2_init 17 = .ok (.putfield 15, 3) := by decide +kernel
theorem dX2_init_20 : decode cX2_init 20 = .ok (.return_, 1) := by decide +kernel
theorem dX2_standAt_0 : decode cX2_standAt 0 = .ok (.aload_n 0, 1) := by decide +kernel
theorem dX2_standAt_1 : decode cX2_standAt 1 = .ok (.getfield 15, 3) := by decide +kernel
theorem dX2_standAt_4 : decode cX2_standAt 4 = .ok (.iconst 0, 1) := by decide +kernel
theorem dX2_standAt_5 : decode cX2_standAt 5 = .ok (.iload_n 1, 1) := by decide +kernel
theorem dX2_standAt_6 : decode cX2_standAt 6 = .ok (.sipush 231, 3) := by decide +kernel
theorem dX2_standAt_9 : decode cX2_standAt 9 = .ok (.idiv, 1) := by decide +kernel
theorem dX2_standAt_10 : decode cX2_standAt 10 = .ok (.iastore, 1) := by decide +kernel
theorem dX2_standAt_11 : decode cX2_standAt 11 = .ok (.aload_n 0, 1) := by decide +kernel
theorem dX2_standAt_12 : decode cX2_standAt 12 = .ok (.getfield 15, 3) := by decide +kernel
theorem dX2_standAt_15 : decode cX2_standAt 15 = .ok (.iconst 1, 1) := by decide +kernel
theorem dX2_standAt_16 : decode cX2_standAt 16 = .ok (.iload_n 1, 1) := by decide +kernel
theorem dX2_standAt_17 : decode cX2_standAt 17 = .ok (.bipush 11, 2) := by decide +kernel
theorem dX2_standAt_19 : decode cX2_standAt 19 = .ok (.idiv, 1) := by decide +kernel
theorem dX2_standAt_20 : decode cX2_standAt 20 = .ok (.bipush 21, 2) := by decide +kernel
theorem dX2_standAt_22 : decode cX2_standAt 22 = .ok (.irem, 1) := by decide +kernel
theorem dX2_standAt_23 : decode cX2_standAt 23 = .ok (.bipush 10, 2) := by decide +kernel
theorem dX2_standAt_25 : decode cX2_standAt 25 = .ok (.isub, 1) := by decide +kernel
theorem dX2_standAt_26 : decode cX2_standAt 26 = .ok (.iastore, 1) := by decide +kernel
theorem dX2_standAt_27 : decode cX2_standAt 27 = .ok (.aload_n 0, 1) := by decide +kernel
theorem dX2_standAt_28 : decode cX2_standAt 28 = .ok (.getfield 15, 3) := by decide +kernel
theorem dX2_standAt_31 : decode cX2_standAt 31 = .ok (.iconst 2, 1) := by decide +kernel
theorem dX2_standAt_32 : decode cX2_standAt 32 = .ok (.iload_n 1, 1) := by decide +kernel
theorem dX2_standAt_33 : decode cX2_standAt 33 = .ok (.bipush 11, 2) := by decide +kernel
theorem dX2_standAt_35 : decode cX2_standAt 35 = .ok (.irem, 1) := by decide +kernel
theorem dX2_standAt_36 : decode cX2_standAt 36 = .ok (.iconst 5, 1) := by decide +kernel
theorem dX2_standAt_37 : decode cX2_standAt 37 = .ok (.isub, 1) := by decide +kernel
theorem dX2_standAt_38 : decode cX2_standAt 38 = .ok (.iastore, 1) := by decide +kernel
theorem dX2_standAt_39 : decode cX2_standAt 39 = .ok (.aload_n 0, 1) := by decide +kernel
theorem dX2_standAt_40 : decode cX2_standAt 40 = .ok (.getfield 15, 3) := by decide +kernel
theorem dX2_standAt_43 : decode cX2_standAt 43 = .ok (.iconst 3, 1) := by decide +kernel
theorem dX2_standAt_44 : decode cX2_standAt 44 = .ok (.iconst 0, 1) := by decide +kernel
theorem dX2_standAt_45 : decode cX2_standAt 45 = .ok (.iastore, 1) := by decide +kernel
theorem dX2_standAt_46 : decode cX2_standAt 46 = .ok (.aload_n 0, 1) := by decide +kernel
theorem dX2_standAt_47 : decode cX2_standAt 47 = .ok (.getfield 15, 3) := by decide +kernel
theorem dX2_standAt_50 : decode cX2_standAt 50 = .ok (.iconst 4, 1) := by decide +kernel
theorem dX2_standAt_51 : decode cX2_standAt 51 = .ok (.iconst 0, 1) := by decide +kernel
theorem dX2_standAt_52 : decode cX2_standAt 52 = .ok (.iastore, 1) := by decide +kernel
theorem dX2_standAt_53 : decode cX2_standAt 53 = .ok (.aload_n 0, 1) := by decide +kernel
theorem dX2_standAt_54 : decode cX2_standAt 54 = .ok (.getfield 15, 3) := by decide +kernel
theorem dX2_standAt_57 : decode cX2_standAt 57 = .ok (.iconst 5, 1) := by decide +kernel
theorem dX2_standAt_58 : decode cX2_standAt 58 = .ok (.iload_n 2, 1) := by decide +kernel
theorem dX2_standAt_59 : decode cX2_standAt 59 = .ok (.iastore, 1) := by decide +kernel
theorem dX2_standAt_60 : decode cX2_standAt 60 = .ok (.return_, 1) := by decide +kernel
theorem dX2_holds_0 : decode cX2_holds 0 = .ok (.iload_n 2, 1) := by decide +kernel
theorem dX2_holds_1 : decode cX2_holds 1 = .ok (.iconst (-1), 1) := by decide +kernel
theorem dX2_holds_2 : decode cX2_holds 2 = .ok (.if_icmp .ne 5, 3) := by decide +kernel
theorem dX2_holds_5 : decode cX2_holds 5 = .ok (.iconst 1, 1) := by decide +kernel
theorem dX2_holds_6 : decode cX2_holds 6 = .ok (.ireturn, 1) := by decide +kernel
theorem dX2_holds_7 : decode cX2_holds 7 = .ok (.iconst 1, 1) := by decide +kernel
theorem dX2_holds_8 : decode cX2_holds 8 = .ok (.istore_n 3, 1) := by decide +kernel
theorem dX2_holds_9 : decode cX2_holds 9 = .ok (.iload_n 2, 1) := by decide +kernel
theorem dX2_holds_10 : decode cX2_holds 10 = .ok (.istore 4, 2) := by decide +kernel
theorem dX2_holds_12 : decode cX2_holds 12 = .ok (.iconst 0, 1) := by decide +kernel
theorem dX2_holds_13 : decode cX2_holds 13 = .ok (.istore 5, 2) := by decide +kernel
theorem dX2_holds_15 : decode cX2_holds 15 = .ok (.iload 5, 2) := by decide +kernel
theorem dX2_holds_17 : decode cX2_holds 17 = .ok (.aload_n 1, 1) := by decide +kernel
theorem dX2_holds_18 : decode cX2_holds 18 = .ok (.arraylength, 1) := by decide +kernel
theorem dX2_holds_19 : decode cX2_holds 19 = .ok (.if_icmp .gt 98, 3) := by decide +kernel
theorem dX2_holds_22 : decode cX2_holds 22 = .ok (.aload_n 0, 1) := by decide +kernel
theorem dX2_holds_23 : decode cX2_holds 23 = .ok (.aload_n 1, 1) := by decide +kernel
theorem dX2_holds_24 : decode cX2_holds 24 = .ok (.iload 4, 2) := by decide +kernel
theorem dX2_holds_26 : decode cX2_holds 26 = .ok (.invokevirtual 18, 3) := by decide +kernel
theorem dX2_holds_29 : decode cX2_holds 29 = .ok (.istore 4, 2) := by decide +kernel
theorem dX2_holds_31 : decode cX2_holds 31 = .ok (.iload 4, 2) := by decide +kernel
theorem dX2_holds_33 : decode cX2_holds 33 = .ok (.ifCond .lt 17, 3) := by decide +kernel
theorem dX2_holds_36 : decode cX2_holds 36 = .ok (.iload 4, 2) := by decide +kernel
theorem dX2_holds_38 : decode cX2_holds 38 = .ok (.aload_n 1, 1) := by decide +kernel
theorem dX2_holds_39 : decode cX2_holds 39 = .ok (.arraylength, 1) := by decide +kernel
theorem dX2_holds_40 : decode cX2_holds 40 = .ok (.if_icmp .ge 10, 3) := by decide +kernel
theorem dX2_holds_43 : decode cX2_holds 43 = .ok (.aload_n 1, 1) := by decide +kernel
theorem dX2_holds_44 : decode cX2_holds 44 = .ok (.iload 4, 2) := by decide +kernel
theorem dX2_holds_46 : decode cX2_holds 46 = .ok (.iaload, 1) := by decide +kernel
theorem dX2_holds_47 : decode cX2_holds 47 = .ok (.goto 5, 3) := by decide +kernel
theorem dX2_holds_50 : decode cX2_holds 50 = .ok (.bipush 9, 2) := by decide +kernel
theorem dX2_holds_52 : decode cX2_holds 52 = .ok (.istore 6, 2) := by decide +kernel
theorem dX2_holds_54 : decode cX2_holds 54 = .ok (.iload 6, 2) := by decide +kernel
theorem dX2_holds_56 : decode cX2_holds 56 = .ok (.bipush 15, 2) := by decide +kernel
theorem dX2_holds_58 : decode cX2_holds 58 = .ok (.iand, 1) := by decide +kernel
theorem dX2_holds_59 : decode cX2_holds 59 = .ok (.istore 7, 2) := by decide +kernel
theorem dX2_holds_61 : decode cX2_holds 61 = .ok (.iload 7, 2) := by decide +kernel
theorem dX2_holds_63 : decode cX2_holds 63 = .ok (.bipush 7, 2) := by decide +kernel
theorem dX2_holds_65 : decode cX2_holds 65 = .ok (.if_icmp .ne 28, 3) := by decide +kernel
theorem dX2_holds_68 : decode cX2_holds 68 = .ok (.iload_n 3, 1) := by decide +kernel
theorem dX2_holds_69 : decode cX2_holds 69 = .ok (.ifCond .eq 19, 3) := by decide +kernel
theorem dX2_holds_72 : decode cX2_holds 72 = .ok (.aload_n 0, 1) := by decide +kernel
theorem dX2_holds_73 : decode cX2_holds 73 = .ok (.iload 6, 2) := by decide +kernel
theorem dX2_holds_75 : decode cX2_holds 75 = .ok (.bipush 16, 2) := by decide +kernel
theorem dX2_holds_77 : decode cX2_holds 77 = .ok (.idiv, 1) := by decide +kernel
theorem dX2_holds_78 : decode cX2_holds 78 = .ok (.invokevirtual 22, 3) := by decide +kernel
theorem dX2_holds_81 : decode cX2_holds 81 = .ok (.ifCond .eq 7, 3) := by decide +kernel
theorem dX2_holds_84 : decode cX2_holds 84 = .ok (.iconst 1, 1) := by decide +kernel
theorem dX2_holds_85 : decode cX2_holds 85 = .ok (.goto 4, 3) := by decide +kernel
theorem dX2_holds_88 : decode cX2_holds 88 = .ok (.iconst 0, 1) := by decide +kernel
theorem dX2_holds_89 : decode cX2_holds 89 = .ok (.istore_n 3, 1) := by decide +kernel
theorem dX2_holds_90 : decode cX2_holds 90 = .ok (.goto 18, 3) := by decide +kernel
theorem dX2_holds_93 : decode cX2_holds 93 = .ok (.iload_n 3, 1) := by decide +kernel
theorem dX2_holds_94 : decode cX2_holds 94 = .ok (.ifCond .ne 10, 3) := by decide +kernel
theorem dX2_holds_97 : decode cX2_holds 97 = .ok (.iload 7, 2) := by decide +kernel
theorem dX2_holds_99 : decode cX2_holds 99 = .ok (.bipush 8, 2) := by decide +kernel
theorem dX2_holds_101 : decode cX2_holds 101 = .ok (.if_icmp .eq 5, 3) := by decide +kernel
theorem dX2_holds_104 : decode cX2_holds 104 = .ok (.iload_n 3, 1) := by decide +kernel
theorem dX2_holds_105 : decode cX2_holds 105 = .ok (.ireturn, 1) := by decide +kernel
theorem dX2_holds_106 : decode cX2_holds 106 = .ok (.iconst 1, 1) := by decide +kernel
theorem dX2_holds_107 : decode cX2_holds 107 = .ok (.istore_n 3, 1) := by decide +kernel
theorem dX2_holds_108 : decode cX2_holds 108 = .ok (.iinc 4 1, 3) := by decide +kernel
theorem dX2_holds_111 : decode cX2_holds 111 = .ok (.iinc 5 1, 3) := by decide +kernel
theorem dX2_holds_114 : decode cX2_holds 114 = .ok (.goto (-99), 3) := by decide +kernel
theorem dX2_holds_117 : decode cX2_holds 117 = .ok (.iconst 0, 1) := by decide +kernel
theorem dX2_holds_118 : decode cX2_holds 118 = .ok (.ireturn, 1) := by decide +kernel
theorem dX2_literal_0 : decode cX2_literal 0 = .ok (.aload_n 0, 1) := by decide +kernel
theorem dX2_literal_1 : decode cX2_literal 1 = .ok (.getfield 9, 3) := by decide +kernel
theorem dX2_literal_4 : decode cX2_literal 4 = .ok (.iconst 0, 1) := by decide +kernel
theorem dX2_literal_5 : decode cX2_literal 5 = .ok (.iaload, 1) := by decide +kernel
theorem dX2_literal_6 : decode cX2_literal 6 = .ok (.istore_n 2, 1) := by decide +kernel
theorem dX2_literal_7 : decode cX2_literal 7 = .ok (.aload_n 0, 1) := by decide +kernel
theorem dX2_literal_8 : decode cX2_literal 8 = .ok (.getfield 9, 3) := by decide +kernel
theorem dX2_literal_11 : decode cX2_literal 11 = .ok (.iconst 1, 1) := by decide +kernel
theorem dX2_literal_12 : decode cX2_literal 12 = .ok (.iaload, 1) := by decide +kernel
theorem dX2_literal_13 : decode cX2_literal 13 = .ok (.istore_n 3, 1) := by decide +kernel
theorem dX2_literal_14 : decode cX2_literal 14 = .ok (.iload_n 1, 1) := by decide +kernel
theorem dX2_literal_15 : decode cX2_literal 15 = .ok (.iconst 1, 1) := by decide +kernel
theorem dX2_literal_16 : decode cX2_literal 16 = .ok (.iand, 1) := by decide +kernel
theorem dX2_literal_17 : decode cX2_literal 17 = .ok (.iconst 1, 1) := by decide +kernel
theorem dX2_literal_18 : decode cX2_literal 18 = .ok (.if_icmp .ne 7, 3) := by decide +kernel
theorem dX2_literal_21 : decode cX2_literal 21 = .ok (.iconst 1, 1) := by decide +kernel
theorem dX2_literal_22 : decode cX2_literal 22 = .ok (.goto 4, 3) := by decide +kernel
theorem dX2_literal_25 : decode cX2_literal 25 = .ok (.iconst 0, 1) := by decide +kernel
theorem dX2_literal_26 : decode cX2_literal 26 = .ok (.istore 4, 2) := by decide +kernel
theorem dX2_literal_28 : decode cX2_literal 28 = .ok (.iload_n 1, 1) := by decide +kernel
theorem dX2_literal_29 : decode cX2_literal 29 = .ok (.iconst 2, 1) := by decide +kernel
theorem dX2_literal_30 : decode cX2_literal 30 = .ok (.idiv, 1) := by decide +kernel
theorem dX2_literal_31 : decode cX2_literal 31 = .ok (.tableswitch 70 0 2 #[25, 40, 55], 25) := by decide +kernel
theorem dX2_literal_56 : decode cX2_literal 56 = .ok (.iload_n 2, 1) := by decide +kernel
theorem dX2_literal_57 : decode cX2_literal 57 = .ok (.iload_n 3, 1) := by decide +kernel
theorem dX2_literal_58 : decode cX2_literal 58 = .ok (.if_icmp .ne 7, 3) := by decide +kernel
theorem dX2_literal_61 : decode cX2_literal 61 = .ok (.iconst 1, 1) := by decide +kernel
theorem dX2_literal_62 : decode cX2_literal 62 = .ok (.goto 4, 3) := by decide +kernel
theorem dX2_literal_65 : decode cX2_literal 65 = .ok (.iconst 0, 1) := by decide +kernel
theorem dX2_literal_66 : decode cX2_literal 66 = .ok (.istore 5, 2) := by decide +kernel
theorem dX2_literal_68 : decode cX2_literal 68 = .ok (.goto 45, 3) := by decide +kernel
theorem dX2_literal_71 : decode cX2_literal 71 = .ok (.iload_n 2, 1) := by decide +kernel
theorem dX2_literal_72 : decode cX2_literal 72 = .ok (.iload_n 3, 1) := by decide +kernel
theorem dX2_literal_73 : decode cX2_literal 73 = .ok (.if_icmp .eq 7, 3) := by decide +kernel
theorem dX2_literal_76 : decode cX2_literal 76 = .ok (.iconst 1, 1) := by decide +kernel
theorem dX2_literal_77 : decode cX2_literal 77 = .ok (.goto 4, 3) := by decide +kernel
theorem dX2_literal_80 : decode cX2_literal 80 = .ok (.iconst 0, 1) := by decide +kernel
theorem dX2_literal_81 : decode cX2_literal 81 = .ok (.istore 5, 2) := by decide +kernel
theorem dX2_literal_83 : decode cX2_literal 83 = .ok (.goto 30, 3) := by decide +kernel
theorem dX2_literal_86 : decode cX2_literal 86 = .ok (.iload_n 2, 1) := by decide +kernel
theorem dX2_literal_87 : decode cX2_literal 87 = .ok (.iload_n 3, 1) := by decide +kernel
theorem dX2_literal_88 : decode cX2_literal 88 = .ok (.if_icmp .ge 7, 3) := by decide +kernel
theorem dX2_literal_91 : decode cX2_literal 91 = .ok (.iconst 1, 1) := by decide +kernel
theorem dX2_literal_92 : decode cX2_literal 92 = .ok (.goto 4, 3) := by decide +kernel
theorem dX2_literal_95 : decode cX2_literal 95 = .ok (.iconst 0, 1) := by decide +kernel
theorem dX2_literal_96 : decode cX2_literal 96 = .ok (.istore 5, 2) := by decide +kernel
theorem dX2_literal_98 : decode cX2_literal 98 = .ok (.goto 15, 3) := by decide +kernel
theorem dX2_literal_101 : decode cX2_literal 101 = .ok (.iload_n 2, 1) := by decide +kernel
theorem dX2_literal_102 : decode cX2_literal 102 = .ok (.iload_n 3, 1) := by decide +kernel
theorem dX2_literal_103 : decode cX2_literal 103 = .ok (.if_icmp .gt 7, 3) := by decide +kernel
theorem dX2_literal_106 : decode cX2_literal 106 = .ok (.iconst 1, 1) := by decide +kernel
theorem dX2_literal_107 : decode cX2_literal 107 = .ok (.goto 4, 3) := by decide +kernel
theorem dX2_literal_110 : decode cX2_literal 110 = .ok (.iconst 0, 1) := by decide +kernel
theorem dX2_literal_111 : decode cX2_literal 111 = .ok (.istore 5, 2) := by decide +kernel
theorem dX2_literal_113 : decode cX2_literal 113 = .ok (.iload 5, 2) := by decide +kernel
theorem dX2_literal_115 : decode cX2_literal 115 = .ok (.ifCond .eq 14, 3) := by decide +kernel
theorem dX2_literal_118 : decode cX2_literal 118 = .ok (.aload_n 0, 1) := by decide +kernel
theorem dX2_literal_119 : decode cX2_literal 119 = .ok (.getfield 26, 3) := by decide +kernel
theorem dX2_literal_122 : decode cX2_literal 122 = .ok (.ifCond .ne 7, 3) := by decide +kernel
theorem dX2_literal_125 : decode cX2_literal 125 = .ok (.iconst 1, 1) := by decide +kernel
theorem dX2_literal_126 : decode cX2_literal 126 = .ok (.goto 4, 3) := by decide +kernel
theorem dX2_literal_129 : decode cX2_literal 129 = .ok (.iconst 0, 1) := by decide +kernel
theorem dX2_literal_130 : decode cX2_literal 130 = .ok (.iload 4, 2) := by decide +kernel
theorem dX2_literal_132 : decode cX2_literal 132 = .ok (.if_icmp .eq 7, 3) := by decide +kernel
theorem dX2_literal_135 : decode cX2_literal 135 = .ok (.iconst 1, 1) := by decide +kernel
theorem dX2_literal_136 : decode cX2_literal 136 = .ok (.goto 4, 3) := by decide +kernel
theorem dX2_literal_139 : decode cX2_literal 139 = .ok (.iconst 0, 1) := by decide +kernel
theorem dX2_literal_140 : decode cX2_literal 140 = .ok (.ireturn, 1) := by decide +kernel
theorem dX2_result_0 : decode cX2_result 0 = .ok (.aload_n 0, 1) := by decide +kernel
theorem dX2_result_1 : decode cX2_result 1 = .ok (.getfield 9, 3) := by decide +kernel
theorem dX2_result_4 : decode cX2_result 4 = .ok (.iconst 0, 1) := by decide +kernel
theorem dX2_result_5 : decode cX2_result 5 = .ok (.iaload, 1) := by decide +kernel
theorem dX2_result_6 : decode cX2_result 6 = .ok (.ireturn, 1) := by decide +kernel
theorem dX2_run_0 : decode cX2_run 0 = .ok (.aload_n 0, 1) := by decide +kernel
theorem dX2_run_1 : decode cX2_run 1 = .ok (.iconst 0, 1) := by decide +kernel
theorem dX2_run_2 : decode cX2_run 2 = .ok (.putfield 26, 3) := by decide +kernel
theorem dX2_run_5 : decode cX2_run 5 = .ok (.iconst (-1), 1) := by decide +kernel
theorem dX2_run_6 : decode cX2_run 6 = .ok (.istore_n 3, 1) := by decide +kernel
theorem dX2_run_7 : decode cX2_run 7 = .ok (.iload_n 2, 1) := by decide +kernel
theorem dX2_run_8 : decode cX2_run 8 = .ok (.ifCond .ge 7, 3) := by decide +kernel
theorem dX2_run_11 : decode cX2_run 11 = .ok (.iconst 0, 1) := by decide +kernel
theorem dX2_run_12 : decode cX2_run 12 = .ok (.goto 4, 3) := by decide +kernel
theorem dX2_run_15 : decode cX2_run 15 = .ok (.iload_n 2, 1) := by decide +kernel
theorem dX2_run_16 : decode cX2_run 16 = .ok (.istore 4, 2) := by decide +kernel
theorem dX2_run_18 : decode cX2_run 18 = .ok (.iload 4, 2) := by decide +kernel
theorem dX2_run_20 : decode cX2_run 20 = .ok (.aload_n 1, 1) := by decide +kernel
theorem dX2_run_21 : decode cX2_run 21 = .ok (.arraylength, 1) := by decide +kernel
theorem dX2_run_22 : decode cX2_run 22 = .ok (.if_icmp .ge 212, 3) := by decide +kernel
theorem dX2_run_25 : decode cX2_run 25 = .ok (.aload_n 1, 1) := by decide +kernel
theorem dX2_run_26 : decode cX2_run 26 = .ok (.iload 4, 2) := by decide +kernel
theorem dX2_run_28 : decode cX2_run 28 = .ok (.iaload, 1) := by decide +kernel
theorem dX2_run_29 : decode cX2_run 29 = .ok (.bipush 15, 2) := by decide +kernel
theorem dX2_run_31 : decode cX2_run 31 = .ok (.iand, 1) := by decide +kernel
theorem dX2_run_32 : decode cX2_run 32 = .ok (.istore 5, 2) := by decide +kernel
theorem dX2_run_34 : decode cX2_run 34 = .ok (.iload 5, 2) := by decide +kernel
theorem dX2_run_36 : decode cX2_run 36 = .ok (.bipush 7, 2) := by decide +kernel
theorem dX2_run_38 : decode cX2_run 38 = .ok (.if_icmp .lt 6, 3) := by decide +kernel
theorem dX2_run_41 : decode cX2_run 41 = .ok (.iload 4, 2) := by decide +kernel
theorem dX2_run_43 : decode cX2_run 43 = .ok (.ireturn, 1) := by decide +kernel
theorem dX2_run_44 : decode cX2_run 44 = .ok (.iload_n 3, 1) := by decide +kernel
theorem dX2_run_45 : decode cX2_run 45 = .ok (.iload 5, 2) := by decide +kernel
theorem dX2_run_47 : decode cX2_run 47 = .ok (.iconst 1, 1) := by decide +kernel
theorem dX2_run_48 : decode cX2_run 48 = .ok (.if_icmp .gt 7, 3) := by decide +kernel
theorem dX2_run_51 : decode cX2_run 51 = .ok (.iconst 1, 1) := by decide +kernel
theorem dX2_run_52 : decode cX2_run 52 = .ok (.goto 14, 3) := by decide +kernel
theorem dX2_run_55 : decode cX2_run 55 = .ok (.iload 5, 2) := by decide +kernel
theorem dX2_run_57 : decode cX2_run 57 = .ok (.iconst 2, 1) := by decide +kernel
theorem dX2_run_58 : decode cX2_run 58 = .ok (.if_icmp .ne 7, 3) := by decide +kernel
theorem dX2_run_61 : decode cX2_run 61 = .ok (.iconst 0, 1) := by decide +kernel
theorem dX2_run_62 : decode cX2_run 62 = .ok (.goto 4, 3) := by decide +kernel
theorem dX2_run_65 : decode cX2_run 65 = .ok (.iconst (-1), 1) := by decide +kernel
theorem dX2_run_66 : decode cX2_run 66 = .ok (.iadd, 1) := by decide +kernel
theorem dX2_run_67 : decode cX2_run 67 = .ok (.istore_n 3, 1) := by decide +kernel
theorem dX2_run_68 : decode cX2_run 68 = .ok (.aload_n 0, 1) := by decide +kernel
theorem dX2_run_69 : decode cX2_run 69 = .ok (.getfield 9, 3) := by decide +kernel
theorem dX2_run_72 : decode cX2_run 72 = .ok (.iload_n 3, 1) := by decide +kernel
theorem dX2_run_73 : decode cX2_run 73 = .ok (.bipush 63, 2) := by decide +kernel
theorem dX2_run_75 : decode cX2_run 75 = .ok (.iand, 1) := by decide +kernel
theorem dX2_run_76 : decode cX2_run 76 = .ok (.iaload, 1) := by decide +kernel
theorem dX2_run_77 : decode cX2_run 77 = .ok (.istore 6, 2) := by decide +kernel
theorem dX2_run_79 : decode cX2_run 79 = .ok (.aload_n 0, 1) := by decide +kernel
theorem dX2_run_80 : decode cX2_run 80 = .ok (.getfield 9, 3) := by decide +kernel
theorem dX2_run_83 : decode cX2_run 83 = .ok (.iload_n 3, 1) := by decide +kernel
theorem dX2_run_84 : decode cX2_run 84 = .ok (.iconst 1, 1) := by decide +kernel
theorem dX2_run_85 : decode cX2_run 85 = .ok (.iadd, 1) := by decide +kernel
theorem dX2_run_86 : decode cX2_run 86 = .ok (.bipush 63, 2) := by decide +kernel
theorem dX2_run_88 : decode cX2_run 88 = .ok (.iand, 1) := by decide +kernel
theorem dX2_run_89 : decode cX2_run 89 = .ok (.iaload, 1) := by decide +kernel
theorem dX2_run_90 : decode cX2_run 90 = .ok (.istore 7, 2) := by decide +kernel
theorem dX2_run_92 : decode cX2_run 92 = .ok (.iload 5, 2) := by decide +kernel
theorem dX2_run_94 : decode cX2_run 94 = .ok (.ifCond .ne 15, 3) := by decide +kernel
theorem dX2_run_97 : decode cX2_run 97 = .ok (.aload_n 1, 1) := by decide +kernel
theorem dX2_run_98 : decode cX2_run 98 = .ok (.iload 4, 2) := by decide +kernel
theorem dX2_run_100 : decode cX2_run 100 = .ok (.iaload, 1) := by decide +kernel
theorem dX2_run_101 : decode cX2_run 101 = .ok (.bipush 16, 2) := by decide +kernel
theorem dX2_run_103 : decode cX2_run 103 = .ok (.idiv, 1) := by decide +kernel
theorem dX2_run_104 : decode cX2_run 104 = .ok (.istore 6, 2) := by decide +kernel
theorem dX2_run_106 : decode cX2_run 106 = .ok (.goto 111, 3) := by decide +kernel
theorem dX2_run_109 : decode cX2_run 109 = .ok (.iload 5, 2) := by decide +kernel
theorem dX2_run_111 : decode cX2_run 111 = .ok (.iconst 1, 1) := by decide +kernel
theorem dX2_run_112 : decode cX2_run 112 = .ok (.if_icmp .ne 23, 3) := by decide +kernel
theorem dX2_run_115 : decode cX2_run 115 = .ok (.aload_n 0, 1) := by decide +kernel
theorem dX2_run_116 : decode cX2_run 116 = .ok (.getfield 15, 3) := by decide +kernel
theorem dX2_run_119 : decode cX2_run 119 = .ok (.aload_n 1, 1) := by decide +kernel
theorem dX2_run_120 : decode cX2_run 120 = .ok (.iload 4, 2) := by decide +kernel
theorem dX2_run_122 : decode cX2_run 122 = .ok (.iaload, 1) := by decide +kernel
theorem dX2_run_123 : decode cX2_run 123 = .ok (.bipush 16, 2) := by decide +kernel
theorem dX2_run_125 : decode cX2_run 125 = .ok (.idiv, 1) := by decide +kernel
theorem dX2_run_126 : decode cX2_run 126 = .ok (.bipush 7, 2) := by decide +kernel
theorem dX2_run_128 : decode cX2_run 128 = .ok (.iand, 1) := by decide +kernel
theorem dX2_run_129 : decode cX2_run 129 = .ok (.iaload, 1) := by decide +kernel
theorem dX2_run_130 : decode cX2_run 130 = .ok (.istore 6, 2) := by decide +kernel
theorem dX2_run_132 : decode cX2_run 132 = .ok (.goto 85, 3) := by decide +kernel
theorem dX2_run_135 : decode cX2_run 135 = .ok (.iload 5, 2) := by decide +kernel
theorem dX2_run_137 : decode cX2_run 137 = .ok (.iconst 2, 1) := by decide +kernel
theorem dX2_run_138 : decode cX2_run 138 = .ok (.if_icmp .ne 11, 3) := by decide +kernel
theorem dX2_run_141 : decode cX2_run 141 = .ok (.iload 6, 2) := by decide +kernel
theorem dX2_run_143 : decode cX2_run 143 = .ok (.ineg, 1) := by decide +kernel
theorem dX2_run_144 : decode cX2_run 144 = .ok (.istore 6, 2) := by decide +kernel
theorem dX2_run_146 : decode cX2_run 146 = .ok (.goto 71, 3) := by decide +kernel
theorem dX2_run_149 : decode cX2_run 149 = .ok (.iload 5, 2) := by decide +kernel
theorem dX2_run_151 : decode cX2_run 151 = .ok (.iconst 3, 1) := by decide +kernel
theorem dX2_run_152 : decode cX2_run 152 = .ok (.if_icmp .ne 13, 3) := by decide +kernel
theorem dX2_run_155 : decode cX2_run 155 = .ok (.iload 6, 2) := by decide +kernel
theorem dX2_run_157 : decode cX2_run 157 = .ok (.iload 7, 2) := by decide +kernel
theorem dX2_run_159 : decode cX2_run 159 = .ok (.iadd, 1) := by decide +kernel
theorem dX2_run_160 : decode cX2_run 160 = .ok (.istore 6, 2) := by decide +kernel
theorem dX2_run_162 : decode cX2_run 162 = .ok (.goto 55, 3) := by decide +kernel
theorem dX2_run_165 : decode cX2_run 165 = .ok (.iload 5, 2) := by decide +kernel
theorem dX2_run_167 : decode cX2_run 167 = .ok (.iconst 4, 1) := by decide +kernel
theorem dX2_run_168 : decode cX2_run 168 = .ok (.if_icmp .ne 13, 3) := by decide +kernel
theorem dX2_run_171 : decode cX2_run 171 = .ok (.iload 6, 2) := by decide +kernel
theorem dX2_run_173 : decode cX2_run 173 = .ok (.iload 7, 2) := by decide +kernel
theorem dX2_run_175 : decode cX2_run 175 = .ok (.isub, 1) := by decide +kernel
theorem dX2_run_176 : decode cX2_run 176 = .ok (.istore 6, 2) := by decide +kernel
theorem dX2_run_178 : decode cX2_run 178 = .ok (.goto 39, 3) := by decide +kernel
theorem dX2_run_181 : decode cX2_run 181 = .ok (.iload 5, 2) := by decide +kernel
theorem dX2_run_183 : decode cX2_run 183 = .ok (.iconst 5, 1) := by decide +kernel
theorem dX2_run_184 : decode cX2_run 184 = .ok (.if_icmp .ne 13, 3) := by decide +kernel
theorem dX2_run_187 : decode cX2_run 187 = .ok (.iload 6, 2) := by decide +kernel
theorem dX2_run_189 : decode cX2_run 189 = .ok (.iload 7, 2) := by decide +kernel
theorem dX2_run_191 : decode cX2_run 191 = .ok (.imul, 1) := by decide +kernel
theorem dX2_run_192 : decode cX2_run 192 = .ok (.istore 6, 2) := by decide +kernel
theorem dX2_run_194 : decode cX2_run 194 = .ok (.goto 23, 3) := by decide +kernel
theorem dX2_run_197 : decode cX2_run 197 = .ok (.iload 7, 2) := by decide +kernel
theorem dX2_run_199 : decode cX2_run 199 = .ok (.ifCond .eq 13, 3) := by decide +kernel
theorem dX2_run_202 : decode cX2_run 202 = .ok (.iload 6, 2) := by decide +kernel
theorem dX2_run_204 : decode cX2_run 204 = .ok (.iload 7, 2) := by decide +kernel
theorem dX2_run_206 : decode cX2_run 206 = .ok (.idiv, 1) := by decide +kernel
theorem dX2_run_207 : decode cX2_run 207 = .ok (.istore 6, 2) := by decide +kernel
theorem dX2_run_209 : decode cX2_run 209 = .ok (.goto 8, 3) := by decide +kernel
theorem dX2_run_212 : decode cX2_run 212 = .ok (.aload_n 0, 1) := by decide +kernel
theorem dX2_run_213 : decode cX2_run 213 = .ok (.iconst 1, 1) := by decide +kernel
theorem dX2_run_214 : decode cX2_run 214 = .ok (.putfield 26, 3) := by decide +kernel
theorem dX2_run_217 : decode cX2_run 217 = .ok (.aload_n 0, 1) := by decide +kernel
theorem dX2_run_218 : decode cX2_run 218 = .ok (.getfield 9, 3) := by decide +kernel
theorem dX2_run_221 : decode cX2_run 221 = .ok (.iload_n 3, 1) := by decide +kernel
theorem dX2_run_222 : decode cX2_run 222 = .ok (.bipush 63, 2) := by decide +kernel
theorem dX2_run_224 : decode cX2_run 224 = .ok (.iand, 1) := by decide +kernel
theorem dX2_run_225 : decode cX2_run 225 = .ok (.iload 6, 2) := by decide +kernel
theorem dX2_run_227 : decode cX2_run 227 = .ok (.iastore, 1) := by decide +kernel
theorem dX2_run_228 : decode cX2_run 228 = .ok (.iinc 4 1, 3) := by decide +kernel
theorem dX2_run_231 : decode cX2_run 231 = .ok (.goto (-213), 3) := by decide +kernel
theorem dX2_run_234 : decode cX2_run 234 = .ok (.iload 4, 2) := by decide +kernel
theorem dX2_run_236 : decode cX2_run 236 = .ok (.ireturn, 1) := by decide +kernel
theorem dX3_init_0 : decode cX3_init 0 = .ok (.aload_n 0, 1) := by decide +kernel
theorem dX3_init_1 : decode cX3_init 1 = .ok (.invokespecial 3, 3) := by decide +kernel
theorem dX3_init_4 : decode cX3_init 4 = .ok (.aload_n 0, 1) := by decide +kernel
theorem dX3_init_5 : decode cX3_init 5 = .ok (.bipush 40, 2) := by decide +kernel
theorem dX3_init_7 : decode cX3_init 7 = .ok (.newarray .int, 2) := by decide +kernel
theorem dX3_init_9 : decode cX3_init 9 = .ok (.putfield 11, 3) := by decide +kernel
theorem dX3_init_12 : decode cX3_init 12 = .ok (.aload_n 0, 1) := by decide +kernel
theorem dX3_init_13 : decode cX3_init 13 = .ok (.sipush 2079, 3) := by decide +kernel
theorem dX3_init_16 : decode cX3_init 16 = .ok (.newarray .int, 2) := by decide +kernel
theorem dX3_init_18 : decode cX3_init 18 = .ok (.putfield 15, 3) := by decide +kernel
theorem dX3_init_21 : decode cX3_init 21 = .ok (.aload_n 0, 1) := by decide +kernel
theorem dX3_init_22 : decode cX3_init 22 = .ok (.sipush 2079, 3) := by decide +kernel
theorem dX3_init_25 : decode cX3_init 25 = .ok (.newarray .int, 2) := by decide +kernel
theorem dX3_init_27 : decode cX3_init 27 = .ok (.putfield 18, 3) := by decide +kernel
theorem dX3_init_30 : decode cX3_init 30 = .ok (.aload_n 0, 1) := by decide +kernel
theorem dX3_init_31 : decode cX3_init 31 = .ok (.sipush 2079, 3) := by decide +kernel
theorem dX3_init_34 : decode cX3_init 34 = .ok (.newarray .int, 2) := by decide +kernel
theorem dX3_init_36 : decode cX3_init 36 = .ok (.putfield 21, 3) := by decide +kernel
theorem dX3_init_39 : decode cX3_init 39 = .ok (.aload_n 0, 1) := by decide +kernel
theorem dX3_init_40 : decode cX3_init 40 = .ok (.sipush 2079, 3) := by decide +kernel
theorem dX3_init_43 : decode cX3_init 43 = .ok (.newarray .int, 2) := by decide +kernel
theorem dX3_init_45 : decode cX3_init 45 = .ok (.putfield 24, 3) := by decide +kernel
theorem dX3_init_48 : decode cX3_init 48 = .ok (.aload_n 0, 1) := by decide +kernel
theorem dX3_init_49 : decode cX3_init 49 = .ok (.sipush 2079, 3) := by decide +kernel
theorem dX3_init_52 : decode cX3_init 52 = .ok (.newarray .int, 2) := by decide +kernel
theorem dX3_init_54 : decode cX3_init 54 = .ok (.putfield 27, 3) := by decide +kernel
theorem dX3_init_57 : decode cX3_init 57 = .ok (.aload_n 0, 1) := by decide +kernel
theorem dX3_init_58 : decode cX3_init 58 = .ok (.sipush 2079, 3) := by decide +kernel
theorem dX3_init_61 : decode cX3_init 61 = .ok (.newarray .int, 2) := by decide +kernel
theorem dX3_init_63 : decode cX3_init 63 = .ok (.putfield 30, 3) := by decide +kernel
theorem dX3_init_66 : decode cX3_init 66 = .ok (.aload_n 0, 1) := by decide +kernel
theorem dX3_init_67 : decode cX3_init 67 = .ok (.sipush 2079, 3) := by decide +kernel
theorem dX3_init_70 : decode cX3_init 70 = .ok (.newarray .long, 2) := by decide +kernel
theorem dX3_init_72 : decode cX3_init 72 = .ok (.putfield 33, 3) := by decide +kernel
theorem dX3_init_75 : decode cX3_init 75 = .ok (.aload_n 0, 1) := by decide +kernel
theorem dX3_init_76 : decode cX3_init 76 = .ok (.sipush 2079, 3) := by decide +kernel
theorem dX3_init_79 : decode cX3_init 79 = .ok (.newarray .long, 2) := by decide +kernel
theorem dX3_init_81 : decode cX3_init 81 = .ok (.putfield 37, 3) := by decide +kernel
theorem dX3_init_84 : decode cX3_init 84 = .ok (.aload_n 0, 1) := by decide +kernel
theorem dX3_init_85 : decode cX3_init 85 = .ok (.aload_n 1, 1) := by decide +kernel
theorem dX3_init_86 : decode cX3_init 86 = .ok (.putfield 40, 3) := by decide +kernel
theorem dX3_init_89 : decode cX3_init 89 = .ok (.aload_n 0, 1) := by decide +kernel
theorem dX3_init_90 : decode cX3_init 90 = .ok (.iconst (-1), 1) := by decide +kernel
theorem dX3_init_91 : decode cX3_init 91 = .ok (.putfield 44, 3) := by decide +kernel
theorem dX3_init_94 : decode cX3_init 94 = .ok (.aload_n 0, 1) := by decide +kernel
theorem dX3_init_95 : decode cX3_init 95 = .ok (.iconst (-1), 1) := by decide +kernel
theorem dX3_init_96 : decode cX3_init 96 = .ok (.putfield 48, 3) := by decide +kernel
theorem dX3_init_99 : decode cX3_init 99 = .ok (.return_, 1) := by decide +kernel
theorem dX3_dropLearned_0 : decode cX3_dropLearned 0 = .ok (.aload_n 0, 1) := by decide +kernel
theorem dX3_dropLearned_1 : decode cX3_dropLearned 1 = .ok (.getfield 51, 3) := by decide +kernel
theorem dX3_dropLearned_4 : decode cX3_dropLearned 4 = .ok (.istore_n 1, 1) := by decide +kernel
theorem dX3_dropLearned_5 : decode cX3_dropLearned 5 = .ok (.iconst 0, 1) := by decide +kernel
theorem dX3_dropLearned_6 : decode cX3_dropLearned 6 = .ok (.istore_n 2, 1) := by decide +kernel
theorem dX3_dropLearned_7 : decode cX3_dropLearned 7 = .ok (.iload_n 2, 1) := by decide +kernel
theorem dX3_dropLearned_8 : decode cX3_dropLearned 8 = .ok (.aload_n 0, 1) := by decide +kernel
theorem dX3_dropLearned_9 : decode cX3_dropLearned 9 = .ok (.getfield 51, 3) := by decide +kernel
theorem dX3_dropLearned_12 : decode cX3_dropLearned 12 = .ok (.if_icmp .ge 27, 3) := by decide +kernel
theorem dX3_dropLearned_15 : decode cX3_dropLearned 15 = .ok (.iload_n 2, 1) := by decide +kernel
theorem dX3_dropLearned_16 : decode cX3_dropLearned 16 = .ok (.bipush 40, 2) := by decide +kernel
theorem dX3_dropLearned_18 : decode cX3_dropLearned 18 = .ok (.if_icmp .ge 21, 3) := by decide +kernel
theorem dX3_dropLearned_21 : decode cX3_dropLearned 21 = .ok (.aload_n 0, 1) := by decide +kernel
theorem dX3_dropLearned_22 : decode cX3_dropLearned 22 = .ok (.getfield 15, 3) := by decide +kernel
theorem dX3_dropLearned_25 : decode cX3_dropLearned 25 = .ok (.aload_n 0, 1) := by decide +kernel
theorem dX3_dropLearned_26 : decode cX3_dropLearned 26 = .ok (.getfield 11, 3) := by decide +kernel
theorem dX3_dropLearned_29 : decode cX3_dropLearned 29 = .ok (.iload_n 2, 1) := by decide +kernel
theorem dX3_dropLearned_30 : decode cX3_dropLearned 30 = .ok (.iaload, 1) := by decide +kernel
theorem dX3_dropLearned_31 : decode cX3_dropLearned 31 = .ok (.iconst 0, 1) := by decide +kernel
theorem dX3_dropLearned_32 : decode cX3_dropLearned 32 = .ok (.iastore, 1) := by decide +kernel
theorem dX3_dropLearned_33 : decode cX3_dropLearned 33 = .ok (.iinc 2 1, 3) := by decide +kernel
theorem dX3_dropLearned_36 : decode cX3_dropLearned 36 = .ok (.goto (-29), 3) := by decide +kernel
theorem dX3_dropLearned_39 : decode cX3_dropLearned 39 = .ok (.aload_n 0, 1) := by decide +kernel
theorem dX3_dropLearned_40 : decode cX3_dropLearned 40 = .ok (.iconst 0, 1) := by decide +kernel
theorem dX3_dropLearned_41 : decode cX3_dropLearned 41 = .ok (.putfield 51, 3) := by decide +kernel
theorem dX3_dropLearned_44 : decode cX3_dropLearned 44 = .ok (.aload_n 0, 1) := by decide +kernel
theorem dX3_dropLearned_45 : decode cX3_dropLearned 45 = .ok (.iconst (-1), 1) := by decide +kernel
theorem dX3_dropLearned_46 : decode cX3_dropLearned 46 = .ok (.putfield 44, 3) := by decide +kernel
theorem dX3_dropLearned_49 : decode cX3_dropLearned 49 = .ok (.iload_n 1, 1) := by decide +kernel
theorem dX3_dropLearned_50 : decode cX3_dropLearned 50 = .ok (.ireturn, 1) := by decide +kernel
theorem dX3_actIn_0 : decode cX3_actIn 0 = .ok (.iload_n 1, 1) := by decide +kernel
theorem dX3_actIn_1 : decode cX3_actIn 1 = .ok (.ifCond .lt 23, 3) := by decide +kernel
theorem dX3_actIn_4 : decode cX3_actIn 4 = .ok (.iload_n 1, 1) := by decide +kernel
theorem dX3_actIn_5 : decode cX3_actIn 5 = .ok (.sipush 2079, 3) := by decide +kernel
theorem dX3_actIn_8 : decode cX3_actIn 8 = .ok (.if_icmp .ge 16, 3) := by decide +kernel
theorem dX3_actIn_11 : decode cX3_actIn 11 = .ok (.aload_n 0, 1) := by decide +kernel
theorem dX3_actIn_12 : decode cX3_actIn 12 = .ok (.getfield 15, 3) := by decide +kernel
theorem dX3_actIn_15 : decode cX3_actIn 15 = .ok (.iload_n 1, 1) := by decide +kernel
theorem dX3_actIn_16 : decode cX3_actIn 16 = .ok (.iaload, 1) := by decide +kernel
theorem dX3_actIn_17 : decode cX3_actIn 17 = .ok (.ifCond .le 7, 3) := by decide +kernel
theorem dX3_actIn_20 : decode cX3_actIn 20 = .ok (.iconst 1, 1) := by decide +kernel
theorem dX3_actIn_21 : decode cX3_actIn 21 = .ok (.goto 4, 3) := by decide +kernel
theorem dX3_actIn_24 : decode cX3_actIn 24 = .ok (.iconst 0, 1) := by decide +kernel
theorem dX3_actIn_25 : decode cX3_actIn 25 = .ok (.istore_n 2, 1) := by decide +kernel
theorem dX3_actIn_26 : decode cX3_actIn 26 = .ok (.iload_n 2, 1) := by decide +kernel
theorem dX3_actIn_27 : decode cX3_actIn 27 = .ok (.ifCond .eq 14, 3) := by decide +kernel
theorem dX3_actIn_30 : decode cX3_actIn 30 = .ok (.aload_n 0, 1) := by decide +kernel
theorem dX3_actIn_31 : decode cX3_actIn 31 = .ok (.getfield 15, 3) := by decide +kernel
theorem dX3_actIn_34 : decode cX3_actIn 34 = .ok (.iload_n 1, 1) := by decide +kernel
theorem dX3_actIn_35 : decode cX3_actIn 35 = .ok (.iaload, 1) := by decide +kernel
theorem dX3_actIn_36 : decode cX3_actIn 36 = .ok (.iconst 1, 1) := by decide +kernel
theorem dX3_actIn_37 : decode cX3_actIn 37 = .ok (.isub, 1) := by decide +kernel
theorem dX3_actIn_38 : decode cX3_actIn 38 = .ok (.goto 11, 3) := by decide +kernel
theorem dX3_actIn_41 : decode cX3_actIn 41 = .ok (.aload_n 0, 1) := by decide +kernel
theorem dX3_actIn_42 : decode cX3_actIn 42 = .ok (.getfield 40, 3) := by decide +kernel
theorem dX3_actIn_45 : decode cX3_actIn 45 = .ok (.iload_n 1, 1) := by decide +kernel
theorem dX3_actIn_46 : decode cX3_actIn 46 = .ok (.invokevirtual 54, 3) := by decide +kernel
theorem dX3_actIn_49 : decode cX3_actIn 49 = .ok (.ireturn, 1) := by decide +kernel
theorem dX3_behind_0 : decode cX3_behind 0 = .ok (.iload_n 2, 1) := by decide +kernel
theorem dX3_behind_1 : decode cX3_behind 1 = .ok (.ifCond .ge 8, 3) := by decide +kernel
theorem dX3_behind_4 : decode cX3_behind 4 = .ok (.bipush (-2), 2) := by decide +kernel
theorem dX3_behind_6 : decode cX3_behind 6 = .ok (.goto 13, 3) := by decide +kernel
theorem dX3_behind_9 : decode cX3_behind 9 = .ok (.aload_n 0, 1) := by decide +kernel
theorem dX3_behind_10 : decode cX3_behind 10 = .ok (.getfield 40, 3) := by decide +kernel
theorem dX3_behind_13 : decode cX3_behind 13 = .ok (.iload_n 1, 1) := by decide +kernel
theorem dX3_behind_14 : decode cX3_behind 14 = .ok (.iload_n 2, 1) := by decide +kernel
theorem dX3_behind_15 : decode cX3_behind 15 = .ok (.iload_n 3, 1) := by decide +kernel
theorem dX3_behind_16 : decode cX3_behind 16 = .ok (.invokevirtual 60, 3) := by decide +kernel
theorem dX3_behind_19 : decode cX3_behind 19 = .ok (.ireturn, 1) := by decide +kernel
theorem dX3_explore_0 : decode cX3_explore 0 = .ok (.aload_n 0, 1) := by decide +kernel
theorem dX3_explore_1 : decode cX3_explore 1 = .ok (.getfield 44, 3) := by decide +kernel
theorem dX3_explore_4 : decode cX3_explore 4 = .ok (.iload_n 1, 1) := by decide +kernel
theorem dX3_explore_5 : decode cX3_explore 5 = .ok (.if_icmp .ne 4, 3) := by decide +kernel
theorem dX3_explore_8 : decode cX3_explore 8 = .ok (.return_, 1) := by decide +kernel
theorem dX3_explore_9 : decode cX3_explore 9 = .ok (.aload_n 0, 1) := by decide +kernel
theorem dX3_explore_10 : decode cX3_explore 10 = .ok (.iload_n 1, 1) := by decide +kernel
theorem dX3_explore_11 : decode cX3_explore 11 = .ok (.putfield 44, 3) := by decide +kernel
theorem dX3_explore_14 : decode cX3_explore 14 = .ok (.aload_n 0, 1) := by decide +kernel
theorem dX3_explore_15 : decode cX3_explore 15 = .ok (.iconst (-1), 1) := by decide +kernel
theorem dX3_explore_16 : decode cX3_explore 16 = .ok (.putfield 48, 3) := by decide +kernel
theorem dX3_explore_19 : decode cX3_explore 19 = .ok (.aload_n 0, 1) := by decide +kernel
theorem dX3_explore_20 : decode cX3_explore 20 = .ok (.getfield 21, 3) := by decide +kernel
theorem dX3_explore_23 : decode cX3_explore 23 = .ok (.iconst (-1), 1) := by decide +kernel
theorem dX3_explore_24 : decode cX3_explore 24 = .ok (.invokestatic 64, 3) := by decide +kernel
theorem dX3_explore_27 : decode cX3_explore 27 = .ok (.aload_n 0, 1) := by decide +kernel
theorem dX3_explore_28 : decode cX3_explore 28 = .ok (.iconst 0, 1) := by decide +kernel
theorem dX3_explore_29 : decode cX3_explore 29 = .ok (.putfield 70, 3) := by decide +kernel
theorem dX3_explore_32 : decode cX3_explore 32 = .ok (.aload_n 0, 1) := by decide +kernel
theorem dX3_explore_33 : decode cX3_explore 33 = .ok (.iload_n 1, 1) := by decide +kernel
theorem dX3_explore_34 : decode cX3_explore 34 = .ok (.iconst (-1), 1) := by decide +kernel
theorem dX3_explore_35 : decode cX3_explore 35 = .ok (.iconst 0, 1) := by decide +kernel
theorem dX3_explore_36 : decode cX3_explore 36 = .ok (.invokevirtual 73, 3) := by decide +kernel
theorem dX3_explore_39 : decode cX3_explore 39 = .ok (.iconst 0, 1) := by decide +kernel
theorem dX3_explore_40 : decode cX3_explore 40 = .ok (.istore_n 2, 1) := by decide +kernel
theorem dX3_explore_41 : decode cX3_explore 41 = .ok (.iload_n 2, 1) := by decide +kernel
theorem dX3_explore_42 : decode cX3_explore 42 = .ok (.aload_n 0, 1) := by decide +kernel
theorem dX3_explore_43 : decode cX3_explore 43 = .ok (.getfield 70, 3) := by decide +kernel
theorem dX3_explore_46 : decode cX3_explore 46 = .ok (.if_icmp .ge 152, 3) := by decide +kernel
theorem dX3_explore_49 : decode cX3_explore 49 = .ok (.iload_n 2, 1) := by decide +kernel
theorem dX3_explore_50 : decode cX3_explore 50 = .ok (.sipush 2079, 3) := by decide +kernel
theorem dX3_explore_53 : decode cX3_explore 53 = .ok (.if_icmp .ge 145, 3) := by decide +kernel
theorem dX3_explore_56 : decode cX3_explore 56 = .ok (.aload_n 0, 1) := by decide +kernel
theorem dX3_explore_57 : decode cX3_explore 57 = .ok (.getfield 48, 3) := by decide +kernel
theorem dX3_explore_60 : decode cX3_explore 60 = .ok (.iconst (-1), 1) := by decide +kernel
theorem dX3_explore_61 : decode cX3_explore 61 = .ok (.if_icmp .ne 137, 3) := by decide +kernel
theorem dX3_explore_64 : decode cX3_explore 64 = .ok (.aload_n 0, 1) := by decide +kernel
theorem dX3_explore_65 : decode cX3_explore 65 = .ok (.getfield 18, 3) := by decide +kernel
theorem dX3_explore_68 : decode cX3_explore 68 = .ok (.iload_n 2, 1) := by decide +kernel
theorem dX3_explore_69 : decode cX3_explore 69 = .ok (.iaload, 1) := by decide +kernel
theorem dX3_explore_70 : decode cX3_explore 70 = .ok (.istore_n 3, 1) := by decide +kernel
theorem dX3_explore_71 : decode cX3_explore 71 = .ok (.aload_n 0, 1) := by decide +kernel
theorem dX3_explore_72 : decode cX3_explore 72 = .ok (.iload_n 3, 1) := by decide +kernel
theorem dX3_explore_73 : decode cX3_explore 73 = .ok (.invokevirtual 77, 3) := by decide +kernel
theorem dX3_explore_76 : decode cX3_explore 76 = .ok (.istore 4, 2) := by decide +kernel
theorem dX3_explore_78 : decode cX3_explore 78 = .ok (.aload_n 0, 1) := by decide +kernel
theorem dX3_explore_79 : decode cX3_explore 79 = .ok (.getfield 40, 3) := by decide +kernel
theorem dX3_explore_82 : decode cX3_explore 82 = .ok (.getfield 80, 3) := by decide +kernel
theorem dX3_explore_85 : decode cX3_explore 85 = .ok (.iload_n 3, 1) := by decide +kernel
theorem dX3_explore_86 : decode cX3_explore 86 = .ok (.invokevirtual 84, 3) := by decide +kernel
theorem dX3_explore_89 : decode cX3_explore 89 = .ok (.ifCond .eq 8, 3) := by decide +kernel
theorem dX3_explore_92 : decode cX3_explore 92 = .ok (.bipush (-13), 2) := by decide +kernel
theorem dX3_explore_94 : decode cX3_explore 94 = .ok (.goto 11, 3) := by decide +kernel
theorem dX3_explore_97 : decode cX3_explore 97 = .ok (.aload_n 0, 1) := by decide +kernel
theorem dX3_explore_98 : decode cX3_explore 98 = .ok (.getfield 40, 3) := by decide +kernel
theorem dX3_explore_101 : decode cX3_explore 101 = .ok (.iload_n 3, 1) := by decide +kernel
theorem dX3_explore_102 : decode cX3_explore 102 = .ok (.invokevirtual 90, 3) := by decide +kernel
theorem dX3_explore_105 : decode cX3_explore 105 = .ok (.istore 5, 2) := by decide +kernel
theorem dX3_explore_107 : decode cX3_explore 107 = .ok (.aload_n 0, 1) := by decide +kernel
theorem dX3_explore_108 : decode cX3_explore 108 = .ok (.getfield 40, 3) := by decide +kernel
theorem dX3_explore_111 : decode cX3_explore 111 = .ok (.iload_n 3, 1) := by decide +kernel
theorem dX3_explore_112 : decode cX3_explore 112 = .ok (.invokevirtual 93, 3) := by decide +kernel
theorem dX3_explore_115 : decode cX3_explore 115 = .ok (.istore 6, 2) := by decide +kernel
theorem dX3_explore_117 : decode cX3_explore 117 = .ok (.iload 6, 2) := by decide +kernel
theorem dX3_explore_119 : decode cX3_explore 119 = .ok (.iload 5, 2) := by decide +kernel
theorem dX3_explore_121 : decode cX3_explore 121 = .ok (.if_icmp .gt 71, 3) := by decide +kernel
theorem dX3_explore_124 : decode cX3_explore 124 = .ok (.aload_n 0, 1) := by decide +kernel
theorem dX3_explore_125 : decode cX3_explore 125 = .ok (.getfield 48, 3) := by decide +kernel
theorem dX3_explore_128 : decode cX3_explore 128 = .ok (.iconst (-1), 1) := by decide +kernel
theorem dX3_explore_129 : decode cX3_explore 129 = .ok (.if_icmp .ne 63, 3) := by decide +kernel
theorem dX3_explore_132 : decode cX3_explore 132 = .ok (.aload_n 0, 1) := by decide +kernel
theorem dX3_explore_133 : decode cX3_explore 133 = .ok (.iload_n 3, 1) := by decide +kernel
theorem dX3_explore_134 : decode cX3_explore 134 = .ok (.iload 4, 2) := by decide +kernel
theorem dX3_explore_136 : decode cX3_explore 136 = .ok (.iload 6, 2) := by decide +kernel
theorem dX3_explore_138 : decode cX3_explore 138 = .ok (.invokevirtual 96, 3) := by decide +kernel
theorem dX3_explore_141 : decode cX3_explore 141 = .ok (.istore 7, 2) := by decide +kernel
theorem dX3_explore_143 : decode cX3_explore 143 = .ok (.iload 7, 2) := by decide +kernel
theorem dX3_explore_145 : decode cX3_explore 145 = .ok (.ifCond .ge 17, 3) := by decide +kernel
theorem dX3_explore_148 : decode cX3_explore 148 = .ok (.aload_n 0, 1) := by decide +kernel
theorem dX3_explore_149 : decode cX3_explore 149 = .ok (.iload_n 3, 1) := by decide +kernel
theorem dX3_explore_150 : decode cX3_explore 150 = .ok (.putfield 48, 3) := by decide +kernel
theorem dX3_explore_153 : decode cX3_explore 153 = .ok (.aload_n 0, 1) := by decide +kernel
theorem dX3_explore_154 : decode cX3_explore 154 = .ok (.iload 6, 2) := by decide +kernel
theorem dX3_explore_156 : decode cX3_explore 156 = .ok (.putfield 99, 3) := by decide +kernel
theorem dX3_explore_159 : decode cX3_explore 159 = .ok (.goto 27, 3) := by decide +kernel
theorem dX3_explore_162 : decode cX3_explore 162 = .ok (.aload_n 0, 1) := by decide +kernel
theorem dX3_explore_163 : decode cX3_explore 163 = .ok (.getfield 40, 3) := by decide +kernel
theorem dX3_explore_166 : decode cX3_explore 166 = .ok (.getfield 80, 3) := by decide +kernel
theorem dX3_explore_169 : decode cX3_explore 169 = .ok (.iload 7, 2) := by decide +kernel
theorem dX3_explore_171 : decode cX3_explore 171 = .ok (.invokevirtual 84, 3) := by decide +kernel
theorem dX3_explore_174 : decode cX3_explore 174 = .ok (.ifCond .ne 12, 3) := by decide +kernel
theorem dX3_explore_177 : decode cX3_explore 177 = .ok (.aload_n 0, 1) := by decide +kernel
theorem dX3_explore_178 : decode cX3_explore 178 = .ok (.iload 7, 2) := by decide +kernel
theorem dX3_explore_180 : decode cX3_explore 180 = .ok (.iload_n 3, 1) := by decide +kernel
theorem dX3_explore_181 : decode cX3_explore 181 = .ok (.iload 6, 2) := by decide +kernel
theorem dX3_explore_183 : decode cX3_explore 183 = .ok (.invokevirtual 73, 3) := by decide +kernel
theorem dX3_explore_186 : decode cX3_explore 186 = .ok (.iinc 6 1, 3) := by decide +kernel
theorem dX3_explore_189 : decode cX3_explore 189 = .ok (.goto (-72), 3) := by decide +kernel
theorem dX3_explore_192 : decode cX3_explore 192 = .ok (.iinc 2 1, 3) := by decide +kernel
theorem dX3_explore_195 : decode cX3_explore 195 = .ok (.goto (-154), 3) := by decide +kernel
theorem dX3_explore_198 : decode cX3_explore 198 = .ok (.return_, 1) := by decide +kernel
theorem dX3_enqueue_0 : decode cX3_enqueue 0 = .ok (.iload_n 1, 1) := by decide +kernel
theorem dX3_enqueue_1 : decode cX3_enqueue 1 = .ok (.ifCond .lt 30, 3) := by decide +kernel
theorem dX3_enqueue_4 : decode cX3_enqueue 4 = .ok (.iload_n 1, 1) := by decide +kernel
theorem dX3_enqueue_5 : decode cX3_enqueue 5 = .ok (.sipush 2079, 3) := by decide +kernel
theorem dX3_enqueue_8 : decode cX3_enqueue 8 = .ok (.if_icmp .ge 23, 3) := by decide +kernel
theorem dX3_enqueue_11 : decode cX3_enqueue 11 = .ok (.aload_n 0, 1) := by decide +kernel
theorem dX3_enqueue_12 : decode cX3_enqueue 12 = .ok (.getfield 21, 3) := by decide +kernel
theorem dX3_enqueue_15 : decode cX3_enqueue 15 = .ok (.iload_n 1, 1) := by decide +kernel
theorem dX3_enqueue_16 : decode cX3_enqueue 16 = .ok (.iaload, 1) := by decide +kernel
theorem dX3_enqueue_17 : decode cX3_enqueue 17 = .ok (.iconst (-1), 1) := by decide +kernel
theorem dX3_enqueue_18 : decode cX3_enqueue 18 = .ok (.if_icmp .ne 13, 3) := by decide +kernel
theorem dX3_enqueue_21 : decode cX3_enqueue 21 = .ok (.aload_n 0, 1) := by decide +kernel
theorem dX3_enqueue_22 : decode cX3_enqueue 22 = .ok (.getfield 70, 3) := by decide +kernel
theorem dX3_enqueue_25 : decode cX3_enqueue 25 = .ok (.sipush 2079, 3) := by decide +kernel
theorem dX3_enqueue_28 : decode cX3_enqueue 28 = .ok (.if_icmp .lt 4, 3) := by decide +kernel
theorem dX3_enqueue_31 : decode cX3_enqueue 31 = .ok (.return_, 1) := by decide +kernel
theorem dX3_enqueue_32 : decode cX3_enqueue 32 = .ok (.aload_n 0, 1) := by decide +kernel
theorem dX3_enqueue_33 : decode cX3_enqueue 33 = .ok (.getfield 21, 3) := by decide +kernel
theorem dX3_enqueue_36 : decode cX3_enqueue 36 = .ok (.iload_n 1, 1) := by decide +kernel
theorem dX3_enqueue_37 : decode cX3_enqueue 37 = .ok (.iload_n 2, 1) := by decide +kernel
theorem dX3_enqueue_38 : decode cX3_enqueue 38 = .ok (.ifCond .ge 7, 3) := by decide +kernel
theorem dX3_enqueue_41 : decode cX3_enqueue 41 = .ok (.iconst 0, 1) := by decide +kernel
theorem dX3_enqueue_42 : decode cX3_enqueue 42 = .ok (.goto 11, 3) := by decide +kernel
theorem dX3_enqueue_45 : decode cX3_enqueue 45 = .ok (.aload_n 0, 1) := by decide +kernel
theorem dX3_enqueue_46 : decode cX3_enqueue 46 = .ok (.getfield 21, 3) := by decide +kernel
theorem dX3_enqueue_49 : decode cX3_enqueue 49 = .ok (.iload_n 2, 1) := by decide +kernel
theorem dX3_enqueue_50 : decode cX3_enqueue 50 = .ok (.iaload, 1) := by decide +kernel
theorem dX3_enqueue_51 : decode cX3_enqueue 51 = .ok (.iconst 1, 1) := by decide +kernel
theorem dX3_enqueue_52 : decode cX3_enqueue 52 = .ok (.iadd, 1) := by decide +kernel
theorem dX3_enqueue_53 : decode cX3_enqueue 53 = .ok (.iastore, 1) := by decide +kernel
theorem dX3_enqueue_54 : decode cX3_enqueue 54 = .ok (.aload_n 0, 1) := by decide +kernel
theorem dX3_enqueue_55 : decode cX3_enqueue 55 = .ok (.getfield 24, 3) := by decide +kernel
theorem dX3_enqueue_58 : decode cX3_enqueue 58 = .ok (.iload_n 1, 1) := by decide +kernel
theorem dX3_enqueue_59 : decode cX3_enqueue 59 = .ok (.iload_n 2, 1) := by decide +kernel
theorem dX3_enqueue_60 : decode cX3_enqueue 60 = .ok (.iastore, 1) := by decide +kernel
theorem dX3_enqueue_61 : decode cX3_enqueue 61 = .ok (.aload_n 0, 1) := by decide +kernel
theorem dX3_enqueue_62 : decode cX3_enqueue 62 = .ok (.getfield 27, 3) := by decide +kernel
theorem dX3_enqueue_65 : decode cX3_enqueue 65 = .ok (.iload_n 1, 1) := by decide +kernel
theorem dX3_enqueue_66 : decode cX3_enqueue 66 = .ok (.iload_n 3, 1) := by decide +kernel
theorem dX3_enqueue_67 : decode cX3_enqueue 67 = .ok (.iastore, 1) := by decide +kernel
theorem dX3_enqueue_68 : decode cX3_enqueue 68 = .ok (.aload_n 0, 1) := by decide +kernel
theorem dX3_enqueue_69 : decode cX3_enqueue 69 = .ok (.getfield 18, 3) := by decide +kernel
theorem dX3_enqueue_72 : decode cX3_enqueue 72 = .ok (.aload_n 0, 1) := by decide +kernel
theorem dX3_enqueue_73 : decode cX3_enqueue 73 = .ok (.getfield 70, 3) := by decide +kernel
theorem dX3_enqueue_76 : decode cX3_enqueue 76 = .ok (.iload_n 1, 1) := by decide +kernel
theorem dX3_enqueue_77 : decode cX3_enqueue 77 = .ok (.iastore, 1) := by decide +kernel
theorem dX3_enqueue_78 : decode cX3_enqueue 78 = .ok (.aload_n 0, 1) := by decide +kernel
theorem dX3_enqueue_79 : decode cX3_enqueue 79 = .ok (.dup, 1) := by decide +kernel
theorem dX3_enqueue_80 : decode cX3_enqueue 80 = .ok (.getfield 70, 3) := by decide +kernel
theorem dX3_enqueue_83 : decode cX3_enqueue 83 = .ok (.iconst 1, 1) := by decide +kernel
theorem dX3_enqueue_84 : decode cX3_enqueue 84 = .ok (.iadd, 1) := by decide +kernel
theorem dX3_enqueue_85 : decode cX3_enqueue 85 = .ok (.putfield 70, 3) := by decide +kernel
theorem dX3_enqueue_88 : decode cX3_enqueue 88 = .ok (.return_, 1) := by decide +kernel
theorem dX3_beatsToFall_0 : decode cX3_beatsToFall 0 = .ok (.aload_n 0, 1) := by decide +kernel
theorem dX3_beatsToFall_1 : decode cX3_beatsToFall 1 = .ok (.getfield 48, 3) := by decide +kernel
theorem dX3_beatsToFall_4 : decode cX3_beatsToFall 4 = .ok (.iconst (-1), 1) := by decide +kernel
theorem dX3_beatsToFall_5 : decode cX3_beatsToFall 5 = .ok (.if_icmp .ne 7, 3) := by decide +kernel
theorem dX3_beatsToFall_8 : decode cX3_beatsToFall 8 = .ok (.iconst 0, 1) := by decide +kernel
theorem dX3_beatsToFall_9 : decode cX3_beatsToFall 9 = .ok (.goto 14, 3) := by decide +kernel
theorem dX3_beatsToFall_12 : decode cX3_beatsToFall 12 = .ok (.aload_n 0, 1) := by decide +kernel
theorem dX3_beatsToFall_13 : decode cX3_beatsToFall 13 = .ok (.getfield 21, 3) := by decide +kernel
theorem dX3_beatsToFall_16 : decode cX3_beatsToFall 16 = .ok (.aload_n 0, 1) := by decide +kernel
theorem dX3_beatsToFall_17 : decode cX3_beatsToFall 17 = .ok (.getfield 48, 3) := by decide +kernel
theorem dX3_beatsToFall_20 : decode cX3_beatsToFall 20 = .ok (.iaload, 1) := by decide +kernel
theorem dX3_beatsToFall_21 : decode cX3_beatsToFall 21 = .ok (.iconst 1, 1) := by decide +kernel
theorem dX3_beatsToFall_22 : decode cX3_beatsToFall 22 = .ok (.iadd, 1) := by decide +kernel
theorem dX3_beatsToFall_23 : decode cX3_beatsToFall 23 = .ok (.ireturn, 1) := by decide +kernel
theorem dX3_witnessGust_0 : decode cX3_witnessGust 0 = .ok (.iload_n 1, 1) := by decide +kernel
theorem dX3_witnessGust_1 : decode cX3_witnessGust 1 = .ok (.ifCond .lt 11, 3) := by decide +kernel
theorem dX3_witnessGust_4 : decode cX3_witnessGust 4 = .ok (.iload_n 1, 1) := by decide +kernel
theorem dX3_witnessGust_5 : decode cX3_witnessGust 5 = .ok (.aload_n 0, 1) := by decide +kernel
theorem dX3_witnessGust_6 : decode cX3_witnessGust 6 = .ok (.invokevirtual 102, 3) := by decide +kernel
theorem dX3_witnessGust_9 : decode cX3_witnessGust 9 = .ok (.if_icmp .lt 6, 3) := by decide +kernel
theorem dX3_witnessGust_12 : decode cX3_witnessGust 12 = .ok (.bipush (-100), 2) := by decide +kernel
theorem dX3_witnessGust_14 : decode cX3_witnessGust 14 = .ok (.ireturn, 1) := by decide +kernel
theorem dX3_witnessGust_15 : decode cX3_witnessGust 15 = .ok (.aload_n 0, 1) := by decide +kernel
theorem dX3_witnessGust_16 : decode cX3_witnessGust 16 = .ok (.getfield 99, 3) := by decide +kernel
theorem dX3_witnessGust_19 : decode cX3_witnessGust 19 = .ok (.istore_n 2, 1) := by decide +kernel
theorem dX3_witnessGust_20 : decode cX3_witnessGust 20 = .ok (.aload_n 0, 1) := by decide +kernel
theorem dX3_witnessGust_21 : decode cX3_witnessGust 21 = .ok (.getfield 48, 3) := by decide +kernel
theorem dX3_witnessGust_24 : decode cX3_witnessGust 24 = .ok (.istore_n 3, 1) := by decide +kernel
theorem dX3_witnessGust_25 : decode cX3_witnessGust 25 = .ok (.aload_n 0, 1) := by decide +kernel
theorem dX3_witnessGust_26 : decode cX3_witnessGust 26 = .ok (.invokevirtual 102, 3) := by decide +kernel
theorem dX3_witnessGust_29 : decode cX3_witnessGust 29 = .ok (.iconst 1, 1) := by decide +kernel
theorem dX3_witnessGust_30 : decode cX3_witnessGust 30 = .ok (.isub, 1) := by decide +kernel
theorem dX3_witnessGust_31 : decode cX3_witnessGust 31 = .ok (.istore 4, 2) := by decide +kernel
theorem dX3_witnessGust_33 : decode cX3_witnessGust 33 = .ok (.iload 4, 2) := by decide +kernel
theorem dX3_witnessGust_35 : decode cX3_witnessGust 35 = .ok (.iload_n 1, 1) := by decide +kernel
theorem dX3_witnessGust_36 : decode cX3_witnessGust 36 = .ok (.if_icmp .le 27, 3) := by decide +kernel
theorem dX3_witnessGust_39 : decode cX3_witnessGust 39 = .ok (.iload_n 3, 1) := by decide +kernel
theorem dX3_witnessGust_40 : decode cX3_witnessGust 40 = .ok (.ifCond .lt 23, 3) := by decide +kernel
theorem dX3_witnessGust_43 : decode cX3_witnessGust 43 = .ok (.aload_n 0, 1) := by decide +kernel
theorem dX3_witnessGust_44 : decode cX3_witnessGust 44 = .ok (.getfield 27, 3) := by decide +kernel
theorem dX3_witnessGust_47 : decode cX3_witnessGust 47 = .ok (.iload_n 3, 1) := by decide +kernel
theorem dX3_witnessGust_48 : decode cX3_witnessGust 48 = .ok (.iaload, 1) := by decide +kernel
theorem dX3_witnessGust_49 : decode cX3_witnessGust 49 = .ok (.istore_n 2, 1) := by decide +kernel
theorem dX3_witnessGust_50 : decode cX3_witnessGust 50 = .ok (.aload_n 0, 1) := by decide +kernel
theorem dX3_witnessGust_51 : decode cX3_witnessGust 51 = .ok (.getfield 24, 3) := by decide +kernel
theorem dX3_witnessGust_54 : decode cX3_witnessGust 54 = .ok (.iload_n 3, 1) := by decide +kernel
theorem dX3_witnessGust_55 : decode cX3_witnessGust 55 = .ok (.iaload, 1) := by decide +kernel
theorem dX3_witnessGust_56 : decode cX3_witnessGust 56 = .ok (.istore_n 3, 1) := by decide +kernel
theorem dX3_witnessGust_57 : decode cX3_witnessGust 57 = .ok (.iinc 4 (-1), 3) := by decide +kernel
theorem dX3_witnessGust_60 : decode cX3_witnessGust 60 = .ok (.goto (-27), 3) := by decide +kernel
theorem dX3_witnessGust_63 : decode cX3_witnessGust 63 = .ok (.iload_n 2, 1) := by decide +kernel
theorem dX3_witnessGust_64 : decode cX3_witnessGust 64 = .ok (.ireturn, 1) := by decide +kernel
theorem dX3_longestWay_0 : decode cX3_longestWay 0 = .ok (.aload_n 0, 1) := by decide +kernel
theorem dX3_longestWay_1 : decode cX3_longestWay 1 = .ok (.getfield 48, 3) := by decide +kernel
theorem dX3_longestWay_4 : decode cX3_longestWay 4 = .ok (.iconst (-1), 1) := by decide +kernel
theorem dX3_longestWay_5 : decode cX3_longestWay 5 = .ok (.if_icmp .eq 6, 3) := by decide +kernel
theorem dX3_longestWay_8 : decode cX3_longestWay 8 = .ok (.bipush (-2), 2) := by decide +kernel
theorem dX3_longestWay_10 : decode cX3_longestWay 10 = .ok (.ireturn, 1) := by decide +kernel
theorem dX3_longestWay_11 : decode cX3_longestWay 11 = .ok (.iconst 0, 1) := by decide +kernel
theorem dX3_longestWay_12 : decode cX3_longestWay 12 = .ok (.istore_n 2, 1) := by decide +kernel
theorem dX3_longestWay_13 : decode cX3_longestWay 13 = .ok (.iload_n 2, 1) := by decide +kernel
theorem dX3_longestWay_14 : decode cX3_longestWay 14 = .ok (.aload_n 0, 1) := by decide +kernel
theorem dX3_longestWay_15 : decode cX3_longestWay 15 = .ok (.getfield 70, 3) := by decide +kernel
theorem dX3_longestWay_18 : decode cX3_longestWay 18 = .ok (.if_icmp .ge 44, 3) := by decide +kernel
theorem dX3_longestWay_21 : decode cX3_longestWay 21 = .ok (.aload_n 0, 1) := by decide +kernel
theorem dX3_longestWay_22 : decode cX3_longestWay 22 = .ok (.getfield 30, 3) := by decide +kernel
theorem dX3_longestWay_25 : decode cX3_longestWay 25 = .ok (.aload_n 0, 1) := by decide +kernel
theorem dX3_longestWay_26 : decode cX3_longestWay 26 = .ok (.getfield 18, 3) := by decide +kernel
theorem dX3_longestWay_29 : decode cX3_longestWay 29 = .ok (.iload_n 2, 1) := by decide +kernel
theorem dX3_longestWay_30 : decode cX3_longestWay 30 = .ok (.iaload, 1) := by decide +kernel
theorem dX3_longestWay_31 : decode cX3_longestWay 31 = .ok (.aload_n 0, 1) := by decide +kernel
theorem dX3_longestWay_32 : decode cX3_longestWay 32 = .ok (.getfield 40, 3) := by decide +kernel
theorem dX3_longestWay_35 : decode cX3_longestWay 35 = .ok (.getfield 80, 3) := by decide +kernel
theorem dX3_longestWay_38 : decode cX3_longestWay 38 = .ok (.aload_n 0, 1) := by decide +kernel
theorem dX3_longestWay_39 : decode cX3_longestWay 39 = .ok (.getfield 18, 3) := by decide +kernel
theorem dX3_longestWay_42 : decode cX3_longestWay 42 = .ok (.iload_n 2, 1) := by decide +kernel
theorem dX3_longestWay_43 : decode cX3_longestWay 43 = .ok (.iaload, 1) := by decide +kernel
theorem dX3_longestWay_44 : decode cX3_longestWay 44 = .ok (.invokevirtual 84, 3) := by decide +kernel
theorem dX3_longestWay_47 : decode cX3_longestWay 47 = .ok (.ifCond .eq 7, 3) := by decide +kernel
theorem dX3_longestWay_50 : decode cX3_longestWay 50 = .ok (.iconst 0, 1) := by decide +kernel
theorem dX3_longestWay_51 : decode cX3_longestWay 51 = .ok (.goto 4, 3) := by decide +kernel
theorem dX3_longestWay_54 : decode cX3_longestWay 54 = .ok (.iconst (-1), 1) := by decide +kernel
theorem dX3_longestWay_55 : decode cX3_longestWay 55 = .ok (.iastore, 1) := by decide +kernel
theorem dX3_longestWay_56 : decode cX3_longestWay 56 = .ok (.iinc 2 1, 3) := by decide +kernel
theorem dX3_longestWay_59 : decode cX3_longestWay 59 = .ok (.goto (-46), 3) := by decide +kernel
theorem dX3_longestWay_62 : decode cX3_longestWay 62 = .ok (.iconst 1, 1) := by decide +kernel
theorem dX3_longestWay_63 : decode cX3_longestWay 63 = .ok (.istore_n 2, 1) := by decide +kernel
theorem dX3_longestWay_64 : decode cX3_longestWay 64 = .ok (.iconst 0, 1) := by decide +kernel
theorem dX3_longestWay_65 : decode cX3_longestWay 65 = .ok (.istore_n 3, 1) := by decide +kernel
theorem dX3_longestWay_66 : decode cX3_longestWay 66 = .ok (.iload_n 3, 1) := by decide +kernel
theorem dX3_longestWay_67 : decode cX3_longestWay 67 = .ok (.sipush 2079, 3) := by decide +kernel
theorem dX3_longestWay_70 : decode cX3_longestWay 70 = .ok (.if_icmp .gt 98, 3) := by decide +kernel
theorem dX3_longestWay_73 : decode cX3_longestWay 73 = .ok (.iload_n 2, 1) := by decide +kernel
theorem dX3_longestWay_74 : decode cX3_longestWay 74 = .ok (.ifCond .eq 94, 3) := by decide +kernel
theorem dX3_longestWay_77 : decode cX3_longestWay 77 = .ok (.aload_n 0, 1) := by decide +kernel
theorem dX3_longestWay_78 : decode cX3_longestWay 78 = .ok (.getfield 30, 3) := by decide +kernel
theorem dX3_longestWay_81 : decode cX3_longestWay 81 = .ok (.iload_n 1, 1) := by decide +kernel
theorem dX3_longestWay_82 : decode cX3_longestWay 82 = .ok (.iaload, 1) := by decide +kernel
theorem dX3_longestWay_83 : decode cX3_longestWay 83 = .ok (.iconst (-1), 1) := by decide +kernel
theorem dX3_longestWay_84 : decode cX3_longestWay 84 = .ok (.if_icmp .ne 84, 3) := by decide +kernel
theorem dX3_longestWay_87 : decode cX3_longestWay 87 = .ok (.iconst 0, 1) := by decide +kernel
theorem dX3_longestWay_88 : decode cX3_longestWay 88 = .ok (.istore_n 2, 1) := by decide +kernel
theorem dX3_longestWay_89 : decode cX3_longestWay 89 = .ok (.aload_n 0, 1) := by decide +kernel
theorem dX3_longestWay_90 : decode cX3_longestWay 90 = .ok (.getfield 70, 3) := by decide +kernel
theorem dX3_longestWay_93 : decode cX3_longestWay 93 = .ok (.iconst 1, 1) := by decide +kernel
theorem dX3_longestWay_94 : decode cX3_longestWay 94 = .ok (.isub, 1) := by decide +kernel
theorem dX3_longestWay_95 : decode cX3_longestWay 95 = .ok (.istore 4, 2) := by decide +kernel
theorem dX3_longestWay_97 : decode cX3_longestWay 97 = .ok (.iload 4, 2) := by decide +kernel
theorem dX3_longestWay_99 : decode cX3_longestWay 99 = .ok (.ifCond .lt 63, 3) := by decide +kernel
theorem dX3_longestWay_102 : decode cX3_longestWay 102 = .ok (.aload_n 0, 1) := by decide +kernel
theorem dX3_longestWay_103 : decode cX3_longestWay 103 = .ok (.getfield 18, 3) := by decide +kernel
theorem dX3_longestWay_106 : decode cX3_longestWay 106 = .ok (.iload 4, 2) := by decide +kernel
theorem dX3_longestWay_108 : decode cX3_longestWay 108 = .ok (.iaload, 1) := by decide +kernel
theorem dX3_longestWay_109 : decode cX3_longestWay 109 = .ok (.istore 5, 2) := by decide +kernel
theorem dX3_longestWay_111 : decode cX3_longestWay 111 = .ok (.aload_n 0, 1) := by decide +kernel
theorem dX3_longestWay_112 : decode cX3_longestWay 112 = .ok (.getfield 30, 3) := by decide +kernel
theorem dX3_longestWay_115 : decode cX3_longestWay 115 = .ok (.iload 5, 2) := by decide +kernel
theorem dX3_longestWay_117 : decode cX3_longestWay 117 = .ok (.iaload, 1) := by decide +kernel
theorem dX3_longestWay_118 : decode cX3_longestWay 118 = .ok (.iconst (-1), 1) := by decide +kernel
theorem dX3_longestWay_119 : decode cX3_longestWay 119 = .ok (.if_icmp .ne 37, 3) := by decide +kernel
theorem dX3_longestWay_122 : decode cX3_longestWay 122 = .ok (.aload_n 0, 1) := by decide +kernel
theorem dX3_longestWay_123 : decode cX3_longestWay 123 = .ok (.getfield 30, 3) := by decide +kernel
theorem dX3_longestWay_126 : decode cX3_longestWay 126 = .ok (.iload 5, 2) := by decide +kernel
theorem dX3_longestWay_128 : decode cX3_longestWay 128 = .ok (.aload_n 0, 1) := by decide +kernel
theorem dX3_longestWay_129 : decode cX3_longestWay 129 = .ok (.iload 5, 2) := by decide +kernel
theorem dX3_longestWay_131 : decode cX3_longestWay 131 = .ok (.invokevirtual 106, 3) := by decide +kernel
theorem dX3_longestWay_134 : decode cX3_longestWay 134 = .ok (.iastore, 1) := by decide +kernel
theorem dX3_longestWay_135 : decode cX3_longestWay 135 = .ok (.iload_n 2, 1) := by decide +kernel
theorem dX3_longestWay_136 : decode cX3_longestWay 136 = .ok (.ifCond .ne 14, 3) := by decide +kernel
theorem dX3_longestWay_139 : decode cX3_longestWay 139 = .ok (.aload_n 0, 1) := by decide +kernel
theorem dX3_longestWay_140 : decode cX3_longestWay 140 = .ok (.getfield 30, 3) := by decide +kernel
theorem dX3_longestWay_143 : decode cX3_longestWay 143 = .ok (.iload 5, 2) := by decide +kernel
theorem dX3_longestWay_145 : decode cX3_longestWay 145 = .ok (.iaload, 1) := by decide +kernel
theorem dX3_longestWay_146 : decode cX3_longestWay 146 = .ok (.iconst (-1), 1) := by decide +kernel
theorem dX3_longestWay_147 : decode cX3_longestWay 147 = .ok (.if_icmp .eq 7, 3) := by decide +kernel
theorem dX3_longestWay_150 : decode cX3_longestWay 150 = .ok (.iconst 1, 1) := by decide +kernel
theorem dX3_longestWay_151 : decode cX3_longestWay 151 = .ok (.goto 4, 3) := by decide +kernel
theorem dX3_longestWay_154 : decode cX3_longestWay 154 = .ok (.iconst 0, 1) := by decide +kernel
theorem dX3_longestWay_155 : decode cX3_longestWay 155 = .ok (.istore_n 2, 1) := by decide +kernel
theorem dX3_longestWay_156 : decode cX3_longestWay 156 = .ok (.iinc 4 (-1), 3) := by decide +kernel
theorem dX3_longestWay_159 : decode cX3_longestWay 159 = .ok (.goto (-62), 3) := by decide +kernel
theorem dX3_longestWay_162 : decode cX3_longestWay 162 = .ok (.iinc 3 1, 3) := by decide +kernel
theorem dX3_longestWay_165 : decode cX3_longestWay 165 = .ok (.goto (-99), 3) := by decide +kernel
theorem dX3_longestWay_168 : decode cX3_longestWay 168 = .ok (.aload_n 0, 1) := by decide +kernel
theorem dX3_longestWay_169 : decode cX3_longestWay 169 = .ok (.getfield 30, 3) := by decide +kernel
theorem dX3_longestWay_172 : decode cX3_longestWay 172 = .ok (.iload_n 1, 1) := by decide +kernel
theorem dX3_longestWay_173 : decode cX3_longestWay 173 = .ok (.iaload, 1) := by decide +kernel
theorem dX3_longestWay_174 : decode cX3_longestWay 174 = .ok (.iconst (-1), 1) := by decide +kernel
theorem dX3_longestWay_175 : decode cX3_longestWay 175 = .ok (.if_icmp .ne 8, 3) := by decide +kernel
theorem dX3_longestWay_178 : decode cX3_longestWay 178 = .ok (.bipush (-2), 2) := by decide +kernel
theorem dX3_longestWay_180 : decode cX3_longestWay 180 = .ok (.goto 9, 3) := by decide +kernel
theorem dX3_longestWay_183 : decode cX3_longestWay 183 = .ok (.aload_n 0, 1) := by decide +kernel
theorem dX3_longestWay_184 : decode cX3_longestWay 184 = .ok (.getfield 30, 3) := by decide +kernel
theorem dX3_longestWay_187 : decode cX3_longestWay 187 = .ok (.iload_n 1, 1) := by decide +kernel
theorem dX3_longestWay_188 : decode cX3_longestWay 188 = .ok (.iaload, 1) := by decide +kernel
theorem dX3_longestWay_189 : decode cX3_longestWay 189 = .ok (.ireturn, 1) := by decide +kernel
theorem dX3_longestFrom_0 : decode cX3_longestFrom 0 = .ok (.aload_n 0, 1) := by decide +kernel
theorem dX3_longestFrom_1 : decode cX3_longestFrom 1 = .ok (.iload_n 1, 1) := by decide +kernel
theorem dX3_longestFrom_2 : decode cX3_longestFrom 2 = .ok (.invokevirtual 77, 3) := by decide +kernel
theorem dX3_longestFrom_5 : decode cX3_longestFrom 5 = .ok (.istore_n 2, 1) := by decide +kernel
theorem dX3_longestFrom_6 : decode cX3_longestFrom 6 = .ok (.iconst 0, 1) := by decide +kernel
theorem dX3_longestFrom_7 : decode cX3_longestFrom 7 = .ok (.istore_n 3, 1) := by decide +kernel
theorem dX3_longestFrom_8 : decode cX3_longestFrom 8 = .ok (.aload_n 0, 1) := by decide +kernel
theorem dX3_longestFrom_9 : decode cX3_longestFrom 9 = .ok (.getfield 40, 3) := by decide +kernel
theorem dX3_longestFrom_12 : decode cX3_longestFrom 12 = .ok (.iload_n 1, 1) := by decide +kernel
theorem dX3_longestFrom_13 : decode cX3_longestFrom 13 = .ok (.invokevirtual 93, 3) := by decide +kernel
theorem dX3_longestFrom_16 : decode cX3_longestFrom 16 = .ok (.istore 4, 2) := by decide +kernel
theorem dX3_longestFrom_18 : decode cX3_longestFrom 18 = .ok (.iload 4, 2) := by decide +kernel
theorem dX3_longestFrom_20 : decode cX3_longestFrom 20 = .ok (.aload_n 0, 1) := by decide +kernel
theorem dX3_longestFrom_21 : decode cX3_longestFrom 21 = .ok (.getfield 40, 3) := by decide +kernel
theorem dX3_longestFrom_24 : decode cX3_longestFrom 24 = .ok (.iload_n 1, 1) := by decide +kernel
theorem dX3_longestFrom_25 : decode cX3_longestFrom 25 = .ok (.invokevirtual 90, 3) := by decide +kernel
theorem dX3_longestFrom_28 : decode cX3_longestFrom 28 = .ok (.if_icmp .gt 77, 3) := by decide +kernel
theorem dX3_longestFrom_31 : decode cX3_longestFrom 31 = .ok (.aload_n 0, 1) := by decide +kernel
theorem dX3_longestFrom_32 : decode cX3_longestFrom 32 = .ok (.iload_n 1, 1) := by decide +kernel
theorem dX3_longestFrom_33 : decode cX3_longestFrom 33 = .ok (.iload_n 2, 1) := by decide +kernel
theorem dX3_longestFrom_34 : decode cX3_longestFrom 34 = .ok (.iload 4, 2) := by decide +kernel
theorem dX3_longestFrom_36 : decode cX3_longestFrom 36 = .ok (.invokevirtual 96, 3) := by decide +kernel
theorem dX3_longestFrom_39 : decode cX3_longestFrom 39 = .ok (.istore 5, 2) := by decide +kernel
theorem dX3_longestFrom_41 : decode cX3_longestFrom 41 = .ok (.iload 5, 2) := by decide +kernel
theorem dX3_longestFrom_43 : decode cX3_longestFrom 43 = .ok (.ifCond .ge 7, 3) := by decide +kernel
theorem dX3_longestFrom_46 : decode cX3_longestFrom 46 = .ok (.iconst (-1), 1) := by decide +kernel
theorem dX3_longestFrom_47 : decode cX3_longestFrom 47 = .ok (.goto 29, 3) := by decide +kernel
theorem dX3_longestFrom_50 : decode cX3_longestFrom 50 = .ok (.aload_n 0, 1) := by decide +kernel
theorem dX3_longestFrom_51 : decode cX3_longestFrom 51 = .ok (.getfield 40, 3) := by decide +kernel
theorem dX3_longestFrom_54 : decode cX3_longestFrom 54 = .ok (.getfield 80, 3) := by decide +kernel
theorem dX3_longestFrom_57 : decode cX3_longestFrom 57 = .ok (.iload 5, 2) := by decide +kernel
theorem dX3_longestFrom_59 : decode cX3_longestFrom 59 = .ok (.invokevirtual 84, 3) := by decide +kernel
theorem dX3_longestFrom_62 : decode cX3_longestFrom 62 = .ok (.ifCond .eq 7, 3) := by decide +kernel
theorem dX3_longestFrom_65 : decode cX3_longestFrom 65 = .ok (.iconst 0, 1) := by decide +kernel
theorem dX3_longestFrom_66 : decode cX3_longestFrom 66 = .ok (.goto 10, 3) := by decide +kernel
theorem dX3_longestFrom_69 : decode cX3_longestFrom 69 = .ok (.aload_n 0, 1) := by decide +kernel
theorem dX3_longestFrom_70 : decode cX3_longestFrom 70 = .ok (.getfield 30, 3) := by decide +kernel
theorem dX3_longestFrom_73 : decode cX3_longestFrom 73 = .ok (.iload 5, 2) := by decide +kernel
theorem dX3_longestFrom_75 : decode cX3_longestFrom 75 = .ok (.iaload, 1) := by decide +kernel
theorem dX3_longestFrom_76 : decode cX3_longestFrom 76 = .ok (.istore 6, 2) := by decide +kernel
theorem dX3_longestFrom_78 : decode cX3_longestFrom 78 = .ok (.iload 6, 2) := by decide +kernel
theorem dX3_longestFrom_80 : decode cX3_longestFrom 80 = .ok (.iconst (-1), 1) := by decide +kernel
theorem dX3_longestFrom_81 : decode cX3_longestFrom 81 = .ok (.if_icmp .ne 5, 3) := by decide +kernel
theorem dX3_longestFrom_84 : decode cX3_longestFrom 84 = .ok (.iconst (-1), 1) := by decide +kernel
theorem dX3_longestFrom_85 : decode cX3_longestFrom 85 = .ok (.ireturn, 1) := by decide +kernel
theorem dX3_longestFrom_86 : decode cX3_longestFrom 86 = .ok (.iload 6, 2) := by decide +kernel
theorem dX3_longestFrom_88 : decode cX3_longestFrom 88 = .ok (.iload_n 3, 1) := by decide +kernel
theorem dX3_longestFrom_89 : decode cX3_longestFrom 89 = .ok (.if_icmp .le 8, 3) := by decide +kernel
theorem dX3_longestFrom_92 : decode cX3_longestFrom 92 = .ok (.iload 6, 2) := by decide +kernel
theorem dX3_longestFrom_94 : decode cX3_longestFrom 94 = .ok (.goto 4, 3) := by decide +kernel
theorem dX3_longestFrom_97 : decode cX3_longestFrom 97 = .ok (.iload_n 3, 1) := by decide +kernel
theorem dX3_longestFrom_98 : decode cX3_longestFrom 98 = .ok (.istore_n 3, 1) := by decide +kernel
theorem dX3_longestFrom_99 : decode cX3_longestFrom 99 = .ok (.iinc 4 1, 3) := by decide +kernel
theorem dX3_longestFrom_102 : decode cX3_longestFrom 102 = .ok (.goto (-84), 3) := by decide +kernel
theorem dX3_longestFrom_105 : decode cX3_longestFrom 105 = .ok (.iload_n 3, 1) := by decide +kernel
theorem dX3_longestFrom_106 : decode cX3_longestFrom 106 = .ok (.iconst 1, 1) := by decide +kernel
theorem dX3_longestFrom_107 : decode cX3_longestFrom 107 = .ok (.iadd, 1) := by decide +kernel
theorem dX3_longestFrom_108 : decode cX3_longestFrom 108 = .ok (.ireturn, 1) := by decide +kernel
theorem dX3_countRows_0 : decode cX3_countRows 0 = .ok (.aload_n 0, 1) := by decide +kernel
theorem dX3_countRows_1 : decode cX3_countRows 1 = .ok (.getfield 40, 3) := by decide +kernel
theorem dX3_countRows_4 : decode cX3_countRows 4 = .ok (.getfield 80, 3) := by decide +kernel
theorem dX3_countRows_7 : decode cX3_countRows 7 = .ok (.getfield 109, 3) := by decide +kernel
theorem dX3_countRows_10 : decode cX3_countRows 10 = .ok (.sipush 231, 3) := by decide +kernel
theorem dX3_countRows_13 : decode cX3_countRows 13 = .ok (.imul, 1) := by decide +kernel
theorem dX3_countRows_14 : decode cX3_countRows 14 = .ok (.istore 4, 2) := by decide +kernel
theorem dX3_countRows_16 : decode cX3_countRows 16 = .ok (.aload_n 0, 1) := by decide +kernel
theorem dX3_countRows_17 : decode cX3_countRows 17 = .ok (.getfield 33, 3) := by decide +kernel
theorem dX3_countRows_20 : decode cX3_countRows 20 = .ok (.lconst 0, 1) := by decide +kernel
theorem dX3_countRows_21 : decode cX3_countRows 21 = .ok (.invokestatic 112, 3) := by decide +kernel
theorem dX3_countRows_24 : decode cX3_countRows 24 = .ok (.aload_n 0, 1) := by decide +kernel
theorem dX3_countRows_25 : decode cX3_countRows 25 = .ok (.getfield 37, 3) := by decide +kernel
theorem dX3_countRows_28 : decode cX3_countRows 28 = .ok (.lconst 0, 1) := by decide +kernel
theorem dX3_countRows_29 : decode cX3_countRows 29 = .ok (.invokestatic 112, 3) := by decide +kernel
theorem dX3_countRows_32 : decode cX3_countRows 32 = .ok (.aload_n 0, 1) := by decide +kernel
theorem dX3_countRows_33 : decode cX3_countRows 33 = .ok (.getfield 33, 3) := by decide +kernel
theorem dX3_countRows_36 : decode cX3_countRows 36 = .ok (.iload_n 1, 1) := by decide +kernel
theorem dX3_countRows_37 : decode cX3_countRows 37 = .ok (.lconst 1, 1) := by decide +kernel
theorem dX3_countRows_38 : decode cX3_countRows 38 = .ok (.lastore, 1) := by decide +kernel
theorem dX3_countRows_39 : decode cX3_countRows 39 = .ok (.lconst 0, 1) := by decide +kernel
theorem dX3_countRows_40 : decode cX3_countRows 40 = .ok (.lstore 5, 2) := by decide +kernel
theorem dX3_countRows_42 : decode cX3_countRows 42 = .ok (.iconst 0, 1) := by decide +kernel
theorem dX3_countRows_43 : decode cX3_countRows 43 = .ok (.istore 7, 2) := by decide +kernel
theorem dX3_countRows_45 : decode cX3_countRows 45 = .ok (.iload 7, 2) := by decide +kernel
theorem dX3_countRows_47 : decode cX3_countRows 47 = .ok (.iload_n 2, 1) := by decide +kernel
theorem dX3_countRows_48 : decode cX3_countRows 48 = .ok (.if_icmp .ge 106, 3) := by decide +kernel
theorem dX3_countRows_51 : decode cX3_countRows 51 = .ok (.iconst 0, 1) := by decide +kernel
theorem dX3_countRows_52 : decode cX3_countRows 52 = .ok (.istore 8, 2) := by decide +kernel
theorem dX3_countRows_54 : decode cX3_countRows 54 = .ok (.iload 8, 2) := by decide +kernel
theorem dX3_countRows_56 : decode cX3_countRows 56 = .ok (.iload 4, 2) := by decide +kernel
theorem dX3_countRows_58 : decode cX3_countRows 58 = .ok (.if_icmp .ge 48, 3) := by decide +kernel
theorem dX3_countRows_61 : decode cX3_countRows 61 = .ok (.iload 8, 2) := by decide +kernel
theorem dX3_countRows_63 : decode cX3_countRows 63 = .ok (.sipush 2079, 3) := by decide +kernel
theorem dX3_countRows_66 : decode cX3_countRows 66 = .ok (.if_icmp .ge 40, 3) := by decide +kernel
theorem dX3_countRows_69 : decode cX3_countRows 69 = .ok (.aload_n 0, 1) := by decide +kernel
theorem dX3_countRows_70 : decode cX3_countRows 70 = .ok (.getfield 33, 3) := by decide +kernel
theorem dX3_countRows_73 : decode cX3_countRows 73 = .ok (.iload 8, 2) := by decide +kernel
theorem dX3_countRows_75 : decode cX3_countRows 75 = .ok (.laload, 1) := by decide +kernel
theorem dX3_countRows_76 : decode cX3_countRows 76 = .ok (.lconst 0, 1) := by decide +kernel
theorem dX3_countRows_77 : decode cX3_countRows 77 = .ok (.lcmp, 1) := by decide +kernel
theorem dX3_countRows_78 : decode cX3_countRows 78 = .ok (.ifCond .eq 22, 3) := by decide +kernel
theorem dX3_countRows_81 : decode cX3_countRows 81 = .ok (.lload 5, 2) := by decide +kernel
theorem dX3_countRows_83 : decode cX3_countRows 83 = .ok (.aload_n 0, 1) := by decide +kernel
theorem dX3_countRows_84 : decode cX3_countRows 84 = .ok (.iload 8, 2) := by decide +kernel
theorem dX3_countRows_86 : decode cX3_countRows 86 = .ok (.invokevirtual 115, 3) := by decide +kernel
theorem dX3_countRows_89 : decode cX3_countRows 89 = .ok (.ladd, 1) := by decide +kernel
theorem dX3_countRows_90 : decode cX3_countRows 90 = .ok (.lstore 5, 2) := by decide +kernel
theorem dX3_countRows_92 : decode cX3_countRows 92 = .ok (.aload_n 0, 1) := by decide +kernel
theorem dX3_countRows_93 : decode cX3_countRows 93 = .ok (.getfield 33, 3) := by decide +kernel
theorem dX3_countRows_96 : decode cX3_countRows 96 = .ok (.iload 8, 2) := by decide +kernel
theorem dX3_countRows_98 : decode cX3_countRows 98 = .ok (.lconst 0, 1) := by decide +kernel
theorem dX3_countRows_99 : decode cX3_countRows 99 = .ok (.lastore, 1) := by decide +kernel
theorem dX3_countRows_100 : decode cX3_countRows 100 = .ok (.iinc 8 1, 3) := by decide +kernel
theorem dX3_countRows_103 : decode cX3_countRows 103 = .ok (.goto (-49), 3) := by decide +kernel
theorem dX3_countRows_106 : decode cX3_countRows 106 = .ok (.iconst 0, 1) := by decide +kernel
theorem dX3_countRows_107 : decode cX3_countRows 107 = .ok (.istore 8, 2) := by decide +kernel
theorem dX3_countRows_109 : decode cX3_countRows 109 = .ok (.iload 8, 2) := by decide +kernel
theorem dX3_countRows_111 : decode cX3_countRows 111 = .ok (.sipush 2079, 3) := by decide +kernel
theorem dX3_countRows_114 : decode cX3_countRows 114 = .ok (.if_icmp .ge 34, 3) := by decide +kernel
theorem dX3_countRows_117 : decode cX3_countRows 117 = .ok (.aload_n 0, 1) := by decide +kernel
theorem dX3_countRows_118 : decode cX3_countRows 118 = .ok (.getfield 33, 3) := by decide +kernel
theorem dX3_countRows_121 : decode cX3_countRows 121 = .ok (.iload 8, 2) := by decide +kernel
theorem dX3_countRows_123 : decode cX3_countRows 123 = .ok (.dup2, 1) := by decide +kernel
theorem dX3_countRows_124 : decode cX3_countRows 124 = .ok (.laload, 1) := by decide +kernel
theorem dX3_countRows_125 : decode cX3_countRows 125 = .ok (.aload_n 0, 1) := by decide +kernel
theorem dX3_countRows_126 : decode cX3_countRows 126 = .ok (.getfield 37, 3) := by decide +kernel
theorem dX3_countRows_129 : decode cX3_countRows 129 = .ok (.iload 8, 2) := by decide +kernel
theorem dX3_countRows_131 : decode cX3_countRows 131 = .ok (.laload, 1) := by decide +kernel
theorem dX3_countRows_132 : decode cX3_countRows 132 = .ok (.ladd, 1) := by decide +kernel
theorem dX3_countRows_133 : decode cX3_countRows 133 = .ok (.lastore, 1) := by decide +kernel
theorem dX3_countRows_134 : decode cX3_countRows 134 = .ok (.aload_n 0, 1) := by decide +kernel
theorem dX3_countRows_135 : decode cX3_countRows 135 = .ok (.getfield 37, 3) := by decide +kernel
theorem dX3_countRows_138 : decode cX3_countRows 138 = .ok (.iload 8, 2) := by decide +kernel
theorem dX3_countRows_140 : decode cX3_countRows 140 = .ok (.lconst 0, 1) := by decide +kernel
theorem dX3_countRows_141 : decode cX3_countRows 141 = .ok (.lastore, 1) := by decide +kernel
theorem dX3_countRows_142 : decode cX3_countRows 142 = .ok (.iinc 8 1, 3) := by decide +kernel
theorem dX3_countRows_145 : decode cX3_countRows 145 = .ok (.goto (-36), 3) := by decide +kernel
theorem dX3_countRows_148 : decode cX3_countRows 148 = .ok (.iinc 7 1, 3) := by decide +kernel
theorem dX3_countRows_151 : decode cX3_countRows 151 = .ok (.goto (-106), 3) := by decide +kernel
theorem dX3_countRows_154 : decode cX3_countRows 154 = .ok (.lconst 0, 1) := by decide +kernel
theorem dX3_countRows_155 : decode cX3_countRows 155 = .ok (.lstore 7, 2) := by decide +kernel
theorem dX3_countRows_157 : decode cX3_countRows 157 = .ok (.lconst 0, 1) := by decide +kernel
theorem dX3_countRows_158 : decode cX3_countRows 158 = .ok (.lstore 9, 2) := by decide +kernel
theorem dX3_countRows_160 : decode cX3_countRows 160 = .ok (.iconst 0, 1) := by decide +kernel
theorem dX3_countRows_161 : decode cX3_countRows 161 = .ok (.istore 11, 2) := by decide +kernel
theorem dX3_countRows_163 : decode cX3_countRows 163 = .ok (.iload 11, 2) := by decide +kernel
theorem dX3_countRows_165 : decode cX3_countRows 165 = .ok (.sipush 2079, 3) := by decide +kernel
theorem dX3_countRows_168 : decode cX3_countRows 168 = .ok (.if_icmp .ge 55, 3) := by decide +kernel
theorem dX3_countRows_171 : decode cX3_countRows 171 = .ok (.lload 7, 2) := by decide +kernel
theorem dX3_countRows_173 : decode cX3_countRows 173 = .ok (.iload 11, 2) := by decide +kernel
theorem dX3_countRows_175 : decode cX3_countRows 175 = .ok (.iload 4, 2) := by decide +kernel
theorem dX3_countRows_177 : decode cX3_countRows 177 = .ok (.if_icmp .lt 13, 3) := by decide +kernel
theorem dX3_countRows_180 : decode cX3_countRows 180 = .ok (.aload_n 0, 1) := by decide +kernel
theorem dX3_countRows_181 : decode cX3_countRows 181 = .ok (.getfield 33, 3) := by decide +kernel
theorem dX3_countRows_184 : decode cX3_countRows 184 = .ok (.iload 11, 2) := by decide +kernel
theorem dX3_countRows_186 : decode cX3_countRows 186 = .ok (.laload, 1) := by decide +kernel
theorem dX3_countRows_187 : decode cX3_countRows 187 = .ok (.goto 4, 3) := by decide +kernel
theorem dX3_countRows_190 : decode cX3_countRows 190 = .ok (.lconst 0, 1) := by decide +kernel
theorem dX3_countRows_191 : decode cX3_countRows 191 = .ok (.ladd, 1) := by decide +kernel
theorem dX3_countRows_192 : decode cX3_countRows 192 = .ok (.lstore 7, 2) := by decide +kernel
theorem dX3_countRows_194 : decode cX3_countRows 194 = .ok (.lload 9, 2) := by decide +kernel
theorem dX3_countRows_196 : decode cX3_countRows 196 = .ok (.iload 11, 2) := by decide +kernel
theorem dX3_countRows_198 : decode cX3_countRows 198 = .ok (.iload 4, 2) := by decide +kernel
theorem dX3_countRows_200 : decode cX3_countRows 200 = .ok (.if_icmp .ge 13, 3) := by decide +kernel
theorem dX3_countRows_203 : decode cX3_countRows 203 = .ok (.aload_n 0, 1) := by decide +kernel
theorem dX3_countRows_204 : decode cX3_countRows 204 = .ok (.getfield 33, 3) := by decide +kernel
theorem dX3_countRows_207 : decode cX3_countRows 207 = .ok (.iload 11, 2) := by decide +kernel
theorem dX3_countRows_209 : decode cX3_countRows 209 = .ok (.laload, 1) := by decide +kernel
theorem dX3_countRows_210 : decode cX3_countRows 210 = .ok (.goto 4, 3) := by decide +kernel
theorem dX3_countRows_213 : decode cX3_countRows 213 = .ok (.lconst 0, 1) := by decide +kernel
theorem dX3_countRows_214 : decode cX3_countRows 214 = .ok (.ladd, 1) := by decide +kernel
theorem dX3_countRows_215 : decode cX3_countRows 215 = .ok (.lstore 9, 2) := by decide +kernel
theorem dX3_countRows_217 : decode cX3_countRows 217 = .ok (.iinc 11 1, 3) := by decide +kernel
theorem dX3_countRows_220 : decode cX3_countRows 220 = .ok (.goto (-57), 3) := by decide +kernel
theorem dX3_countRows_223 : decode cX3_countRows 223 = .ok (.iload_n 3, 1) := by decide +kernel
theorem dX3_countRows_224 : decode cX3_countRows 224 = .ok (.ifCond .ne 8, 3) := by decide +kernel
theorem dX3_countRows_227 : decode cX3_countRows 227 = .ok (.lload 5, 2) := by decide +kernel
theorem dX3_countRows_229 : decode cX3_countRows 229 = .ok (.goto 21, 3) := by decide +kernel
theorem dX3_countRows_232 : decode cX3_countRows 232 = .ok (.iload_n 3, 1) := by decide +kernel
theorem dX3_countRows_233 : decode cX3_countRows 233 = .ok (.iconst 1, 1) := by decide +kernel
theorem dX3_countRows_234 : decode cX3_countRows 234 = .ok (.if_icmp .ne 8, 3) := by decide +kernel
theorem dX3_countRows_237 : decode cX3_countRows 237 = .ok (.lload 7, 2) := by decide +kernel
theorem dX3_countRows_239 : decode cX3_countRows 239 = .ok (.goto 11, 3) := by decide +kernel
theorem dX3_countRows_242 : decode cX3_countRows 242 = .ok (.lload 5, 2) := by decide +kernel
theorem dX3_countRows_244 : decode cX3_countRows 244 = .ok (.lload 7, 2) := by decide +kernel
theorem dX3_countRows_246 : decode cX3_countRows 246 = .ok (.ladd, 1) := by decide +kernel
theorem dX3_countRows_247 : decode cX3_countRows 247 = .ok (.lload 9, 2) := by decide +kernel
theorem dX3_countRows_249 : decode cX3_countRows 249 = .ok (.ladd, 1) := by decide +kernel
theorem dX3_countRows_250 : decode cX3_countRows 250 = .ok (.lreturn, 1) := by decide +kernel
theorem dX3_spread_0 : decode cX3_spread 0 = .ok (.lconst 0, 1) := by decide +kernel
theorem dX3_spread_1 : decode cX3_spread 1 = .ok (.lstore_n 2, 1) := by decide +kernel
theorem dX3_spread_2 : decode cX3_spread 2 = .ok (.aload_n 0, 1) := by decide +kernel
theorem dX3_spread_3 : decode cX3_spread 3 = .ok (.iload_n 1, 1) := by decide +kernel
theorem dX3_spread_4 : decode cX3_spread 4 = .ok (.invokevirtual 77, 3) := by decide +kernel
theorem dX3_spread_7 : decode cX3_spread 7 = .ok (.istore 4, 2) := by decide +kernel
theorem dX3_spread_9 : decode cX3_spread 9 = .ok (.aload_n 0, 1) := by decide +kernel
theorem dX3_spread_10 : decode cX3_spread 10 = .ok (.getfield 40, 3) := by decide +kernel
theorem dX3_spread_13 : decode cX3_spread 13 = .ok (.iload_n 1, 1) := by decide +kernel
theorem dX3_spread_14 : decode cX3_spread 14 = .ok (.invokevirtual 93, 3) := by decide +kernel
theorem dX3_spread_17 : decode cX3_spread 17 = .ok (.istore 5, 2) := by decide +kernel
theorem dX3_spread_19 : decode cX3_spread 19 = .ok (.iload 5, 2) := by decide +kernel
theorem dX3_spread_21 : decode cX3_spread 21 = .ok (.aload_n 0, 1) := by decide +kernel
theorem dX3_spread_22 : decode cX3_spread 22 = .ok (.getfield 40, 3) := by decide +kernel
theorem dX3_spread_25 : decode cX3_spread 25 = .ok (.iload_n 1, 1) := by decide +kernel
theorem dX3_spread_26 : decode cX3_spread 26 = .ok (.invokevirtual 90, 3) := by decide +kernel
theorem dX3_spread_29 : decode cX3_spread 29 = .ok (.if_icmp .gt 53, 3) := by decide +kernel
theorem dX3_spread_32 : decode cX3_spread 32 = .ok (.aload_n 0, 1) := by decide +kernel
theorem dX3_spread_33 : decode cX3_spread 33 = .ok (.iload_n 1, 1) := by decide +kernel
theorem dX3_spread_34 : decode cX3_spread 34 = .ok (.iload 4, 2) := by decide +kernel
theorem dX3_spread_36 : decode cX3_spread 36 = .ok (.iload 5, 2) := by decide +kernel
theorem dX3_spread_38 : decode cX3_spread 38 = .ok (.invokevirtual 96, 3) := by decide +kernel
theorem dX3_spread_41 : decode cX3_spread 41 = .ok (.istore 6, 2) := by decide +kernel
theorem dX3_spread_43 : decode cX3_spread 43 = .ok (.iload 6, 2) := by decide +kernel
theorem dX3_spread_45 : decode cX3_spread 45 = .ok (.ifCond .ge 15, 3) := by decide +kernel
theorem dX3_spread_48 : decode cX3_spread 48 = .ok (.lload_n 2, 1) := by decide +kernel
theorem dX3_spread_49 : decode cX3_spread 49 = .ok (.aload_n 0, 1) := by decide +kernel
theorem dX3_spread_50 : decode cX3_spread 50 = .ok (.getfield 33, 3) := by decide +kernel
theorem dX3_spread_53 : decode cX3_spread 53 = .ok (.iload_n 1, 1) := by decide +kernel
theorem dX3_spread_54 : decode cX3_spread 54 = .ok (.laload, 1) := by decide +kernel
theorem dX3_spread_55 : decode cX3_spread 55 = .ok (.ladd, 1) := by decide +kernel
theorem dX3_spread_56 : decode cX3_spread 56 = .ok (.lstore_n 2, 1) := by decide +kernel
theorem dX3_spread_57 : decode cX3_spread 57 = .ok (.goto 19, 3) := by decide +kernel
theorem dX3_spread_60 : decode cX3_spread 60 = .ok (.aload_n 0, 1) := by decide +kernel
theorem dX3_spread_61 : decode cX3_spread 61 = .ok (.getfield 37, 3) := by decide +kernel
theorem dX3_spread_64 : decode cX3_spread 64 = .ok (.iload 6, 2) := by decide +kernel
theorem dX3_spread_66 : decode cX3_spread 66 = .ok (.dup2, 1) := by decide +kernel
theorem dX3_spread_67 : decode cX3_spread 67 = .ok (.laload, 1) := by decide +kernel
theorem dX3_spread_68 : decode cX3_spread 68 = .ok (.aload_n 0, 1) := by decide +kernel
theorem dX3_spread_69 : decode cX3_spread 69 = .ok (.getfield 33, 3) := by decide +kernel
theorem dX3_spread_72 : decode cX3_spread 72 = .ok (.iload_n 1, 1) := by decide +kernel
theorem dX3_spread_73 : decode cX3_spread 73 = .ok (.laload, 1) := by decide +kernel
theorem dX3_spread_74 : decode cX3_spread 74 = .ok (.ladd, 1) := by decide +kernel
theorem dX3_spread_75 : decode cX3_spread 75 = .ok (.lastore, 1) := by decide +kernel
theorem dX3_spread_76 : decode cX3_spread 76 = .ok (.iinc 5 1, 3) := by decide +kernel
theorem dX3_spread_79 : decode cX3_spread 79 = .ok (.goto (-60), 3) := by decide +kernel
theorem dX3_spread_82 : decode cX3_spread 82 = .ok (.lload_n 2, 1) := by decide +kernel
theorem dX3_spread_83 : decode cX3_spread 83 = .ok (.lreturn, 1) := by decide +kernel
theorem dX3_learnFrom_0 : decode cX3_learnFrom 0 = .ok (.aload_n 0, 1) := by decide +kernel
theorem dX3_learnFrom_1 : decode cX3_learnFrom 1 = .ok (.getfield 51, 3) := by decide +kernel
theorem dX3_learnFrom_4 : decode cX3_learnFrom 4 = .ok (.istore_n 3, 1) := by decide +kernel
theorem dX3_learnFrom_5 : decode cX3_learnFrom 5 = .ok (.iconst 1, 1) := by decide +kernel
theorem dX3_learnFrom_6 : decode cX3_learnFrom 6 = .ok (.istore 4, 2) := by decide +kernel
theorem dX3_learnFrom_8 : decode cX3_learnFrom 8 = .ok (.iconst 0, 1) := by decide +kernel
theorem dX3_learnFrom_9 : decode cX3_learnFrom 9 = .ok (.istore 5, 2) := by decide +kernel
theorem dX3_learnFrom_11 : decode cX3_learnFrom 11 = .ok (.iload 5, 2) := by decide +kernel
theorem dX3_learnFrom_13 : decode cX3_learnFrom 13 = .ok (.bipush 40, 2) := by decide +kernel
theorem dX3_learnFrom_15 : decode cX3_learnFrom 15 = .ok (.if_icmp .ge 143, 3) := by decide +kernel
theorem dX3_learnFrom_18 : decode cX3_learnFrom 18 = .ok (.aload_n 0, 1) := by decide +kernel
theorem dX3_learnFrom_19 : decode cX3_learnFrom 19 = .ok (.getfield 51, 3) := by decide +kernel
theorem dX3_learnFrom_22 : decode cX3_learnFrom 22 = .ok (.bipush 40, 2) := by decide +kernel
theorem dX3_learnFrom_24 : decode cX3_learnFrom 24 = .ok (.if_icmp .ge 134, 3) := by decide +kernel
theorem dX3_learnFrom_27 : decode cX3_learnFrom 27 = .ok (.iload 4, 2) := by decide +kernel
theorem dX3_learnFrom_29 : decode cX3_learnFrom 29 = .ok (.ifCond .eq 129, 3) := by decide +kernel
theorem dX3_learnFrom_32 : decode cX3_learnFrom 32 = .ok (.aload_n 0, 1) := by decide +kernel
theorem dX3_learnFrom_33 : decode cX3_learnFrom 33 = .ok (.iload_n 1, 1) := by decide +kernel
theorem dX3_learnFrom_34 : decode cX3_learnFrom 34 = .ok (.invokevirtual 119, 3) := by decide +kernel
theorem dX3_learnFrom_37 : decode cX3_learnFrom 37 = .ok (.aload_n 0, 1) := by decide +kernel
theorem dX3_learnFrom_38 : decode cX3_learnFrom 38 = .ok (.getfield 48, 3) := by decide +kernel
theorem dX3_learnFrom_41 : decode cX3_learnFrom 41 = .ok (.istore 6, 2) := by decide +kernel
theorem dX3_learnFrom_43 : decode cX3_learnFrom 43 = .ok (.iconst 0, 1) := by decide +kernel
theorem dX3_learnFrom_44 : decode cX3_learnFrom 44 = .ok (.istore 7, 2) := by decide +kernel
theorem dX3_learnFrom_46 : decode cX3_learnFrom 46 = .ok (.iload 7, 2) := by decide +kernel
theorem dX3_learnFrom_48 : decode cX3_learnFrom 48 = .ok (.sipush 2079, 3) := by decide +kernel
theorem dX3_learnFrom_51 : decode cX3_learnFrom 51 = .ok (.if_icmp .ge 42, 3) := by decide +kernel
theorem dX3_learnFrom_54 : decode cX3_learnFrom 54 = .ok (.iload 6, 2) := by decide +kernel
theorem dX3_learnFrom_56 : decode cX3_learnFrom 56 = .ok (.ifCond .lt 37, 3) := by decide +kernel
theorem dX3_learnFrom_59 : decode cX3_learnFrom 59 = .ok (.aload_n 2, 1) := by decide +kernel
theorem dX3_learnFrom_60 : decode cX3_learnFrom 60 = .ok (.iload 6, 2) := by decide +kernel
theorem dX3_learnFrom_62 : decode cX3_learnFrom 62 = .ok (.invokevirtual 123, 3) := by decide +kernel
theorem dX3_learnFrom_65 : decode cX3_learnFrom 65 = .ok (.ifCond .eq 13, 3) := by decide +kernel
theorem dX3_learnFrom_68 : decode cX3_learnFrom 68 = .ok (.aload_n 0, 1) := by decide +kernel
theorem dX3_learnFrom_69 : decode cX3_learnFrom 69 = .ok (.getfield 15, 3) := by decide +kernel
theorem dX3_learnFrom_72 : decode cX3_learnFrom 72 = .ok (.iload 6, 2) := by decide +kernel
theorem dX3_learnFrom_74 : decode cX3_learnFrom 74 = .ok (.iaload, 1) := by decide +kernel
theorem dX3_learnFrom_75 : decode cX3_learnFrom 75 = .ok (.ifCond .eq 18, 3) := by decide +kernel
theorem dX3_learnFrom_78 : decode cX3_learnFrom 78 = .ok (.aload_n 0, 1) := by decide +kernel
theorem dX3_learnFrom_79 : decode cX3_learnFrom 79 = .ok (.getfield 24, 3) := by decide +kernel
theorem dX3_learnFrom_82 : decode cX3_learnFrom 82 = .ok (.iload 6, 2) := by decide +kernel
theorem dX3_learnFrom_84 : decode cX3_learnFrom 84 = .ok (.iaload, 1) := by decide +kernel
theorem dX3_learnFrom_85 : decode cX3_learnFrom 85 = .ok (.istore 6, 2) := by decide +kernel
theorem dX3_learnFrom_87 : decode cX3_learnFrom 87 = .ok (.iinc 7 1, 3) := by decide +kernel
theorem dX3_learnFrom_90 : decode cX3_learnFrom 90 = .ok (.goto (-44), 3) := by decide +kernel
theorem dX3_learnFrom_93 : decode cX3_learnFrom 93 = .ok (.iload 6, 2) := by decide +kernel
theorem dX3_learnFrom_95 : decode cX3_learnFrom 95 = .ok (.ifCond .lt 7, 3) := by decide +kernel
theorem dX3_learnFrom_98 : decode cX3_learnFrom 98 = .ok (.iconst 1, 1) := by decide +kernel
theorem dX3_learnFrom_99 : decode cX3_learnFrom 99 = .ok (.goto 4, 3) := by decide +kernel
theorem dX3_learnFrom_102 : decode cX3_learnFrom 102 = .ok (.iconst 0, 1) := by decide +kernel
theorem dX3_learnFrom_103 : decode cX3_learnFrom 103 = .ok (.istore 4, 2) := by decide +kernel
theorem dX3_learnFrom_105 : decode cX3_learnFrom 105 = .ok (.iload 4, 2) := by decide +kernel
theorem dX3_learnFrom_107 : decode cX3_learnFrom 107 = .ok (.ifCond .eq 45, 3) := by decide +kernel
theorem dX3_learnFrom_110 : decode cX3_learnFrom 110 = .ok (.aload_n 0, 1) := by decide +kernel
theorem dX3_learnFrom_111 : decode cX3_learnFrom 111 = .ok (.getfield 15, 3) := by decide +kernel
theorem dX3_learnFrom_114 : decode cX3_learnFrom 114 = .ok (.iload 6, 2) := by decide +kernel
theorem dX3_learnFrom_116 : decode cX3_learnFrom 116 = .ok (.aload_n 2, 1) := by decide +kernel
theorem dX3_learnFrom_117 : decode cX3_learnFrom 117 = .ok (.getfield 128, 3) := by decide +kernel
theorem dX3_learnFrom_120 : decode cX3_learnFrom 120 = .ok (.iload 6, 2) := by decide +kernel
theorem dX3_learnFrom_122 : decode cX3_learnFrom 122 = .ok (.iaload, 1) := by decide +kernel
theorem dX3_learnFrom_123 : decode cX3_learnFrom 123 = .ok (.iconst 1, 1) := by decide +kernel
theorem dX3_learnFrom_124 : decode cX3_learnFrom 124 = .ok (.iadd, 1) := by decide +kernel
theorem dX3_learnFrom_125 : decode cX3_learnFrom 125 = .ok (.iastore, 1) := by decide +kernel
theorem dX3_learnFrom_126 : decode cX3_learnFrom 126 = .ok (.aload_n 0, 1) := by decide +kernel
theorem dX3_learnFrom_127 : decode cX3_learnFrom 127 = .ok (.getfield 11, 3) := by decide +kernel
theorem dX3_learnFrom_130 : decode cX3_learnFrom 130 = .ok (.aload_n 0, 1) := by decide +kernel
theorem dX3_learnFrom_131 : decode cX3_learnFrom 131 = .ok (.getfield 51, 3) := by decide +kernel
theorem dX3_learnFrom_134 : decode cX3_learnFrom 134 = .ok (.iload 6, 2) := by decide +kernel
theorem dX3_learnFrom_136 : decode cX3_learnFrom 136 = .ok (.iastore, 1) := by decide +kernel
theorem dX3_learnFrom_137 : decode cX3_learnFrom 137 = .ok (.aload_n 0, 1) := by decide +kernel
theorem dX3_learnFrom_138 : decode cX3_learnFrom 138 = .ok (.dup, 1) := by decide +kernel
theorem dX3_learnFrom_139 : decode cX3_learnFrom 139 = .ok (.getfield 51, 3) := by decide +kernel
theorem dX3_learnFrom_142 : decode cX3_learnFrom 142 = .ok (.iconst 1, 1) := by decide +kernel
theorem dX3_learnFrom_143 : decode cX3_learnFrom 143 = .ok (.iadd, 1) := by decide +kernel
theorem dX3_learnFrom_144 : decode cX3_learnFrom 144 = .ok (.putfield 51, 3) := by decide +kernel
theorem dX3_learnFrom_147 : decode cX3_learnFrom 147 = .ok (.aload_n 0, 1) := by decide +kernel
theorem dX3_learnFrom_148 : decode cX3_learnFrom 148 = .ok (.iconst (-1), 1) := by decide +kernel
theorem dX3_learnFrom_149 : decode cX3_learnFrom 149 = .ok (.putfield 44, 3) := by decide +kernel
theorem dX3_learnFrom_152 : decode cX3_learnFrom 152 = .ok (.iinc 5 1, 3) := by decide +kernel
theorem dX3_learnFrom_155 : decode cX3_learnFrom 155 = .ok (.goto (-144), 3) := by decide +kernel
theorem dX3_learnFrom_158 : decode cX3_learnFrom 158 = .ok (.aload_n 0, 1) := by decide +kernel
theorem dX3_learnFrom_159 : decode cX3_learnFrom 159 = .ok (.getfield 51, 3) := by decide +kernel
theorem dX3_learnFrom_162 : decode cX3_learnFrom 162 = .ok (.iload_n 3, 1) := by decide +kernel
theorem dX3_learnFrom_163 : decode cX3_learnFrom 163 = .ok (.isub, 1) := by decide +kernel
theorem dX3_learnFrom_164 : decode cX3_learnFrom 164 = .ok (.ireturn, 1) := by decide +kernel
theorem dX3_drillEnd_0 : decode cX3_drillEnd 0 = .ok (.iload_n 1, 1) := by decide +kernel
theorem dX3_drillEnd_1 : decode cX3_drillEnd 1 = .ok (.istore 4, 2) := by decide +kernel
theorem dX3_drillEnd_3 : decode cX3_drillEnd 3 = .ok (.iconst 0, 1) := by decide +kernel
theorem dX3_drillEnd_4 : decode cX3_drillEnd 4 = .ok (.istore 5, 2) := by decide +kernel
theorem dX3_drillEnd_6 : decode cX3_drillEnd 6 = .ok (.iload 5, 2) := by decide +kernel
theorem dX3_drillEnd_8 : decode cX3_drillEnd 8 = .ok (.iload_n 3, 1) := by decide +kernel
theorem dX3_drillEnd_9 : decode cX3_drillEnd 9 = .ok (.if_icmp .ge 81, 3) := by decide +kernel
theorem dX3_drillEnd_12 : decode cX3_drillEnd 12 = .ok (.iload 4, 2) := by decide +kernel
theorem dX3_drillEnd_14 : decode cX3_drillEnd 14 = .ok (.ifCond .lt 76, 3) := by decide +kernel
theorem dX3_drillEnd_17 : decode cX3_drillEnd 17 = .ok (.aload_n 0, 1) := by decide +kernel
theorem dX3_drillEnd_18 : decode cX3_drillEnd 18 = .ok (.getfield 40, 3) := by decide +kernel
theorem dX3_drillEnd_21 : decode cX3_drillEnd 21 = .ok (.getfield 80, 3) := by decide +kernel
theorem dX3_drillEnd_24 : decode cX3_drillEnd 24 = .ok (.iload 4, 2) := by decide +kernel
theorem dX3_drillEnd_26 : decode cX3_drillEnd 26 = .ok (.invokevirtual 84, 3) := by decide +kernel
theorem dX3_drillEnd_29 : decode cX3_drillEnd 29 = .ok (.ifCond .ne 61, 3) := by decide +kernel
theorem dX3_drillEnd_32 : decode cX3_drillEnd 32 = .ok (.aload_n 0, 1) := by decide +kernel
theorem dX3_drillEnd_33 : decode cX3_drillEnd 33 = .ok (.getfield 40, 3) := by decide +kernel
theorem dX3_drillEnd_36 : decode cX3_drillEnd 36 = .ok (.iload 4, 2) := by decide +kernel
theorem dX3_drillEnd_38 : decode cX3_drillEnd 38 = .ok (.invokevirtual 93, 3) := by decide +kernel
theorem dX3_drillEnd_41 : decode cX3_drillEnd 41 = .ok (.istore 6, 2) := by decide +kernel
theorem dX3_drillEnd_43 : decode cX3_drillEnd 43 = .ok (.iload 6, 2) := by decide +kernel
theorem dX3_drillEnd_45 : decode cX3_drillEnd 45 = .ok (.aload_n 0, 1) := by decide +kernel
theorem dX3_drillEnd_46 : decode cX3_drillEnd 46 = .ok (.getfield 40, 3) := by decide +kernel
theorem dX3_drillEnd_49 : decode cX3_drillEnd 49 = .ok (.iload 4, 2) := by decide +kernel
theorem dX3_drillEnd_51 : decode cX3_drillEnd 51 = .ok (.invokevirtual 90, 3) := by decide +kernel
theorem dX3_drillEnd_54 : decode cX3_drillEnd 54 = .ok (.iload 6, 2) := by decide +kernel
theorem dX3_drillEnd_56 : decode cX3_drillEnd 56 = .ok (.isub, 1) := by decide +kernel
theorem dX3_drillEnd_57 : decode cX3_drillEnd 57 = .ok (.iconst 1, 1) := by decide +kernel
theorem dX3_drillEnd_58 : decode cX3_drillEnd 58 = .ok (.iadd, 1) := by decide +kernel
theorem dX3_drillEnd_59 : decode cX3_drillEnd 59 = .ok (.iload_n 2, 1) := by decide +kernel
theorem dX3_drillEnd_60 : decode cX3_drillEnd 60 = .ok (.iload 5, 2) := by decide +kernel
theorem dX3_drillEnd_62 : decode cX3_drillEnd 62 = .ok (.invokestatic 131, 3) := by decide +kernel
theorem dX3_drillEnd_65 : decode cX3_drillEnd 65 = .ok (.iadd, 1) := by decide +kernel
theorem dX3_drillEnd_66 : decode cX3_drillEnd 66 = .ok (.istore 7, 2) := by decide +kernel
theorem dX3_drillEnd_68 : decode cX3_drillEnd 68 = .ok (.aload_n 0, 1) := by decide +kernel
theorem dX3_drillEnd_69 : decode cX3_drillEnd 69 = .ok (.iload 4, 2) := by decide +kernel
theorem dX3_drillEnd_71 : decode cX3_drillEnd 71 = .ok (.aload_n 0, 1) := by decide +kernel
theorem dX3_drillEnd_72 : decode cX3_drillEnd 72 = .ok (.iload 4, 2) := by decide +kernel
theorem dX3_drillEnd_74 : decode cX3_drillEnd 74 = .ok (.invokevirtual 77, 3) := by decide +kernel
theorem dX3_drillEnd_77 : decode cX3_drillEnd 77 = .ok (.iload 7, 2) := by decide +kernel
theorem dX3_drillEnd_79 : decode cX3_drillEnd 79 = .ok (.invokevirtual 96, 3) := by decide +kernel
theorem dX3_drillEnd_82 : decode cX3_drillEnd 82 = .ok (.istore 4, 2) := by decide +kernel
theorem dX3_drillEnd_84 : decode cX3_drillEnd 84 = .ok (.iinc 5 1, 3) := by decide +kernel
theorem dX3_drillEnd_87 : decode cX3_drillEnd 87 = .ok (.goto (-81), 3) := by decide +kernel
theorem dX3_drillEnd_90 : decode cX3_drillEnd 90 = .ok (.iload 4, 2) := by decide +kernel
theorem dX3_drillEnd_92 : decode cX3_drillEnd 92 = .ok (.ireturn, 1) := by decide +kernel
theorem dX3_lot_0 : decode cX3_lot 0 = .ok (.iload_n 1, 1) := by decide +kernel
theorem dX3_lot_1 : decode cX3_lot 1 = .ok (.iconst 3, 1) := by decide +kernel
theorem dX3_lot_2 : decode cX3_lot 2 = .ok (.invokestatic 134, 3) := by decide +kernel
theorem dX3_lot_5 : decode cX3_lot 5 = .ok (.iload_n 2, 1) := by decide +kernel
theorem dX3_lot_6 : decode cX3_lot 6 = .ok (.invokestatic 134, 3) := by decide +kernel
theorem dX3_lot_9 : decode cX3_lot 9 = .ok (.iconst 1, 1) := by decide +kernel
theorem dX3_lot_10 : decode cX3_lot 10 = .ok (.iushr, 1) := by decide +kernel
theorem dX3_lot_11 : decode cX3_lot 11 = .ok (.istore_n 3, 1) := by decide +kernel
theorem dX3_lot_12 : decode cX3_lot 12 = .ok (.iload_n 0, 1) := by decide +kernel
theorem dX3_lot_13 : decode cX3_lot 13 = .ok (.ifCond .le 9, 3) := by decide +kernel
theorem dX3_lot_16 : decode cX3_lot 16 = .ok (.iload_n 3, 1) := by decide +kernel
theorem dX3_lot_17 : decode cX3_lot 17 = .ok (.iload_n 0, 1) := by decide +kernel
theorem dX3_lot_18 : decode cX3_lot 18 = .ok (.irem, 1) := by decide +kernel
theorem dX3_lot_19 : decode cX3_lot 19 = .ok (.goto 4, 3) := by decide +kernel
theorem dX3_lot_22 : decode cX3_lot 22 = .ok (.iconst 0, 1) := by decide +kernel
theorem dX3_lot_23 : decode cX3_lot 23 = .ok (.ireturn, 1) := by decide +kernel
theorem dX3_stir_0 : decode cX3_stir 0 = .ok (.iload_n 0, 1) := by decide +kernel
theorem dX3_stir_1 : decode cX3_stir 1 = .ok (.iload_n 1, 1) := by decide +kernel
theorem dX3_stir_2 : decode cX3_stir 2 = .ok (.ixor, 1) := by decide +kernel
theorem dX3_stir_3 : decode cX3_stir 3 = .ok (.ldc 138, 2) := by decide +kernel
theorem dX3_stir_5 : decode cX3_stir 5 = .ok (.imul, 1) := by decide +kernel
theorem dX3_stir_6 : decode cX3_stir 6 = .ok (.sipush 12345, 3) := by decide +kernel
theorem dX3_stir_9 : decode cX3_stir 9 = .ok (.iadd, 1) := by decide +kernel
theorem dX3_stir_10 : decode cX3_stir 10 = .ok (.istore_n 2, 1) := by decide +kernel
theorem dX3_stir_11 : decode cX3_stir 11 = .ok (.iload_n 2, 1) := by decide +kernel
theorem dX3_stir_12 : decode cX3_stir 12 = .ok (.iload_n 2, 1) := by decide +kernel
theorem dX3_stir_13 : decode cX3_stir 13 = .ok (.bipush 15, 2) := by decide +kernel
theorem dX3_stir_15 : decode cX3_stir 15 = .ok (.iushr, 1) := by decide +kernel
theorem dX3_stir_16 : decode cX3_stir 16 = .ok (.ixor, 1) := by decide +kernel
theorem dX3_stir_17 : decode cX3_stir 17 = .ok (.ireturn, 1) := by decide +kernel
theorem dX4_init_0 : decode cX4_init 0 = .ok (.aload_n 0, 1) := by decide +kernel
theorem dX4_init_1 : decode cX4_init 1 = .ok (.invokespecial 3, 3) := by decide +kernel
theorem dX4_init_4 : decode cX4_init 4 = .ok (.aload_n 0, 1) := by decide +kernel
theorem dX4_init_5 : decode cX4_init 5 = .ok (.sipush 800, 3) := by decide +kernel
theorem dX4_init_8 : decode cX4_init 8 = .ok (.newarray .int, 2) := by decide +kernel
theorem dX4_init_10 : decode cX4_init 10 = .ok (.putfield 9, 3) := by decide +kernel
theorem dX4_init_13 : decode cX4_init 13 = .ok (.aload_n 0, 1) := by decide +kernel
theorem dX4_init_14 : decode cX4_init 14 = .ok (.bipush 6, 2) := by decide +kernel
theorem dX4_init_16 : decode cX4_init 16 = .ok (.newarray .long, 2) := by decide +kernel
theorem dX4_init_18 : decode cX4_init 18 = .ok (.putfield 15, 3) := by decide +kernel
theorem dX4_init_21 : decode cX4_init 21 = .ok (.aload_n 0, 1) := by decide +kernel
theorem dX4_init_22 : decode cX4_init 22 = .ok (.bipush 6, 2) := by decide +kernel
theorem dX4_init_24 : decode cX4_init 24 = .ok (.newarray .int, 2) := by decide +kernel
theorem dX4_init_26 : decode cX4_init 26 = .ok (.putfield 19, 3) := by decide +kernel
theorem dX4_init_29 : decode cX4_init 29 = .ok (.aload_n 0, 1) := by decide +kernel
theorem dX4_init_30 : decode cX4_init 30 = .ok (.bipush 6, 2) := by decide +kernel
theorem dX4_init_32 : decode cX4_init 32 = .ok (.newarray .int, 2) := by decide +kernel
theorem dX4_init_34 : decode cX4_init 34 = .ok (.putfield 22, 3) := by decide +kernel
theorem dX4_init_37 : decode cX4_init 37 = .ok (.aload_n 0, 1) := by decide +kernel
theorem dX4_init_38 : decode cX4_init 38 = .ok (.bipush 6, 2) := by decide +kernel
theorem dX4_init_40 : decode cX4_init 40 = .ok (.newarray .int, 2) := by decide +kernel
theorem dX4_init_42 : decode cX4_init 42 = .ok (.putfield 25, 3) := by decide +kernel
theorem dX4_init_45 : decode cX4_init 45 = .ok (.aload_n 0, 1) := by decide +kernel
theorem dX4_init_46 : decode cX4_init 46 = .ok (.bipush 40, 2) := by decide +kernel
theorem dX4_init_48 : decode cX4_init 48 = .ok (.newarray .int, 2) := by decide +kernel
theorem dX4_init_50 : decode cX4_init 50 = .ok (.putfield 28, 3) := by decide +kernel
theorem dX4_init_53 : decode cX4_init 53 = .ok (.aload_n 0, 1) := by decide +kernel
theorem dX4_init_54 : decode cX4_init 54 = .ok (.bipush 12, 2) := by decide +kernel
theorem dX4_init_56 : decode cX4_init 56 = .ok (.newarray .int, 2) := by decide +kernel
theorem dX4_init_58 : decode cX4_init 58 = .ok (.putfield 31, 3) := by decide +kernel
theorem dX4_init_61 : decode cX4_init 61 = .ok (.aload_n 0, 1) := by decide +kernel
theorem dX4_init_62 : decode cX4_init 62 = .ok (.bipush 12, 2) := by decide +kernel
theorem dX4_init_64 : decode cX4_init 64 = .ok (.newarray .int, 2) := by decide +kernel
theorem dX4_init_66 : decode cX4_init 66 = .ok (.putfield 34, 3) := by decide +kernel
theorem dX4_init_69 : decode cX4_init 69 = .ok (.aload_n 0, 1) := by decide +kernel
theorem dX4_init_70 : decode cX4_init 70 = .ok (.iconst 4, 1) := by decide +kernel
theorem dX4_init_71 : decode cX4_init 71 = .ok (.putfield 37, 3) := by decide +kernel
theorem dX4_init_74 : decode cX4_init 74 = .ok (.aload_n 0, 1) := by decide +kernel
theorem dX4_init_75 : decode cX4_init 75 = .ok (.bipush 6, 2) := by decide +kernel
theorem dX4_init_77 : decode cX4_init 77 = .ok (.putfield 41, 3) := by decide +kernel
theorem dX4_init_80 : decode cX4_init 80 = .ok (.aload_n 0, 1) := by decide +kernel
theorem dX4_init_81 : decode cX4_init 81 = .ok (.iconst 3, 1) := by decide +kernel
theorem dX4_init_82 : decode cX4_init 82 = .ok (.putfield 44, 3) := by decide +kernel
theorem dX4_init_85 : decode cX4_init 85 = .ok (.aload_n 0, 1) := by decide +kernel
theorem dX4_init_86 : decode cX4_init 86 = .ok (.iconst (-1), 1) := by decide +kernel
theorem dX4_init_87 : decode cX4_init 87 = .ok (.putfield 47, 3) := by decide +kernel
theorem dX4_init_90 : decode cX4_init 90 = .ok (.aload_n 0, 1) := by decide +kernel
theorem dX4_init_91 : decode cX4_init 91 = .ok (.iconst (-1), 1) := by decide +kernel
theorem dX4_init_92 : decode cX4_init 92 = .ok (.putfield 50, 3) := by decide +kernel
theorem dX4_init_95 : decode cX4_init 95 = .ok (.aload_n 0, 1) := by decide +kernel
theorem dX4_init_96 : decode cX4_init 96 = .ok (.iconst 1, 1) := by decide +kernel
theorem dX4_init_97 : decode cX4_init 97 = .ok (.putfield 53, 3) := by decide +kernel
theorem dX4_init_100 : decode cX4_init 100 = .ok (.aload_n 0, 1) := by decide +kernel
theorem dX4_init_101 : decode cX4_init 101 = .ok (.getfield 22, 3) := by decide +kernel
theorem dX4_init_104 : decode cX4_init 104 = .ok (.iconst 0, 1) := by decide +kernel
theorem dX4_init_105 : decode cX4_init 105 = .ok (.iconst 1, 1) := by decide +kernel
theorem dX4_init_106 : decode cX4_init 106 = .ok (.iastore, 1) := by decide +kernel
theorem dX4_init_107 : decode cX4_init 107 = .ok (.aload_n 0, 1) := by decide +kernel
theorem dX4_init_108 : decode cX4_init 108 = .ok (.getfield 25, 3) := by decide +kernel
theorem dX4_init_111 : decode cX4_init 111 = .ok (.iconst 0, 1) := by decide +kernel
theorem dX4_init_112 : decode cX4_init 112 = .ok (.iconst (-1), 1) := by decide +kernel
theorem dX4_init_113 : decode cX4_init 113 = .ok (.iastore, 1) := by decide +kernel
theorem dX4_init_114 : decode cX4_init 114 = .ok (.return_, 1) := by decide +kernel
theorem dX4_untell_0 : decode cX4_untell 0 = .ok (.aload_n 0, 1) := by decide +kernel
theorem dX4_untell_1 : decode cX4_untell 1 = .ok (.iconst 4, 1) := by decide +kernel
theorem dX4_untell_2 : decode cX4_untell 2 = .ok (.putfield 37, 3) := by decide +kernel
theorem dX4_untell_5 : decode cX4_untell 5 = .ok (.aload_n 0, 1) := by decide +kernel
theorem dX4_untell_6 : decode cX4_untell 6 = .ok (.bipush 6, 2) := by decide +kernel
theorem dX4_untell_8 : decode cX4_untell 8 = .ok (.putfield 41, 3) := by decide +kernel
theorem dX4_untell_11 : decode cX4_untell 11 = .ok (.aload_n 0, 1) := by decide +kernel
theorem dX4_untell_12 : decode cX4_untell 12 = .ok (.iconst 3, 1) := by decide +kernel
theorem dX4_untell_13 : decode cX4_untell 13 = .ok (.putfield 44, 3) := by decide +kernel
theorem dX4_untell_16 : decode cX4_untell 16 = .ok (.aload_n 0, 1) := by decide +kernel
theorem dX4_untell_17 : decode cX4_untell 17 = .ok (.iconst (-1), 1) := by decide +kernel
theorem dX4_untell_18 : decode cX4_untell 18 = .ok (.putfield 47, 3) := by decide +kernel
theorem dX4_untell_21 : decode cX4_untell 21 = .ok (.aload_n 0, 1) := by decide +kernel
theorem dX4_untell_22 : decode cX4_untell 22 = .ok (.iconst (-1), 1) := by decide +kernel
theorem dX4_untell_23 : decode cX4_untell 23 = .ok (.putfield 50, 3) := by decide +kernel
theorem dX4_untell_26 : decode cX4_untell 26 = .ok (.aload_n 0, 1) := by decide +kernel
theorem dX4_untell_27 : decode cX4_untell 27 = .ok (.iconst 0, 1) := by decide +kernel
theorem dX4_untell_28 : decode cX4_untell 28 = .ok (.putfield 53, 3) := by decide +kernel
theorem dX4_untell_31 : decode cX4_untell 31 = .ok (.aload_n 0, 1) := by decide +kernel
theorem dX4_untell_32 : decode cX4_untell 32 = .ok (.iconst 0, 1) := by decide +kernel
theorem dX4_untell_33 : decode cX4_untell 33 = .ok (.putfield 56, 3) := by decide +kernel
theorem dX4_untell_36 : decode cX4_untell 36 = .ok (.aload_n 0, 1) := by decide +kernel
theorem dX4_untell_37 : decode cX4_untell 37 = .ok (.iconst 0, 1) := by decide +kernel
theorem dX4_untell_38 : decode cX4_untell 38 = .ok (.putfield 59, 3) := by decide +kernel
theorem dX4_untell_41 : decode cX4_untell 41 = .ok (.aload_n 0, 1) := by decide +kernel
theorem dX4_untell_42 : decode cX4_untell 42 = .ok (.iconst 0, 1) := by decide +kernel
theorem dX4_untell_43 : decode cX4_untell 43 = .ok (.putfield 62, 3) := by decide +kernel
theorem dX4_untell_46 : decode cX4_untell 46 = .ok (.return_, 1) := by decide +kernel
theorem dX4_finish_0 : decode cX4_finish 0 = .ok (.aload_n 0, 1) := by decide +kernel
theorem dX4_finish_1 : decode cX4_finish 1 = .ok (.getfield 53, 3) := by decide +kernel
theorem dX4_finish_4 : decode cX4_finish 4 = .ok (.ifCond .ne 11, 3) := by decide +kernel
theorem dX4_finish_7 : decode cX4_finish 7 = .ok (.aload_n 0, 1) := by decide +kernel
theorem dX4_finish_8 : decode cX4_finish 8 = .ok (.lconst 0, 1) := by decide +kernel
theorem dX4_finish_9 : decode cX4_finish 9 = .ok (.iconst 0, 1) := by decide +kernel
theorem dX4_finish_10 : decode cX4_finish 10 = .ok (.iconst 1, 1) := by decide +kernel
theorem dX4_finish_11 : decode cX4_finish 11 = .ok (.iconst (-1), 1) := by decide +kernel
theorem dX4_finish_12 : decode cX4_finish 12 = .ok (.invokevirtual 65, 3) := by decide +kernel
theorem dX4_finish_15 : decode cX4_finish 15 = .ok (.return_, 1) := by decide +kernel
theorem dX4_emit_0 : decode cX4_emit 0 = .ok (.aload_n 0, 1) := by decide +kernel
theorem dX4_emit_1 : decode cX4_emit 1 = .ok (.getfield 62, 3) := by decide +kernel
theorem dX4_emit_4 : decode cX4_emit 4 = .ok (.aload_n 0, 1) := by decide +kernel
theorem dX4_emit_5 : decode cX4_emit 5 = .ok (.getfield 9, 3) := by decide +kernel
theorem dX4_emit_8 : decode cX4_emit 8 = .ok (.arraylength, 1) := by decide +kernel
theorem dX4_emit_9 : decode cX4_emit 9 = .ok (.if_icmp .ge 23, 3) := by decide +kernel
theorem dX4_emit_12 : decode cX4_emit 12 = .ok (.aload_n 0, 1) := by decide +kernel
theorem dX4_emit_13 : decode cX4_emit 13 = .ok (.getfield 9, 3) := by decide +kernel
theorem dX4_emit_16 : decode cX4_emit 16 = .ok (.aload_n 0, 1) := by decide +kernel
theorem dX4_emit_17 : decode cX4_emit 17 = .ok (.getfield 62, 3) := by decide +kernel
theorem dX4_emit_20 : decode cX4_emit 20 = .ok (.iload_n 1, 1) := by decide +kernel
theorem dX4_emit_21 : decode cX4_emit 21 = .ok (.iastore, 1) := by decide +kernel
theorem dX4_emit_22 : decode cX4_emit 22 = .ok (.aload_n 0, 1) := by decide +kernel
theorem dX4_emit_23 : decode cX4_emit 23 = .ok (.dup, 1) := by decide +kernel
theorem dX4_emit_24 : decode cX4_emit 24 = .ok (.getfield 62, 3) := by decide +kernel
theorem dX4_emit_27 : decode cX4_emit 27 = .ok (.iconst 1, 1) := by decide +kernel
theorem dX4_emit_28 : decode cX4_emit 28 = .ok (.iadd, 1) := by decide +kernel
theorem dX4_emit_29 : decode cX4_emit 29 = .ok (.putfield 62, 3) := by decide +kernel
theorem dX4_emit_32 : decode cX4_emit 32 = .ok (.return_, 1) := by decide +kernel
theorem dX4_addAct_0 : decode cX4_addAct 0 = .ok (.aload_n 0, 1) := by decide +kernel
theorem dX4_addAct_1 : decode cX4_addAct 1 = .ok (.getfield 53, 3) := by decide +kernel
theorem dX4_addAct_4 : decode cX4_addAct 4 = .ok (.bipush 6, 2) := by decide +kernel
theorem dX4_addAct_6 : decode cX4_addAct 6 = .ok (.if_icmp .ge 55, 3) := by decide +kernel
theorem dX4_addAct_9 : decode cX4_addAct 9 = .ok (.aload_n 0, 1) := by decide +kernel
theorem dX4_addAct_10 : decode cX4_addAct 10 = .ok (.getfield 15, 3) := by decide +kernel
theorem dX4_addAct_13 : decode cX4_addAct 13 = .ok (.aload_n 0, 1) := by decide +kernel
theorem dX4_addAct_14 : decode cX4_addAct 14 = .ok (.getfield 53, 3) := by decide +kernel
theorem dX4_addAct_17 : decode cX4_addAct 17 = .ok (.lload_n 1, 1) := by decide +kernel
theorem dX4_addAct_18 : decode cX4_addAct 18 = .ok (.lastore, 1) := by decide +kernel
theorem dX4_addAct_19 : decode cX4_addAct 19 = .ok (.aload_n 0, 1) := by decide +kernel
theorem dX4_addAct_20 : decode cX4_addAct 20 = .ok (.getfield 19, 3) := by decide +kernel
theorem dX4_addAct_23 : decode cX4_addAct 23 = .ok (.aload_n 0, 1) := by decide +kernel
theorem dX4_addAct_24 : decode cX4_addAct 24 = .ok (.getfield 53, 3) := by decide +kernel
theorem dX4_addAct_27 : decode cX4_addAct 27 = .ok (.iload_n 3, 1) := by decide +kernel
theorem dX4_addAct_28 : decode cX4_addAct 28 = .ok (.iastore, 1) := by decide +kernel
theorem dX4_addAct_29 : decode cX4_addAct 29 = .ok (.aload_n 0, 1) := by decide +kernel
theorem dX4_addAct_30 : decode cX4_addAct 30 = .ok (.getfield 22, 3) := by decide +kernel
theorem dX4_addAct_33 : decode cX4_addAct 33 = .ok (.aload_n 0, 1) := by decide +kernel
theorem dX4_addAct_34 : decode cX4_addAct 34 = .ok (.getfield 53, 3) := by decide +kernel
theorem dX4_addAct_37 : decode cX4_addAct 37 = .ok (.iload 4, 2) := by decide +kernel
theorem dX4_addAct_39 : decode cX4_addAct 39 = .ok (.iastore, 1) := by decide +kernel
theorem dX4_addAct_40 : decode cX4_addAct 40 = .ok (.aload_n 0, 1) := by decide +kernel
theorem dX4_addAct_41 : decode cX4_addAct 41 = .ok (.getfield 25, 3) := by decide +kernel
theorem dX4_addAct_44 : decode cX4_addAct 44 = .ok (.aload_n 0, 1) := by decide +kernel
theorem dX4_addAct_45 : decode cX4_addAct 45 = .ok (.getfield 53, 3) := by decide +kernel
theorem dX4_addAct_48 : decode cX4_addAct 48 = .ok (.iload 5, 2) := by decide +kernel
theorem dX4_addAct_50 : decode cX4_addAct 50 = .ok (.iastore, 1) := by decide +kernel
theorem dX4_addAct_51 : decode cX4_addAct 51 = .ok (.aload_n 0, 1) := by decide +kernel
theorem dX4_addAct_52 : decode cX4_addAct 52 = .ok (.dup, 1) := by decide +kernel
theorem dX4_addAct_53 : decode cX4_addAct 53 = .ok (.getfield 53, 3) := by decide +kernel
theorem dX4_addAct_56 : decode cX4_addAct 56 = .ok (.iconst 1, 1) := by decide +kernel
theorem dX4_addAct_57 : decode cX4_addAct 57 = .ok (.iadd, 1) := by decide +kernel
theorem dX4_addAct_58 : decode cX4_addAct 58 = .ok (.putfield 53, 3) := by decide +kernel
theorem dX4_addAct_61 : decode cX4_addAct 61 = .ok (.return_, 1) := by decide +kernel
theorem dX4_addGusts_0 : decode cX4_addGusts 0 = .ok (.aload_n 0, 1) := by decide +kernel
theorem dX4_addGusts_1 : decode cX4_addGusts 1 = .ok (.getfield 56, 3) := by decide +kernel
theorem dX4_addGusts_4 : decode cX4_addGusts 4 = .ok (.iconst 5, 1) := by decide +kernel
theorem dX4_addGusts_5 : decode cX4_addGusts 5 = .ok (.imul, 1) := by decide +kernel
theorem dX4_addGusts_6 : decode cX4_addGusts 6 = .ok (.istore 6, 2) := by decide +kernel
theorem dX4_addGusts_8 : decode cX4_addGusts 8 = .ok (.iload 6, 2) := by decide +kernel
theorem dX4_addGusts_10 : decode cX4_addGusts 10 = .ok (.iconst 5, 1) := by decide +kernel
theorem dX4_addGusts_11 : decode cX4_addGusts 11 = .ok (.iadd, 1) := by decide +kernel
theorem dX4_addGusts_12 : decode cX4_addGusts 12 = .ok (.aload_n 0, 1) := by decide +kernel
theorem dX4_addGusts_13 : decode cX4_addGusts 13 = .ok (.getfield 28, 3) := by decide +kernel
theorem dX4_addGusts_16 : decode cX4_addGusts 16 = .ok (.arraylength, 1) := by decide +kernel
theorem dX4_addGusts_17 : decode cX4_addGusts 17 = .ok (.if_icmp .gt 63, 3) := by decide +kernel
theorem dX4_addGusts_20 : decode cX4_addGusts 20 = .ok (.aload_n 0, 1) := by decide +kernel
theorem dX4_addGusts_21 : decode cX4_addGusts 21 = .ok (.getfield 28, 3) := by decide +kernel
theorem dX4_addGusts_24 : decode cX4_addGusts 24 = .ok (.iload 6, 2) := by decide +kernel
theorem dX4_addGusts_26 : decode cX4_addGusts 26 = .ok (.iload_n 1, 1) := by decide +kernel
theorem dX4_addGusts_27 : decode cX4_addGusts 27 = .ok (.iastore, 1) := by decide +kernel
theorem dX4_addGusts_28 : decode cX4_addGusts 28 = .ok (.aload_n 0, 1) := by decide +kernel
theorem dX4_addGusts_29 : decode cX4_addGusts 29 = .ok (.getfield 28, 3) := by decide +kernel
theorem dX4_addGusts_32 : decode cX4_addGusts 32 = .ok (.iload 6, 2) := by decide +kernel
theorem dX4_addGusts_34 : decode cX4_addGusts 34 = .ok (.iconst 1, 1) := by decide +kernel
theorem dX4_addGusts_35 : decode cX4_addGusts 35 = .ok (.iadd, 1) := by decide +kernel
theorem dX4_addGusts_36 : decode cX4_addGusts 36 = .ok (.iload_n 2, 1) := by decide +kernel
theorem dX4_addGusts_37 : decode cX4_addGusts 37 = .ok (.iastore, 1) := by decide +kernel
theorem dX4_addGusts_38 : decode cX4_addGusts 38 = .ok (.aload_n 0, 1) := by decide +kernel
theorem dX4_addGusts_39 : decode cX4_addGusts 39 = .ok (.getfield 28, 3) := by decide +kernel
theorem dX4_addGusts_42 : decode cX4_addGusts 42 = .ok (.iload 6, 2) := by decide +kernel
theorem dX4_addGusts_44 : decode cX4_addGusts 44 = .ok (.iconst 2, 1) := by decide +kernel
theorem dX4_addGusts_45 : decode cX4_addGusts 45 = .ok (.iadd, 1) := by decide +kernel
theorem dX4_addGusts_46 : decode cX4_addGusts 46 = .ok (.iload_n 3, 1) := by decide +kernel
theorem dX4_addGusts_47 : decode cX4_addGusts 47 = .ok (.iastore, 1) := by decide +kernel
theorem dX4_addGusts_48 : decode cX4_addGusts 48 = .ok (.aload_n 0, 1) := by decide +kernel
theorem dX4_addGusts_49 : decode cX4_addGusts 49 = .ok (.getfield 28, 3) := by decide +kernel
theorem dX4_addGusts_52 : decode cX4_addGusts 52 = .ok (.iload 6, 2) := by decide +kernel
theorem dX4_addGusts_54 : decode cX4_addGusts 54 = .ok (.iconst 3, 1) := by decide +kernel
theorem dX4_addGusts_55 : decode cX4_addGusts 55 = .ok (.iadd, 1) := by decide +kernel
theorem dX4_addGusts_56 : decode cX4_addGusts 56 = .ok (.iload 4, 2) := by decide +kernel
theorem dX4_addGusts_58 : decode cX4_addGusts 58 = .ok (.iastore, 1) := by decide +kernel
theorem dX4_addGusts_59 : decode cX4_addGusts 59 = .ok (.aload_n 0, 1) := by decide +kernel
theorem dX4_addGusts_60 : decode cX4_addGusts 60 = .ok (.getfield 28, 3) := by decide +kernel
theorem dX4_addGusts_63 : decode cX4_addGusts 63 = .ok (.iload 6, 2) := by decide +kernel
theorem dX4_addGusts_65 : decode cX4_addGusts 65 = .ok (.iconst 4, 1) := by decide +kernel
theorem dX4_addGusts_66 : decode cX4_addGusts 66 = .ok (.iadd, 1) := by decide +kernel
theorem dX4_addGusts_67 : decode cX4_addGusts 67 = .ok (.iload 5, 2) := by decide +kernel
theorem dX4_addGusts_69 : decode cX4_addGusts 69 = .ok (.iastore, 1) := by decide +kernel
theorem dX4_addGusts_70 : decode cX4_addGusts 70 = .ok (.aload_n 0, 1) := by decide +kernel
theorem dX4_addGusts_71 : decode cX4_addGusts 71 = .ok (.dup, 1) := by decide +kernel
theorem dX4_addGusts_72 : decode cX4_addGusts 72 = .ok (.getfield 56, 3) := by decide +kernel
theorem dX4_addGusts_75 : decode cX4_addGusts 75 = .ok (.iconst 1, 1) := by decide +kernel
theorem dX4_addGusts_76 : decode cX4_addGusts 76 = .ok (.iadd, 1) := by decide +kernel
theorem dX4_addGusts_77 : decode cX4_addGusts 77 = .ok (.putfield 56, 3) := by decide +kernel
theorem dX4_addGusts_80 : decode cX4_addGusts 80 = .ok (.return_, 1) := by decide +kernel
theorem dX4_addReflex_0 : decode cX4_addReflex 0 = .ok (.aload_n 0, 1) := by decide +kernel
theorem dX4_addReflex_1 : decode cX4_addReflex 1 = .ok (.getfield 59, 3) := by decide +kernel
theorem dX4_addReflex_4 : decode cX4_addReflex 4 = .ok (.bipush 12, 2) := by decide +kernel
theorem dX4_addReflex_6 : decode cX4_addReflex 6 = .ok (.if_icmp .ge 33, 3) := by decide +kernel
theorem dX4_addReflex_9 : decode cX4_addReflex 9 = .ok (.aload_n 0, 1) := by decide +kernel
theorem dX4_addReflex_10 : decode cX4_addReflex 10 = .ok (.getfield 31, 3) := by decide +kernel
theorem dX4_addReflex_13 : decode cX4_addReflex 13 = .ok (.aload_n 0, 1) := by decide +kernel
theorem dX4_addReflex_14 : decode cX4_addReflex 14 = .ok (.getfield 59, 3) := by decide +kernel
theorem dX4_addReflex_17 : decode cX4_addReflex 17 = .ok (.iload_n 1, 1) := by decide +kernel
theorem dX4_addReflex_18 : decode cX4_addReflex 18 = .ok (.iastore, 1) := by decide +kernel
theorem dX4_addReflex_19 : decode cX4_addReflex 19 = .ok (.aload_n 0, 1) := by decide +kernel
theorem dX4_addReflex_20 : decode cX4_addReflex 20 = .ok (.getfield 34, 3) := by decide +kernel
theorem dX4_addReflex_23 : decode cX4_addReflex 23 = .ok (.aload_n 0, 1) := by decide +kernel
theorem dX4_addReflex_24 : decode cX4_addReflex 24 = .ok (.getfield 59, 3) := by decide +kernel
theorem dX4_addReflex_27 : decode cX4_addReflex 27 = .ok (.iload_n 2, 1) := by decide +kernel
theorem dX4_addReflex_28 : decode cX4_addReflex 28 = .ok (.iastore, 1) := by decide +kernel
theorem dX4_addReflex_29 : decode cX4_addReflex 29 = .ok (.aload_n 0, 1) := by decide +kernel
theorem dX4_addReflex_30 : decode cX4_addReflex 30 = .ok (.dup, 1) := by decide +kernel
theorem dX4_addReflex_31 : decode cX4_addReflex 31 = .ok (.getfield 59, 3) := by decide +kernel
theorem dX4_addReflex_34 : decode cX4_addReflex 34 = .ok (.iconst 1, 1) := by decide +kernel
theorem dX4_addReflex_35 : decode cX4_addReflex 35 = .ok (.iadd, 1) := by decide +kernel
theorem dX4_addReflex_36 : decode cX4_addReflex 36 = .ok (.putfield 59, 3) := by decide +kernel
theorem dX4_addReflex_39 : decode cX4_addReflex 39 = .ok (.return_, 1) := by decide +kernel
theorem dX4_actNamed_0 : decode cX4_actNamed 0 = .ok (.iconst 0, 1) := by decide +kernel
theorem dX4_actNamed_1 : decode cX4_actNamed 1 = .ok (.istore_n 3, 1) := by decide +kernel
theorem dX4_actNamed_2 : decode cX4_actNamed 2 = .ok (.iload_n 3, 1) := by decide +kernel
theorem dX4_actNamed_3 : decode cX4_actNamed 3 = .ok (.aload_n 0, 1) := by decide +kernel
theorem dX4_actNamed_4 : decode cX4_actNamed 4 = .ok (.getfield 53, 3) := by decide +kernel
theorem dX4_actNamed_7 : decode cX4_actNamed 7 = .ok (.if_icmp .ge 28, 3) := by decide +kernel
theorem dX4_actNamed_10 : decode cX4_actNamed 10 = .ok (.iload_n 3, 1) := by decide +kernel
theorem dX4_actNamed_11 : decode cX4_actNamed 11 = .ok (.bipush 6, 2) := by decide +kernel
theorem dX4_actNamed_13 : decode cX4_actNamed 13 = .ok (.if_icmp .ge 22, 3) := by decide +kernel
theorem dX4_actNamed_16 : decode cX4_actNamed 16 = .ok (.aload_n 0, 1) := by decide +kernel
theorem dX4_actNamed_17 : decode cX4_actNamed 17 = .ok (.getfield 15, 3) := by decide +kernel
theorem dX4_actNamed_20 : decode cX4_actNamed 20 = .ok (.iload_n 3, 1) := by decide +kernel
theorem dX4_actNamed_21 : decode cX4_actNamed 21 = .ok (.laload, 1) := by decide +kernel
theorem dX4_actNamed_22 : decode cX4_actNamed 22 = .ok (.lload_n 1, 1) := by decide +kernel
theorem dX4_actNamed_23 : decode cX4_actNamed 23 = .ok (.lcmp, 1) := by decide +kernel
theorem dX4_actNamed_24 : decode cX4_actNamed 24 = .ok (.ifCond .ne 5, 3) := by decide +kernel
theorem dX4_actNamed_27 : decode cX4_actNamed 27 = .ok (.iload_n 3, 1) := by decide +kernel
theorem dX4_actNamed_28 : decode cX4_actNamed 28 = .ok (.ireturn, 1) := by decide +kernel
theorem dX4_actNamed_29 : decode cX4_actNamed 29 = .ok (.iinc 3 1, 3) := by decide +kernel
theorem dX4_actNamed_32 : decode cX4_actNamed 32 = .ok (.goto (-30), 3) := by decide +kernel
theorem dX4_actNamed_35 : decode cX4_actNamed 35 = .ok (.iconst (-1), 1) := by decide +kernel
theorem dX4_actNamed_36 : decode cX4_actNamed 36 = .ok (.ireturn, 1) := by decide +kernel
theorem dX4_hasAct_0 : decode cX4_hasAct 0 = .ok (.iload_n 1, 1) := by decide +kernel
theorem dX4_hasAct_1 : decode cX4_hasAct 1 = .ok (.ifCond .lt 21, 3) := by decide +kernel
theorem dX4_hasAct_4 : decode cX4_hasAct 4 = .ok (.iload_n 1, 1) := by decide +kernel
theorem dX4_hasAct_5 : decode cX4_hasAct 5 = .ok (.aload_n 0, 1) := by decide +kernel
theorem dX4_hasAct_6 : decode cX4_hasAct 6 = .ok (.getfield 53, 3) := by decide +kernel
theorem dX4_hasAct_9 : decode cX4_hasAct 9 = .ok (.if_icmp .ge 13, 3) := by decide +kernel
theorem dX4_hasAct_12 : decode cX4_hasAct 12 = .ok (.iload_n 1, 1) := by decide +kernel
theorem dX4_hasAct_13 : decode cX4_hasAct 13 = .ok (.bipush 6, 2) := by decide +kernel
theorem dX4_hasAct_15 : decode cX4_hasAct 15 = .ok (.if_icmp .ge 7, 3) := by decide +kernel
theorem dX4_hasAct_18 : decode cX4_hasAct 18 = .ok (.iconst 1, 1) := by decide +kernel
theorem dX4_hasAct_19 : decode cX4_hasAct 19 = .ok (.goto 4, 3) := by decide +kernel
theorem dX4_hasAct_22 : decode cX4_hasAct 22 = .ok (.iconst 0, 1) := by decide +kernel
theorem dX4_hasAct_23 : decode cX4_hasAct 23 = .ok (.ireturn, 1) := by decide +kernel
theorem dX4_number_0 : decode cX4_number 0 = .ok (.iload_n 1, 1) := by decide +kernel
theorem dX4_number_1 : decode cX4_number 1 = .ok (.ifCond .lt 45, 3) := by decide +kernel
theorem dX4_number_4 : decode cX4_number 4 = .ok (.iload_n 1, 1) := by decide +kernel
theorem dX4_number_5 : decode cX4_number 5 = .ok (.aload_n 0, 1) := by decide +kernel
theorem dX4_number_6 : decode cX4_number 6 = .ok (.getfield 37, 3) := by decide +kernel
theorem dX4_number_9 : decode cX4_number 9 = .ok (.if_icmp .gt 37, 3) := by decide +kernel
theorem dX4_number_12 : decode cX4_number 12 = .ok (.iload_n 2, 1) := by decide +kernel
theorem dX4_number_13 : decode cX4_number 13 = .ok (.aload_n 0, 1) := by decide +kernel
theorem dX4_number_14 : decode cX4_number 14 = .ok (.getfield 41, 3) := by decide +kernel
theorem dX4_number_17 : decode cX4_number 17 = .ok (.ineg, 1) := by decide +kernel
theorem dX4_number_18 : decode cX4_number 18 = .ok (.if_icmp .lt 28, 3) := by decide +kernel
theorem dX4_number_21 : decode cX4_number 21 = .ok (.iload_n 2, 1) := by decide +kernel
theorem dX4_number_22 : decode cX4_number 22 = .ok (.aload_n 0, 1) := by decide +kernel
theorem dX4_number_23 : decode cX4_number 23 = .ok (.getfield 41, 3) := by decide +kernel
theorem dX4_number_26 : decode cX4_number 26 = .ok (.if_icmp .gt 20, 3) := by decide +kernel
theorem dX4_number_29 : decode cX4_number 29 = .ok (.iload_n 3, 1) := by decide +kernel
theorem dX4_number_30 : decode cX4_number 30 = .ok (.aload_n 0, 1) := by decide +kernel
theorem dX4_number_31 : decode cX4_number 31 = .ok (.getfield 44, 3) := by decide +kernel
theorem dX4_number_34 : decode cX4_number 34 = .ok (.ineg, 1) := by decide +kernel
theorem dX4_number_35 : decode cX4_number 35 = .ok (.if_icmp .lt 11, 3) := by decide +kernel
theorem dX4_number_38 : decode cX4_number 38 = .ok (.iload_n 3, 1) := by decide +kernel
theorem dX4_number_39 : decode cX4_number 39 = .ok (.aload_n 0, 1) := by decide +kernel
theorem dX4_number_40 : decode cX4_number 40 = .ok (.getfield 44, 3) := by decide +kernel
theorem dX4_number_43 : decode cX4_number 43 = .ok (.if_icmp .le 5, 3) := by decide +kernel
theorem dX4_number_46 : decode cX4_number 46 = .ok (.iconst (-1), 1) := by decide +kernel
theorem dX4_number_47 : decode cX4_number 47 = .ok (.ireturn, 1) := by decide +kernel
theorem dX4_number_48 : decode cX4_number 48 = .ok (.iload_n 1, 1) := by decide +kernel
theorem dX4_number_49 : decode cX4_number 49 = .ok (.bipush 21, 2) := by decide +kernel
theorem dX4_number_51 : decode cX4_number 51 = .ok (.imul, 1) := by decide +kernel
theorem dX4_number_52 : decode cX4_number 52 = .ok (.iload_n 2, 1) := by decide +kernel
theorem dX4_number_53 : decode cX4_number 53 = .ok (.iadd, 1) := by decide +kernel
theorem dX4_number_54 : decode cX4_number 54 = .ok (.bipush 10, 2) := by decide +kernel
theorem dX4_number_56 : decode cX4_number 56 = .ok (.iadd, 1) := by decide +kernel
theorem dX4_number_57 : decode cX4_number 57 = .ok (.bipush 11, 2) := by decide +kernel
theorem dX4_number_59 : decode cX4_number 59 = .ok (.imul, 1) := by decide +kernel
theorem dX4_number_60 : decode cX4_number 60 = .ok (.iload_n 3, 1) := by decide +kernel
theorem dX4_number_61 : decode cX4_number 61 = .ok (.iadd, 1) := by decide +kernel
theorem dX4_number_62 : decode cX4_number 62 = .ok (.iconst 5, 1) := by decide +kernel
theorem dX4_number_63 : decode cX4_number 63 = .ok (.iadd, 1) := by decide +kernel
theorem dX4_number_64 : decode cX4_number 64 = .ok (.ireturn, 1) := by decide +kernel
theorem dX4_has_0 : decode cX4_has 0 = .ok (.iload_n 1, 1) := by decide +kernel
theorem dX4_has_1 : decode cX4_has 1 = .ok (.ifCond .lt 34, 3) := by decide +kernel
theorem dX4_has_4 : decode cX4_has 4 = .ok (.iload_n 1, 1) := by decide +kernel
theorem dX4_has_5 : decode cX4_has 5 = .ok (.sipush 2079, 3) := by decide +kernel
theorem dX4_has_8 : decode cX4_has 8 = .ok (.if_icmp .ge 27, 3) := by decide +kernel
theorem dX4_has_11 : decode cX4_has 11 = .ok (.aload_n 0, 1) := by decide +kernel
theorem dX4_has_12 : decode cX4_has 12 = .ok (.iload_n 1, 1) := by decide +kernel
theorem dX4_has_13 : decode cX4_has 13 = .ok (.invokestatic 69, 3) := by decide +kernel
theorem dX4_has_16 : decode cX4_has 16 = .ok (.iload_n 1, 1) := by decide +kernel
theorem dX4_has_17 : decode cX4_has 17 = .ok (.invokestatic 73, 3) := by decide +kernel
theorem dX4_has_20 : decode cX4_has 20 = .ok (.iload_n 1, 1) := by decide +kernel
theorem dX4_has_21 : decode cX4_has 21 = .ok (.invokestatic 76, 3) := by decide +kernel
theorem dX4_has_24 : decode cX4_has 24 = .ok (.invokevirtual 79, 3) := by decide +kernel
theorem dX4_has_27 : decode cX4_has 27 = .ok (.iload_n 1, 1) := by decide +kernel
theorem dX4_has_28 : decode cX4_has 28 = .ok (.if_icmp .ne 7, 3) := by decide +kernel
theorem dX4_has_31 : decode cX4_has 31 = .ok (.iconst 1, 1) := by decide +kernel
theorem dX4_has_32 : decode cX4_has 32 = .ok (.goto 4, 3) := by decide +kernel
theorem dX4_has_35 : decode cX4_has 35 = .ok (.iconst 0, 1) := by decide +kernel
theorem dX4_has_36 : decode cX4_has 36 = .ok (.ireturn, 1) := by decide +kernel
theorem dX4_isOver_0 : decode cX4_isOver 0 = .ok (.iload_n 1, 1) := by decide +kernel
theorem dX4_isOver_1 : decode cX4_isOver 1 = .ok (.invokestatic 69, 3) := by decide +kernel
theorem dX4_isOver_4 : decode cX4_isOver 4 = .ok (.aload_n 0, 1) := by decide +kernel
theorem dX4_isOver_5 : decode cX4_isOver 5 = .ok (.getfield 37, 3) := by decide +kernel
theorem dX4_isOver_8 : decode cX4_isOver 8 = .ok (.if_icmp .ne 7, 3) := by decide +kernel
theorem dX4_isOver_11 : decode cX4_isOver 11 = .ok (.iconst 1, 1) := by decide +kernel
theorem dX4_isOver_12 : decode cX4_isOver 12 = .ok (.goto 4, 3) := by decide +kernel
theorem dX4_isOver_15 : decode cX4_isOver 15 = .ok (.iconst 0, 1) := by decide +kernel
theorem dX4_isOver_16 : decode cX4_isOver 16 = .ok (.ireturn, 1) := by decide +kernel
theorem dX4_atOf_0 : decode cX4_atOf 0 = .ok (.iload_n 0, 1) := by decide +kernel
theorem dX4_atOf_1 : decode cX4_atOf 1 = .ok (.sipush 231, 3) := by decide +kernel
theorem dX4_atOf_4 : decode cX4_atOf 4 = .ok (.idiv, 1) := by decide +kernel
theorem dX4_atOf_5 : decode cX4_atOf 5 = .ok (.ireturn, 1) := by decide +kernel
theorem dX4_leanOf_0 : decode cX4_leanOf 0 = .ok (.iload_n 0, 1) := by decide +kernel
theorem dX4_leanOf_1 : decode cX4_leanOf 1 = .ok (.bipush 11, 2) := by decide +kernel
theorem dX4_leanOf_3 : decode cX4_leanOf 3 = .ok (.idiv, 1) := by decide +kernel
theorem dX4_leanOf_4 : decode cX4_leanOf 4 = .ok (.bipush 21, 2) := by decide +kernel
theorem dX4_leanOf_6 : decode cX4_leanOf 6 = .ok (.irem, 1) := by decide +kernel
theorem dX4_leanOf_7 : decode cX4_leanOf 7 = .ok (.bipush 10, 2) := by decide +kernel
theorem dX4_leanOf_9 : decode cX4_leanOf 9 = .ok (.isub, 1) := by decide +kernel
