theorem dX10_blindAct_40 : decode cX10_blindAct 40 = .ok (.iconst 0, 1) := by decide +kernel
theorem dX10_blindAct_41 : decode cX10_blindAct 41 = .ok (.istore 5, 2) := by decide +kernel
theorem dX10_blindAct_43 : decode cX10_blindAct 43 = .ok (.iload 5, 2) := by decide +kernel
theorem dX10_blindAct_45 : decode cX10_blindAct 45 = .ok (.iload 4, 2) := by decide +kernel
theorem dX10_blindAct_47 : decode cX10_blindAct 47 = .ok (.if_icmp .ge 61, 3) := by decide +kernel
theorem dX10_blindAct_50 : decode cX10_blindAct 50 = .ok (.aload_n 0, 1) := by decide +kernel
theorem dX10_blindAct_51 : decode cX10_blindAct 51 = .ok (.iload_n 1, 1) := by decide +kernel
theorem dX10_blindAct_52 : decode cX10_blindAct 52 = .ok (.iload_n 2, 1) := by decide +kernel
theorem dX10_blindAct_53 : decode cX10_blindAct 53 = .ok (.iload 5, 2) := by decide +kernel
theorem dX10_blindAct_55 : decode cX10_blindAct 55 = .ok (.invokevirtual 549, 3) := by decide +kernel
theorem dX10_blindAct_58 : decode cX10_blindAct 58 = .ok (.ifCond .ne 6, 3) := by decide +kernel
theorem dX10_blindAct_61 : decode cX10_blindAct 61 = .ok (.goto 41, 3) := by decide +kernel
theorem dX10_blindAct_64 : decode cX10_blindAct 64 = .ok (.iload 5, 2) := by decide +kernel
theorem dX10_blindAct_66 : decode cX10_blindAct 66 = .ok (.istore 6, 2) := by decide +kernel
theorem dX10_blindAct_68 : decode cX10_blindAct 68 = .ok (.iload_n 2, 1) := by decide +kernel
theorem dX10_blindAct_69 : decode cX10_blindAct 69 = .ok (.iconst 1, 1) := by decide +kernel
theorem dX10_blindAct_70 : decode cX10_blindAct 70 = .ok (.isub, 1) := by decide +kernel
theorem dX10_blindAct_71 : decode cX10_blindAct 71 = .ok (.istore 7, 2) := by decide +kernel
theorem dX10_blindAct_73 : decode cX10_blindAct 73 = .ok (.iload 7, 2) := by decide +kernel
theorem dX10_blindAct_75 : decode cX10_blindAct 75 = .ok (.iload_n 3, 1) := by decide +kernel
theorem dX10_blindAct_76 : decode cX10_blindAct 76 = .ok (.if_icmp .le 18, 3) := by decide +kernel
theorem dX10_blindAct_79 : decode cX10_blindAct 79 = .ok (.iload 6, 2) := by decide +kernel
theorem dX10_blindAct_81 : decode cX10_blindAct 81 = .ok (.aload_n 0, 1) := by decide +kernel
theorem dX10_blindAct_82 : decode cX10_blindAct 82 = .ok (.invokevirtual 482, 3) := by decide +kernel
theorem dX10_blindAct_85 : decode cX10_blindAct 85 = .ok (.idiv, 1) := by decide +kernel
theorem dX10_blindAct_86 : decode cX10_blindAct 86 = .ok (.istore 6, 2) := by decide +kernel
theorem dX10_blindAct_88 : decode cX10_blindAct 88 = .ok (.iinc 7 (-1), 3) := by decide +kernel
theorem dX10_blindAct_91 : decode cX10_blindAct 91 = .ok (.goto (-18), 3) := by decide +kernel
theorem dX10_blindAct_94 : decode cX10_blindAct 94 = .ok (.iload 6, 2) := by decide +kernel
theorem dX10_blindAct_96 : decode cX10_blindAct 96 = .ok (.aload_n 0, 1) := by decide +kernel
theorem dX10_blindAct_97 : decode cX10_blindAct 97 = .ok (.invokevirtual 482, 3) := by decide +kernel
theorem dX10_blindAct_100 : decode cX10_blindAct 100 = .ok (.irem, 1) := by decide +kernel
theorem dX10_blindAct_101 : decode cX10_blindAct 101 = .ok (.ireturn, 1) := by decide +kernel
theorem dX10_blindAct_102 : decode cX10_blindAct 102 = .ok (.iinc 5 1, 3) := by decide +kernel
theorem dX10_blindAct_105 : decode cX10_blindAct 105 = .ok (.goto (-62), 3) := by decide +kernel
theorem dX10_blindAct_108 : decode cX10_blindAct 108 = .ok (.iconst (-1), 1) := by decide +kernel
theorem dX10_blindAct_109 : decode cX10_blindAct 109 = .ok (.ireturn, 1) := by decide +kernel
theorem dX10_learnedAt_0 : decode cX10_learnedAt 0 = .ok (.iconst 0, 1) := by decide +kernel
theorem dX10_learnedAt_1 : decode cX10_learnedAt 1 = .ok (.istore_n 2, 1) := by decide +kernel
theorem dX10_learnedAt_2 : decode cX10_learnedAt 2 = .ok (.iload_n 2, 1) := by decide +kernel
theorem dX10_learnedAt_3 : decode cX10_learnedAt 3 = .ok (.aload_n 0, 1) := by decide +kernel
theorem dX10_learnedAt_4 : decode cX10_learnedAt 4 = .ok (.getfield 400, 3) := by decide +kernel
theorem dX10_learnedAt_7 : decode cX10_learnedAt 7 = .ok (.if_icmp .ge 21, 3) := by decide +kernel
theorem dX10_learnedAt_10 : decode cX10_learnedAt 10 = .ok (.aload_n 0, 1) := by decide +kernel
theorem dX10_learnedAt_11 : decode cX10_learnedAt 11 = .ok (.getfield 133, 3) := by decide +kernel
theorem dX10_learnedAt_14 : decode cX10_learnedAt 14 = .ok (.iload_n 2, 1) := by decide +kernel
theorem dX10_learnedAt_15 : decode cX10_learnedAt 15 = .ok (.iaload, 1) := by decide +kernel
theorem dX10_learnedAt_16 : decode cX10_learnedAt 16 = .ok (.iload_n 1, 1) := by decide +kernel
theorem dX10_learnedAt_17 : decode cX10_learnedAt 17 = .ok (.if_icmp .ne 5, 3) := by decide +kernel
theorem dX10_learnedAt_20 : decode cX10_learnedAt 20 = .ok (.iload_n 2, 1) := by decide +kernel
theorem dX10_learnedAt_21 : decode cX10_learnedAt 21 = .ok (.ireturn, 1) := by decide +kernel
theorem dX10_learnedAt_22 : decode cX10_learnedAt 22 = .ok (.iinc 2 1, 3) := by decide +kernel
theorem dX10_learnedAt_25 : decode cX10_learnedAt 25 = .ok (.goto (-23), 3) := by decide +kernel
theorem dX10_learnedAt_28 : decode cX10_learnedAt 28 = .ok (.iconst (-1), 1) := by decide +kernel
theorem dX10_learnedAt_29 : decode cX10_learnedAt 29 = .ok (.ireturn, 1) := by decide +kernel
theorem dX10_reflexAt_0 : decode cX10_reflexAt 0 = .ok (.aload_n 0, 1) := by decide +kernel
theorem dX10_reflexAt_1 : decode cX10_reflexAt 1 = .ok (.iload_n 1, 1) := by decide +kernel
theorem dX10_reflexAt_2 : decode cX10_reflexAt 2 = .ok (.invokevirtual 460, 3) := by decide +kernel
theorem dX10_reflexAt_5 : decode cX10_reflexAt 5 = .ok (.ifCond .eq 6, 3) := by decide +kernel
theorem dX10_reflexAt_8 : decode cX10_reflexAt 8 = .ok (.bipush (-2), 2) := by decide +kernel
theorem dX10_reflexAt_10 : decode cX10_reflexAt 10 = .ok (.ireturn, 1) := by decide +kernel
theorem dX10_reflexAt_11 : decode cX10_reflexAt 11 = .ok (.aload_n 0, 1) := by decide +kernel
theorem dX10_reflexAt_12 : decode cX10_reflexAt 12 = .ok (.iload_n 1, 1) := by decide +kernel
theorem dX10_reflexAt_13 : decode cX10_reflexAt 13 = .ok (.invokevirtual 552, 3) := by decide +kernel
theorem dX10_reflexAt_16 : decode cX10_reflexAt 16 = .ok (.istore_n 2, 1) := by decide +kernel
theorem dX10_reflexAt_17 : decode cX10_reflexAt 17 = .ok (.iload_n 2, 1) := by decide +kernel
theorem dX10_reflexAt_18 : decode cX10_reflexAt 18 = .ok (.ifCond .lt 10, 3) := by decide +kernel
theorem dX10_reflexAt_21 : decode cX10_reflexAt 21 = .ok (.aload_n 0, 1) := by decide +kernel
theorem dX10_reflexAt_22 : decode cX10_reflexAt 22 = .ok (.getfield 136, 3) := by decide +kernel
theorem dX10_reflexAt_25 : decode cX10_reflexAt 25 = .ok (.iload_n 2, 1) := by decide +kernel
theorem dX10_reflexAt_26 : decode cX10_reflexAt 26 = .ok (.iaload, 1) := by decide +kernel
theorem dX10_reflexAt_27 : decode cX10_reflexAt 27 = .ok (.ireturn, 1) := by decide +kernel
theorem dX10_reflexAt_28 : decode cX10_reflexAt 28 = .ok (.aload_n 0, 1) := by decide +kernel
theorem dX10_reflexAt_29 : decode cX10_reflexAt 29 = .ok (.iload_n 1, 1) := by decide +kernel
theorem dX10_reflexAt_30 : decode cX10_reflexAt 30 = .ok (.iconst 0, 1) := by decide +kernel
theorem dX10_reflexAt_31 : decode cX10_reflexAt 31 = .ok (.iconst 0, 1) := by decide +kernel
theorem dX10_reflexAt_32 : decode cX10_reflexAt 32 = .ok (.invokevirtual 466, 3) := by decide +kernel
theorem dX10_reflexAt_35 : decode cX10_reflexAt 35 = .ok (.bipush 12, 2) := by decide +kernel
theorem dX10_reflexAt_37 : decode cX10_reflexAt 37 = .ok (.aload_n 0, 1) := by decide +kernel
theorem dX10_reflexAt_38 : decode cX10_reflexAt 38 = .ok (.getfield 388, 3) := by decide +kernel
theorem dX10_reflexAt_41 : decode cX10_reflexAt 41 = .ok (.imul, 1) := by decide +kernel
theorem dX10_reflexAt_42 : decode cX10_reflexAt 42 = .ok (.istore_n 3, 1) := by decide +kernel
theorem dX10_reflexAt_43 : decode cX10_reflexAt 43 = .ok (.iload_n 3, 1) := by decide +kernel
theorem dX10_reflexAt_44 : decode cX10_reflexAt 44 = .ok (.bipush 12, 2) := by decide +kernel
theorem dX10_reflexAt_46 : decode cX10_reflexAt 46 = .ok (.aload_n 0, 1) := by decide +kernel
theorem dX10_reflexAt_47 : decode cX10_reflexAt 47 = .ok (.getfield 388, 3) := by decide +kernel
theorem dX10_reflexAt_50 : decode cX10_reflexAt 50 = .ok (.imul, 1) := by decide +kernel
theorem dX10_reflexAt_51 : decode cX10_reflexAt 51 = .ok (.aload_n 0, 1) := by decide +kernel
theorem dX10_reflexAt_52 : decode cX10_reflexAt 52 = .ok (.getfield 84, 3) := by decide +kernel
theorem dX10_reflexAt_55 : decode cX10_reflexAt 55 = .ok (.aload_n 0, 1) := by decide +kernel
theorem dX10_reflexAt_56 : decode cX10_reflexAt 56 = .ok (.getfield 388, 3) := by decide +kernel
theorem dX10_reflexAt_59 : decode cX10_reflexAt 59 = .ok (.iaload, 1) := by decide +kernel
theorem dX10_reflexAt_60 : decode cX10_reflexAt 60 = .ok (.iadd, 1) := by decide +kernel
theorem dX10_reflexAt_61 : decode cX10_reflexAt 61 = .ok (.if_icmp .ge 54, 3) := by decide +kernel
theorem dX10_reflexAt_64 : decode cX10_reflexAt 64 = .ok (.aload_n 0, 1) := by decide +kernel
theorem dX10_reflexAt_65 : decode cX10_reflexAt 65 = .ok (.getfield 163, 3) := by decide +kernel
theorem dX10_reflexAt_68 : decode cX10_reflexAt 68 = .ok (.bipush 6, 2) := by decide +kernel
theorem dX10_reflexAt_70 : decode cX10_reflexAt 70 = .ok (.iload_n 1, 1) := by decide +kernel
theorem dX10_reflexAt_71 : decode cX10_reflexAt 71 = .ok (.imul, 1) := by decide +kernel
theorem dX10_reflexAt_72 : decode cX10_reflexAt 72 = .ok (.aload_n 0, 1) := by decide +kernel
theorem dX10_reflexAt_73 : decode cX10_reflexAt 73 = .ok (.getfield 87, 3) := by decide +kernel
theorem dX10_reflexAt_76 : decode cX10_reflexAt 76 = .ok (.iload_n 3, 1) := by decide +kernel
theorem dX10_reflexAt_77 : decode cX10_reflexAt 77 = .ok (.iaload, 1) := by decide +kernel
theorem dX10_reflexAt_78 : decode cX10_reflexAt 78 = .ok (.iadd, 1) := by decide +kernel
theorem dX10_reflexAt_79 : decode cX10_reflexAt 79 = .ok (.baload, 1) := by decide +kernel
theorem dX10_reflexAt_80 : decode cX10_reflexAt 80 = .ok (.ifCond .eq 29, 3) := by decide +kernel
theorem dX10_reflexAt_83 : decode cX10_reflexAt 83 = .ok (.aload_n 0, 1) := by decide +kernel
theorem dX10_reflexAt_84 : decode cX10_reflexAt 84 = .ok (.aload_n 0, 1) := by decide +kernel
theorem dX10_reflexAt_85 : decode cX10_reflexAt 85 = .ok (.getfield 90, 3) := by decide +kernel
theorem dX10_reflexAt_88 : decode cX10_reflexAt 88 = .ok (.iload_n 3, 1) := by decide +kernel
theorem dX10_reflexAt_89 : decode cX10_reflexAt 89 = .ok (.iaload, 1) := by decide +kernel
theorem dX10_reflexAt_90 : decode cX10_reflexAt 90 = .ok (.aload_n 0, 1) := by decide +kernel
theorem dX10_reflexAt_91 : decode cX10_reflexAt 91 = .ok (.getfield 93, 3) := by decide +kernel
theorem dX10_reflexAt_94 : decode cX10_reflexAt 94 = .ok (.iload_n 3, 1) := by decide +kernel
theorem dX10_reflexAt_95 : decode cX10_reflexAt 95 = .ok (.iaload, 1) := by decide +kernel
theorem dX10_reflexAt_96 : decode cX10_reflexAt 96 = .ok (.invokevirtual 469, 3) := by decide +kernel
theorem dX10_reflexAt_99 : decode cX10_reflexAt 99 = .ok (.ifCond .eq 10, 3) := by decide +kernel
theorem dX10_reflexAt_102 : decode cX10_reflexAt 102 = .ok (.aload_n 0, 1) := by decide +kernel
theorem dX10_reflexAt_103 : decode cX10_reflexAt 103 = .ok (.getfield 87, 3) := by decide +kernel
theorem dX10_reflexAt_106 : decode cX10_reflexAt 106 = .ok (.iload_n 3, 1) := by decide +kernel
theorem dX10_reflexAt_107 : decode cX10_reflexAt 107 = .ok (.iaload, 1) := by decide +kernel
theorem dX10_reflexAt_108 : decode cX10_reflexAt 108 = .ok (.ireturn, 1) := by decide +kernel
theorem dX10_reflexAt_109 : decode cX10_reflexAt 109 = .ok (.iinc 3 1, 3) := by decide +kernel
theorem dX10_reflexAt_112 : decode cX10_reflexAt 112 = .ok (.goto (-69), 3) := by decide +kernel
theorem dX10_reflexAt_115 : decode cX10_reflexAt 115 = .ok (.iconst 0, 1) := by decide +kernel
theorem dX10_reflexAt_116 : decode cX10_reflexAt 116 = .ok (.istore_n 3, 1) := by decide +kernel
theorem dX10_reflexAt_117 : decode cX10_reflexAt 117 = .ok (.iload_n 3, 1) := by decide +kernel
theorem dX10_reflexAt_118 : decode cX10_reflexAt 118 = .ok (.aload_n 0, 1) := by decide +kernel
theorem dX10_reflexAt_119 : decode cX10_reflexAt 119 = .ok (.invokevirtual 482, 3) := by decide +kernel
theorem dX10_reflexAt_122 : decode cX10_reflexAt 122 = .ok (.if_icmp .ge 25, 3) := by decide +kernel
theorem dX10_reflexAt_125 : decode cX10_reflexAt 125 = .ok (.aload_n 0, 1) := by decide +kernel
theorem dX10_reflexAt_126 : decode cX10_reflexAt 126 = .ok (.getfield 163, 3) := by decide +kernel
theorem dX10_reflexAt_129 : decode cX10_reflexAt 129 = .ok (.bipush 6, 2) := by decide +kernel
theorem dX10_reflexAt_131 : decode cX10_reflexAt 131 = .ok (.iload_n 1, 1) := by decide +kernel
theorem dX10_reflexAt_132 : decode cX10_reflexAt 132 = .ok (.imul, 1) := by decide +kernel
theorem dX10_reflexAt_133 : decode cX10_reflexAt 133 = .ok (.iload_n 3, 1) := by decide +kernel
theorem dX10_reflexAt_134 : decode cX10_reflexAt 134 = .ok (.iadd, 1) := by decide +kernel
theorem dX10_reflexAt_135 : decode cX10_reflexAt 135 = .ok (.baload, 1) := by decide +kernel
theorem dX10_reflexAt_136 : decode cX10_reflexAt 136 = .ok (.ifCond .eq 5, 3) := by decide +kernel
theorem dX10_reflexAt_139 : decode cX10_reflexAt 139 = .ok (.iload_n 3, 1) := by decide +kernel
theorem dX10_reflexAt_140 : decode cX10_reflexAt 140 = .ok (.ireturn, 1) := by decide +kernel
theorem dX10_reflexAt_141 : decode cX10_reflexAt 141 = .ok (.iinc 3 1, 3) := by decide +kernel
theorem dX10_reflexAt_144 : decode cX10_reflexAt 144 = .ok (.goto (-27), 3) := by decide +kernel
theorem dX10_reflexAt_147 : decode cX10_reflexAt 147 = .ok (.bipush (-2), 2) := by decide +kernel
theorem dX10_reflexAt_149 : decode cX10_reflexAt 149 = .ok (.ireturn, 1) := by decide +kernel
theorem dX10_driven_0 : decode cX10_driven 0 = .ok (.aload_n 0, 1) := by decide +kernel
theorem dX10_driven_1 : decode cX10_driven 1 = .ok (.getfield 185, 3) := by decide +kernel
theorem dX10_driven_4 : decode cX10_driven 4 = .ok (.iload_n 1, 1) := by decide +kernel
theorem dX10_driven_5 : decode cX10_driven 5 = .ok (.iaload, 1) := by decide +kernel
theorem dX10_driven_6 : decode cX10_driven 6 = .ok (.ifCond .ge 8, 3) := by decide +kernel
theorem dX10_driven_9 : decode cX10_driven 9 = .ok (.bipush (-2), 2) := by decide +kernel
theorem dX10_driven_11 : decode cX10_driven 11 = .ok (.goto 15, 3) := by decide +kernel
theorem dX10_driven_14 : decode cX10_driven 14 = .ok (.aload_n 0, 1) := by decide +kernel
theorem dX10_driven_15 : decode cX10_driven 15 = .ok (.iload_n 1, 1) := by decide +kernel
theorem dX10_driven_16 : decode cX10_driven 16 = .ok (.aload_n 0, 1) := by decide +kernel
theorem dX10_driven_17 : decode cX10_driven 17 = .ok (.getfield 185, 3) := by decide +kernel
theorem dX10_driven_20 : decode cX10_driven 20 = .ok (.iload_n 1, 1) := by decide +kernel
theorem dX10_driven_21 : decode cX10_driven 21 = .ok (.iaload, 1) := by decide +kernel
theorem dX10_driven_22 : decode cX10_driven 22 = .ok (.iload_n 2, 1) := by decide +kernel
theorem dX10_driven_23 : decode cX10_driven 23 = .ok (.invokevirtual 507, 3) := by decide +kernel
theorem dX10_driven_26 : decode cX10_driven 26 = .ok (.ireturn, 1) := by decide +kernel
theorem dX10_reflexAll_0 : decode cX10_reflexAll 0 = .ok (.aload_n 0, 1) := by decide +kernel
theorem dX10_reflexAll_1 : decode cX10_reflexAll 1 = .ok (.invokevirtual 516, 3) := by decide +kernel
theorem dX10_reflexAll_4 : decode cX10_reflexAll 4 = .ok (.aload_n 0, 1) := by decide +kernel
theorem dX10_reflexAll_5 : decode cX10_reflexAll 5 = .ok (.getfield 498, 3) := by decide +kernel
theorem dX10_reflexAll_8 : decode cX10_reflexAll 8 = .ok (.ifCond .eq 4, 3) := by decide +kernel
theorem dX10_reflexAll_11 : decode cX10_reflexAll 11 = .ok (.return_, 1) := by decide +kernel
theorem dX10_reflexAll_12 : decode cX10_reflexAll 12 = .ok (.aload_n 0, 1) := by decide +kernel
theorem dX10_reflexAll_13 : decode cX10_reflexAll 13 = .ok (.iconst 1, 1) := by decide +kernel
theorem dX10_reflexAll_14 : decode cX10_reflexAll 14 = .ok (.putfield 498, 3) := by decide +kernel
theorem dX10_reflexAll_17 : decode cX10_reflexAll 17 = .ok (.iconst 0, 1) := by decide +kernel
theorem dX10_reflexAll_18 : decode cX10_reflexAll 18 = .ok (.istore_n 1, 1) := by decide +kernel
theorem dX10_reflexAll_19 : decode cX10_reflexAll 19 = .ok (.iload_n 1, 1) := by decide +kernel
theorem dX10_reflexAll_20 : decode cX10_reflexAll 20 = .ok (.sipush 2079, 3) := by decide +kernel
theorem dX10_reflexAll_23 : decode cX10_reflexAll 23 = .ok (.if_icmp .ge 61, 3) := by decide +kernel
theorem dX10_reflexAll_26 : decode cX10_reflexAll 26 = .ok (.aload_n 0, 1) := by decide +kernel
theorem dX10_reflexAll_27 : decode cX10_reflexAll 27 = .ok (.getfield 188, 3) := by decide +kernel
theorem dX10_reflexAll_30 : decode cX10_reflexAll 30 = .ok (.iload_n 1, 1) := by decide +kernel
theorem dX10_reflexAll_31 : decode cX10_reflexAll 31 = .ok (.iconst 0, 1) := by decide +kernel
theorem dX10_reflexAll_32 : decode cX10_reflexAll 32 = .ok (.iastore, 1) := by decide +kernel
theorem dX10_reflexAll_33 : decode cX10_reflexAll 33 = .ok (.aload_n 0, 1) := by decide +kernel
theorem dX10_reflexAll_34 : decode cX10_reflexAll 34 = .ok (.getfield 191, 3) := by decide +kernel
theorem dX10_reflexAll_37 : decode cX10_reflexAll 37 = .ok (.iload_n 1, 1) := by decide +kernel
theorem dX10_reflexAll_38 : decode cX10_reflexAll 38 = .ok (.bipush (-2), 2) := by decide +kernel
theorem dX10_reflexAll_40 : decode cX10_reflexAll 40 = .ok (.iastore, 1) := by decide +kernel
theorem dX10_reflexAll_41 : decode cX10_reflexAll 41 = .ok (.aload_n 0, 1) := by decide +kernel
theorem dX10_reflexAll_42 : decode cX10_reflexAll 42 = .ok (.iload_n 1, 1) := by decide +kernel
theorem dX10_reflexAll_43 : decode cX10_reflexAll 43 = .ok (.invokevirtual 476, 3) := by decide +kernel
theorem dX10_reflexAll_46 : decode cX10_reflexAll 46 = .ok (.ifCond .ne 6, 3) := by decide +kernel
theorem dX10_reflexAll_49 : decode cX10_reflexAll 49 = .ok (.goto 29, 3) := by decide +kernel
theorem dX10_reflexAll_52 : decode cX10_reflexAll 52 = .ok (.aload_n 0, 1) := by decide +kernel
theorem dX10_reflexAll_53 : decode cX10_reflexAll 53 = .ok (.getfield 185, 3) := by decide +kernel
theorem dX10_reflexAll_56 : decode cX10_reflexAll 56 = .ok (.iload_n 1, 1) := by decide +kernel
theorem dX10_reflexAll_57 : decode cX10_reflexAll 57 = .ok (.aload_n 0, 1) := by decide +kernel
theorem dX10_reflexAll_58 : decode cX10_reflexAll 58 = .ok (.iload_n 1, 1) := by decide +kernel
theorem dX10_reflexAll_59 : decode cX10_reflexAll 59 = .ok (.invokevirtual 555, 3) := by decide +kernel
theorem dX10_reflexAll_62 : decode cX10_reflexAll 62 = .ok (.iastore, 1) := by decide +kernel
theorem dX10_reflexAll_63 : decode cX10_reflexAll 63 = .ok (.aload_n 0, 1) := by decide +kernel
theorem dX10_reflexAll_64 : decode cX10_reflexAll 64 = .ok (.iload_n 1, 1) := by decide +kernel
theorem dX10_reflexAll_65 : decode cX10_reflexAll 65 = .ok (.invokevirtual 460, 3) := by decide +kernel
theorem dX10_reflexAll_68 : decode cX10_reflexAll 68 = .ok (.ifCond .eq 10, 3) := by decide +kernel
theorem dX10_reflexAll_71 : decode cX10_reflexAll 71 = .ok (.aload_n 0, 1) := by decide +kernel
theorem dX10_reflexAll_72 : decode cX10_reflexAll 72 = .ok (.getfield 191, 3) := by decide +kernel
theorem dX10_reflexAll_75 : decode cX10_reflexAll 75 = .ok (.iload_n 1, 1) := by decide +kernel
theorem dX10_reflexAll_76 : decode cX10_reflexAll 76 = .ok (.iconst 0, 1) := by decide +kernel
theorem dX10_reflexAll_77 : decode cX10_reflexAll 77 = .ok (.iastore, 1) := by decide +kernel
theorem dX10_reflexAll_78 : decode cX10_reflexAll 78 = .ok (.iinc 1 1, 3) := by decide +kernel
theorem dX10_reflexAll_81 : decode cX10_reflexAll 81 = .ok (.goto (-62), 3) := by decide +kernel
theorem dX10_reflexAll_84 : decode cX10_reflexAll 84 = .ok (.iconst 1, 1) := by decide +kernel
theorem dX10_reflexAll_85 : decode cX10_reflexAll 85 = .ok (.istore_n 1, 1) := by decide +kernel
theorem dX10_reflexAll_86 : decode cX10_reflexAll 86 = .ok (.iconst 1, 1) := by decide +kernel
theorem dX10_reflexAll_87 : decode cX10_reflexAll 87 = .ok (.istore_n 2, 1) := by decide +kernel
theorem dX10_reflexAll_88 : decode cX10_reflexAll 88 = .ok (.iload_n 1, 1) := by decide +kernel
theorem dX10_reflexAll_89 : decode cX10_reflexAll 89 = .ok (.ifCond .eq 99, 3) := by decide +kernel
theorem dX10_reflexAll_92 : decode cX10_reflexAll 92 = .ok (.iconst 0, 1) := by decide +kernel
theorem dX10_reflexAll_93 : decode cX10_reflexAll 93 = .ok (.istore_n 1, 1) := by decide +kernel
theorem dX10_reflexAll_94 : decode cX10_reflexAll 94 = .ok (.iconst 0, 1) := by decide +kernel
theorem dX10_reflexAll_95 : decode cX10_reflexAll 95 = .ok (.istore_n 3, 1) := by decide +kernel
theorem dX10_reflexAll_96 : decode cX10_reflexAll 96 = .ok (.iload_n 3, 1) := by decide +kernel
theorem dX10_reflexAll_97 : decode cX10_reflexAll 97 = .ok (.sipush 2079, 3) := by decide +kernel
theorem dX10_reflexAll_100 : decode cX10_reflexAll 100 = .ok (.if_icmp .ge 82, 3) := by decide +kernel
theorem dX10_reflexAll_103 : decode cX10_reflexAll 103 = .ok (.aload_n 0, 1) := by decide +kernel
theorem dX10_reflexAll_104 : decode cX10_reflexAll 104 = .ok (.iload_n 3, 1) := by decide +kernel
theorem dX10_reflexAll_105 : decode cX10_reflexAll 105 = .ok (.invokevirtual 476, 3) := by decide +kernel
theorem dX10_reflexAll_108 : decode cX10_reflexAll 108 = .ok (.ifCond .eq 68, 3) := by decide +kernel
theorem dX10_reflexAll_111 : decode cX10_reflexAll 111 = .ok (.aload_n 0, 1) := by decide +kernel
theorem dX10_reflexAll_112 : decode cX10_reflexAll 112 = .ok (.iload_n 3, 1) := by decide +kernel
theorem dX10_reflexAll_113 : decode cX10_reflexAll 113 = .ok (.invokevirtual 460, 3) := by decide +kernel
theorem dX10_reflexAll_116 : decode cX10_reflexAll 116 = .ok (.ifCond .eq 6, 3) := by decide +kernel
theorem dX10_reflexAll_119 : decode cX10_reflexAll 119 = .ok (.goto 57, 3) := by decide +kernel
theorem dX10_reflexAll_122 : decode cX10_reflexAll 122 = .ok (.aload_n 0, 1) := by decide +kernel
theorem dX10_reflexAll_123 : decode cX10_reflexAll 123 = .ok (.getfield 188, 3) := by decide +kernel
theorem dX10_reflexAll_126 : decode cX10_reflexAll 126 = .ok (.iload_n 3, 1) := by decide +kernel
theorem dX10_reflexAll_127 : decode cX10_reflexAll 127 = .ok (.iaload, 1) := by decide +kernel
theorem dX10_reflexAll_128 : decode cX10_reflexAll 128 = .ok (.ifCond .ne 21, 3) := by decide +kernel
theorem dX10_reflexAll_131 : decode cX10_reflexAll 131 = .ok (.aload_n 0, 1) := by decide +kernel
theorem dX10_reflexAll_132 : decode cX10_reflexAll 132 = .ok (.iload_n 3, 1) := by decide +kernel
theorem dX10_reflexAll_133 : decode cX10_reflexAll 133 = .ok (.iload_n 2, 1) := by decide +kernel
theorem dX10_reflexAll_134 : decode cX10_reflexAll 134 = .ok (.invokevirtual 558, 3) := by decide +kernel
theorem dX10_reflexAll_137 : decode cX10_reflexAll 137 = .ok (.ifCond .eq 12, 3) := by decide +kernel
theorem dX10_reflexAll_140 : decode cX10_reflexAll 140 = .ok (.aload_n 0, 1) := by decide +kernel
theorem dX10_reflexAll_141 : decode cX10_reflexAll 141 = .ok (.getfield 188, 3) := by decide +kernel
theorem dX10_reflexAll_144 : decode cX10_reflexAll 144 = .ok (.iload_n 3, 1) := by decide +kernel
theorem dX10_reflexAll_145 : decode cX10_reflexAll 145 = .ok (.iload_n 2, 1) := by decide +kernel
theorem dX10_reflexAll_146 : decode cX10_reflexAll 146 = .ok (.iastore, 1) := by decide +kernel
theorem dX10_reflexAll_147 : decode cX10_reflexAll 147 = .ok (.iconst 1, 1) := by decide +kernel
theorem dX10_reflexAll_148 : decode cX10_reflexAll 148 = .ok (.istore_n 1, 1) := by decide +kernel
theorem dX10_reflexAll_149 : decode cX10_reflexAll 149 = .ok (.aload_n 0, 1) := by decide +kernel
theorem dX10_reflexAll_150 : decode cX10_reflexAll 150 = .ok (.getfield 191, 3) := by decide +kernel
theorem dX10_reflexAll_153 : decode cX10_reflexAll 153 = .ok (.iload_n 3, 1) := by decide +kernel
theorem dX10_reflexAll_154 : decode cX10_reflexAll 154 = .ok (.iaload, 1) := by decide +kernel
theorem dX10_reflexAll_155 : decode cX10_reflexAll 155 = .ok (.ifCond .ge 21, 3) := by decide +kernel
theorem dX10_reflexAll_158 : decode cX10_reflexAll 158 = .ok (.aload_n 0, 1) := by decide +kernel
theorem dX10_reflexAll_159 : decode cX10_reflexAll 159 = .ok (.iload_n 3, 1) := by decide +kernel
theorem dX10_reflexAll_160 : decode cX10_reflexAll 160 = .ok (.iload_n 2, 1) := by decide +kernel
theorem dX10_reflexAll_161 : decode cX10_reflexAll 161 = .ok (.invokevirtual 561, 3) := by decide +kernel
theorem dX10_reflexAll_164 : decode cX10_reflexAll 164 = .ok (.ifCond .eq 12, 3) := by decide +kernel
theorem dX10_reflexAll_167 : decode cX10_reflexAll 167 = .ok (.aload_n 0, 1) := by decide +kernel
theorem dX10_reflexAll_168 : decode cX10_reflexAll 168 = .ok (.getfield 191, 3) := by decide +kernel
theorem dX10_reflexAll_171 : decode cX10_reflexAll 171 = .ok (.iload_n 3, 1) := by decide +kernel
theorem dX10_reflexAll_172 : decode cX10_reflexAll 172 = .ok (.iload_n 2, 1) := by decide +kernel
theorem dX10_reflexAll_173 : decode cX10_reflexAll 173 = .ok (.iastore, 1) := by decide +kernel
theorem dX10_reflexAll_174 : decode cX10_reflexAll 174 = .ok (.iconst 1, 1) := by decide +kernel
theorem dX10_reflexAll_175 : decode cX10_reflexAll 175 = .ok (.istore_n 1, 1) := by decide +kernel
theorem dX10_reflexAll_176 : decode cX10_reflexAll 176 = .ok (.iinc 3 1, 3) := by decide +kernel
theorem dX10_reflexAll_179 : decode cX10_reflexAll 179 = .ok (.goto (-83), 3) := by decide +kernel
theorem dX10_reflexAll_182 : decode cX10_reflexAll 182 = .ok (.iinc 2 1, 3) := by decide +kernel
theorem dX10_reflexAll_185 : decode cX10_reflexAll 185 = .ok (.goto (-97), 3) := by decide +kernel
theorem dX10_reflexAll_188 : decode cX10_reflexAll 188 = .ok (.return_, 1) := by decide +kernel
theorem dX10_mayFall_0 : decode cX10_mayFall 0 = .ok (.aload_n 0, 1) := by decide +kernel
theorem dX10_mayFall_1 : decode cX10_mayFall 1 = .ok (.getfield 157, 3) := by decide +kernel
theorem dX10_mayFall_4 : decode cX10_mayFall 4 = .ok (.iload_n 1, 1) := by decide +kernel
theorem dX10_mayFall_5 : decode cX10_mayFall 5 = .ok (.iaload, 1) := by decide +kernel
theorem dX10_mayFall_6 : decode cX10_mayFall 6 = .ok (.istore_n 3, 1) := by decide +kernel
theorem dX10_mayFall_7 : decode cX10_mayFall 7 = .ok (.iload_n 3, 1) := by decide +kernel
theorem dX10_mayFall_8 : decode cX10_mayFall 8 = .ok (.aload_n 0, 1) := by decide +kernel
theorem dX10_mayFall_9 : decode cX10_mayFall 9 = .ok (.getfield 160, 3) := by decide +kernel
theorem dX10_mayFall_12 : decode cX10_mayFall 12 = .ok (.iload_n 1, 1) := by decide +kernel
theorem dX10_mayFall_13 : decode cX10_mayFall 13 = .ok (.iaload, 1) := by decide +kernel
theorem dX10_mayFall_14 : decode cX10_mayFall 14 = .ok (.if_icmp .gt 54, 3) := by decide +kernel
theorem dX10_mayFall_17 : decode cX10_mayFall 17 = .ok (.aload_n 0, 1) := by decide +kernel
theorem dX10_mayFall_18 : decode cX10_mayFall 18 = .ok (.iload_n 1, 1) := by decide +kernel
theorem dX10_mayFall_19 : decode cX10_mayFall 19 = .ok (.iload_n 3, 1) := by decide +kernel
theorem dX10_mayFall_20 : decode cX10_mayFall 20 = .ok (.invokevirtual 564, 3) := by decide +kernel
theorem dX10_mayFall_23 : decode cX10_mayFall 23 = .ok (.istore 4, 2) := by decide +kernel
theorem dX10_mayFall_25 : decode cX10_mayFall 25 = .ok (.iload_n 2, 1) := by decide +kernel
theorem dX10_mayFall_26 : decode cX10_mayFall 26 = .ok (.iconst 1, 1) := by decide +kernel
theorem dX10_mayFall_27 : decode cX10_mayFall 27 = .ok (.if_icmp .ne 13, 3) := by decide +kernel
theorem dX10_mayFall_30 : decode cX10_mayFall 30 = .ok (.iload 4, 2) := by decide +kernel
theorem dX10_mayFall_32 : decode cX10_mayFall 32 = .ok (.bipush (-2), 2) := by decide +kernel
theorem dX10_mayFall_34 : decode cX10_mayFall 34 = .ok (.if_icmp .ne 28, 3) := by decide +kernel
theorem dX10_mayFall_37 : decode cX10_mayFall 37 = .ok (.goto 23, 3) := by decide +kernel
theorem dX10_mayFall_40 : decode cX10_mayFall 40 = .ok (.iload 4, 2) := by decide +kernel
theorem dX10_mayFall_42 : decode cX10_mayFall 42 = .ok (.bipush (-2), 2) := by decide +kernel
theorem dX10_mayFall_44 : decode cX10_mayFall 44 = .ok (.if_icmp .eq 18, 3) := by decide +kernel
theorem dX10_mayFall_47 : decode cX10_mayFall 47 = .ok (.aload_n 0, 1) := by decide +kernel
theorem dX10_mayFall_48 : decode cX10_mayFall 48 = .ok (.getfield 188, 3) := by decide +kernel
theorem dX10_mayFall_51 : decode cX10_mayFall 51 = .ok (.iload 4, 2) := by decide +kernel
theorem dX10_mayFall_53 : decode cX10_mayFall 53 = .ok (.iaload, 1) := by decide +kernel
theorem dX10_mayFall_54 : decode cX10_mayFall 54 = .ok (.iload_n 2, 1) := by decide +kernel
theorem dX10_mayFall_55 : decode cX10_mayFall 55 = .ok (.iconst 1, 1) := by decide +kernel
theorem dX10_mayFall_56 : decode cX10_mayFall 56 = .ok (.isub, 1) := by decide +kernel
theorem dX10_mayFall_57 : decode cX10_mayFall 57 = .ok (.if_icmp .ne 5, 3) := by decide +kernel
theorem dX10_mayFall_60 : decode cX10_mayFall 60 = .ok (.iconst 1, 1) := by decide +kernel
theorem dX10_mayFall_61 : decode cX10_mayFall 61 = .ok (.ireturn, 1) := by decide +kernel
theorem dX10_mayFall_62 : decode cX10_mayFall 62 = .ok (.iinc 3 1, 3) := by decide +kernel
theorem dX10_mayFall_65 : decode cX10_mayFall 65 = .ok (.goto (-58), 3) := by decide +kernel
theorem dX10_mayFall_68 : decode cX10_mayFall 68 = .ok (.iconst 0, 1) := by decide +kernel
theorem dX10_mayFall_69 : decode cX10_mayFall 69 = .ok (.ireturn, 1) := by decide +kernel
theorem dX10_comes_0 : decode cX10_comes 0 = .ok (.aload_n 0, 1) := by decide +kernel
theorem dX10_comes_1 : decode cX10_comes 1 = .ok (.getfield 157, 3) := by decide +kernel
theorem dX10_comes_4 : decode cX10_comes 4 = .ok (.iload_n 1, 1) := by decide +kernel
theorem dX10_comes_5 : decode cX10_comes 5 = .ok (.iaload, 1) := by decide +kernel
theorem dX10_comes_6 : decode cX10_comes 6 = .ok (.istore_n 3, 1) := by decide +kernel
theorem dX10_comes_7 : decode cX10_comes 7 = .ok (.iload_n 3, 1) := by decide +kernel
theorem dX10_comes_8 : decode cX10_comes 8 = .ok (.aload_n 0, 1) := by decide +kernel
theorem dX10_comes_9 : decode cX10_comes 9 = .ok (.getfield 160, 3) := by decide +kernel
theorem dX10_comes_12 : decode cX10_comes 12 = .ok (.iload_n 1, 1) := by decide +kernel
theorem dX10_comes_13 : decode cX10_comes 13 = .ok (.iaload, 1) := by decide +kernel
theorem dX10_comes_14 : decode cX10_comes 14 = .ok (.if_icmp .gt 47, 3) := by decide +kernel
theorem dX10_comes_17 : decode cX10_comes 17 = .ok (.aload_n 0, 1) := by decide +kernel
theorem dX10_comes_18 : decode cX10_comes 18 = .ok (.iload_n 1, 1) := by decide +kernel
theorem dX10_comes_19 : decode cX10_comes 19 = .ok (.iload_n 3, 1) := by decide +kernel
theorem dX10_comes_20 : decode cX10_comes 20 = .ok (.invokevirtual 564, 3) := by decide +kernel
theorem dX10_comes_23 : decode cX10_comes 23 = .ok (.istore 4, 2) := by decide +kernel
theorem dX10_comes_25 : decode cX10_comes 25 = .ok (.iload 4, 2) := by decide +kernel
theorem dX10_comes_27 : decode cX10_comes 27 = .ok (.bipush (-2), 2) := by decide +kernel
theorem dX10_comes_29 : decode cX10_comes 29 = .ok (.if_icmp .eq 24, 3) := by decide +kernel
theorem dX10_comes_32 : decode cX10_comes 32 = .ok (.aload_n 0, 1) := by decide +kernel
theorem dX10_comes_33 : decode cX10_comes 33 = .ok (.getfield 191, 3) := by decide +kernel
theorem dX10_comes_36 : decode cX10_comes 36 = .ok (.iload 4, 2) := by decide +kernel
theorem dX10_comes_38 : decode cX10_comes 38 = .ok (.iaload, 1) := by decide +kernel
theorem dX10_comes_39 : decode cX10_comes 39 = .ok (.ifCond .lt 14, 3) := by decide +kernel
theorem dX10_comes_42 : decode cX10_comes 42 = .ok (.aload_n 0, 1) := by decide +kernel
theorem dX10_comes_43 : decode cX10_comes 43 = .ok (.getfield 191, 3) := by decide +kernel
theorem dX10_comes_46 : decode cX10_comes 46 = .ok (.iload 4, 2) := by decide +kernel
theorem dX10_comes_48 : decode cX10_comes 48 = .ok (.iaload, 1) := by decide +kernel
theorem dX10_comes_49 : decode cX10_comes 49 = .ok (.iload_n 2, 1) := by decide +kernel
theorem dX10_comes_50 : decode cX10_comes 50 = .ok (.if_icmp .lt 5, 3) := by decide +kernel
theorem dX10_comes_53 : decode cX10_comes 53 = .ok (.iconst 0, 1) := by decide +kernel
theorem dX10_comes_54 : decode cX10_comes 54 = .ok (.ireturn, 1) := by decide +kernel
theorem dX10_comes_55 : decode cX10_comes 55 = .ok (.iinc 3 1, 3) := by decide +kernel
theorem dX10_comes_58 : decode cX10_comes 58 = .ok (.goto (-51), 3) := by decide +kernel
theorem dX10_comes_61 : decode cX10_comes 61 = .ok (.iconst 1, 1) := by decide +kernel
theorem dX10_comes_62 : decode cX10_comes 62 = .ok (.ireturn, 1) := by decide +kernel
theorem dX10_reflex_0 : decode cX10_reflex 0 = .ok (.aload_n 0, 1) := by decide +kernel
theorem dX10_reflex_1 : decode cX10_reflex 1 = .ok (.iload_n 1, 1) := by decide +kernel
theorem dX10_reflex_2 : decode cX10_reflex 2 = .ok (.invokevirtual 476, 3) := by decide +kernel
theorem dX10_reflex_5 : decode cX10_reflex 5 = .ok (.ifCond .ne 5, 3) := by decide +kernel
theorem dX10_reflex_8 : decode cX10_reflex 8 = .ok (.iconst (-1), 1) := by decide +kernel
theorem dX10_reflex_9 : decode cX10_reflex 9 = .ok (.ireturn, 1) := by decide +kernel
theorem dX10_reflex_10 : decode cX10_reflex 10 = .ok (.aload_n 0, 1) := by decide +kernel
theorem dX10_reflex_11 : decode cX10_reflex 11 = .ok (.invokevirtual 567, 3) := by decide +kernel
theorem dX10_reflex_14 : decode cX10_reflex 14 = .ok (.aload_n 0, 1) := by decide +kernel
theorem dX10_reflex_15 : decode cX10_reflex 15 = .ok (.getfield 185, 3) := by decide +kernel
theorem dX10_reflex_18 : decode cX10_reflex 18 = .ok (.iload_n 1, 1) := by decide +kernel
theorem dX10_reflex_19 : decode cX10_reflex 19 = .ok (.iaload, 1) := by decide +kernel
theorem dX10_reflex_20 : decode cX10_reflex 20 = .ok (.ireturn, 1) := by decide +kernel
theorem dX10_proof_0 : decode cX10_proof 0 = .ok (.aload_n 0, 1) := by decide +kernel
theorem dX10_proof_1 : decode cX10_proof 1 = .ok (.iload_n 1, 1) := by decide +kernel
theorem dX10_proof_2 : decode cX10_proof 2 = .ok (.invokevirtual 476, 3) := by decide +kernel
theorem dX10_proof_5 : decode cX10_proof 5 = .ok (.ifCond .ne 5, 3) := by decide +kernel
theorem dX10_proof_8 : decode cX10_proof 8 = .ok (.iconst (-1), 1) := by decide +kernel
theorem dX10_proof_9 : decode cX10_proof 9 = .ok (.ireturn, 1) := by decide +kernel
theorem dX10_proof_10 : decode cX10_proof 10 = .ok (.aload_n 0, 1) := by decide +kernel
theorem dX10_proof_11 : decode cX10_proof 11 = .ok (.invokevirtual 567, 3) := by decide +kernel
theorem dX10_proof_14 : decode cX10_proof 14 = .ok (.aload_n 0, 1) := by decide +kernel
theorem dX10_proof_15 : decode cX10_proof 15 = .ok (.getfield 188, 3) := by decide +kernel
theorem dX10_proof_18 : decode cX10_proof 18 = .ok (.iload_n 1, 1) := by decide +kernel
theorem dX10_proof_19 : decode cX10_proof 19 = .ok (.iaload, 1) := by decide +kernel
theorem dX10_proof_20 : decode cX10_proof 20 = .ok (.ireturn, 1) := by decide +kernel
theorem dX10_fatal_0 : decode cX10_fatal 0 = .ok (.aload_n 0, 1) := by decide +kernel
theorem dX10_fatal_1 : decode cX10_fatal 1 = .ok (.getfield 157, 3) := by decide +kernel
theorem dX10_fatal_4 : decode cX10_fatal 4 = .ok (.iload_n 1, 1) := by decide +kernel
theorem dX10_fatal_5 : decode cX10_fatal 5 = .ok (.iaload, 1) := by decide +kernel
theorem dX10_fatal_6 : decode cX10_fatal 6 = .ok (.istore_n 2, 1) := by decide +kernel
theorem dX10_fatal_7 : decode cX10_fatal 7 = .ok (.iload_n 2, 1) := by decide +kernel
theorem dX10_fatal_8 : decode cX10_fatal 8 = .ok (.aload_n 0, 1) := by decide +kernel
theorem dX10_fatal_9 : decode cX10_fatal 9 = .ok (.getfield 160, 3) := by decide +kernel
theorem dX10_fatal_12 : decode cX10_fatal 12 = .ok (.iload_n 1, 1) := by decide +kernel
theorem dX10_fatal_13 : decode cX10_fatal 13 = .ok (.iaload, 1) := by decide +kernel
theorem dX10_fatal_14 : decode cX10_fatal 14 = .ok (.if_icmp .gt 60, 3) := by decide +kernel
theorem dX10_fatal_17 : decode cX10_fatal 17 = .ok (.aload_n 0, 1) := by decide +kernel
theorem dX10_fatal_18 : decode cX10_fatal 18 = .ok (.iload_n 1, 1) := by decide +kernel
theorem dX10_fatal_19 : decode cX10_fatal 19 = .ok (.iload_n 2, 1) := by decide +kernel
theorem dX10_fatal_20 : decode cX10_fatal 20 = .ok (.invokevirtual 564, 3) := by decide +kernel
theorem dX10_fatal_23 : decode cX10_fatal 23 = .ok (.istore_n 3, 1) := by decide +kernel
theorem dX10_fatal_24 : decode cX10_fatal 24 = .ok (.aload_n 0, 1) := by decide +kernel
theorem dX10_fatal_25 : decode cX10_fatal 25 = .ok (.getfield 188, 3) := by decide +kernel
theorem dX10_fatal_28 : decode cX10_fatal 28 = .ok (.iload_n 1, 1) := by decide +kernel
theorem dX10_fatal_29 : decode cX10_fatal 29 = .ok (.iaload, 1) := by decide +kernel
theorem dX10_fatal_30 : decode cX10_fatal 30 = .ok (.iconst 1, 1) := by decide +kernel
theorem dX10_fatal_31 : decode cX10_fatal 31 = .ok (.if_icmp .ne 12, 3) := by decide +kernel
theorem dX10_fatal_34 : decode cX10_fatal 34 = .ok (.iload_n 3, 1) := by decide +kernel
theorem dX10_fatal_35 : decode cX10_fatal 35 = .ok (.bipush (-2), 2) := by decide +kernel
theorem dX10_fatal_37 : decode cX10_fatal 37 = .ok (.if_icmp .ne 31, 3) := by decide +kernel
theorem dX10_fatal_40 : decode cX10_fatal 40 = .ok (.goto 26, 3) := by decide +kernel
theorem dX10_fatal_43 : decode cX10_fatal 43 = .ok (.iload_n 3, 1) := by decide +kernel
theorem dX10_fatal_44 : decode cX10_fatal 44 = .ok (.bipush (-2), 2) := by decide +kernel
theorem dX10_fatal_46 : decode cX10_fatal 46 = .ok (.if_icmp .eq 22, 3) := by decide +kernel
theorem dX10_fatal_49 : decode cX10_fatal 49 = .ok (.aload_n 0, 1) := by decide +kernel
theorem dX10_fatal_50 : decode cX10_fatal 50 = .ok (.getfield 188, 3) := by decide +kernel
theorem dX10_fatal_53 : decode cX10_fatal 53 = .ok (.iload_n 3, 1) := by decide +kernel
theorem dX10_fatal_54 : decode cX10_fatal 54 = .ok (.iaload, 1) := by decide +kernel
theorem dX10_fatal_55 : decode cX10_fatal 55 = .ok (.aload_n 0, 1) := by decide +kernel
theorem dX10_fatal_56 : decode cX10_fatal 56 = .ok (.getfield 188, 3) := by decide +kernel
theorem dX10_fatal_59 : decode cX10_fatal 59 = .ok (.iload_n 1, 1) := by decide +kernel
theorem dX10_fatal_60 : decode cX10_fatal 60 = .ok (.iaload, 1) := by decide +kernel
theorem dX10_fatal_61 : decode cX10_fatal 61 = .ok (.iconst 1, 1) := by decide +kernel
theorem dX10_fatal_62 : decode cX10_fatal 62 = .ok (.isub, 1) := by decide +kernel
theorem dX10_fatal_63 : decode cX10_fatal 63 = .ok (.if_icmp .ne 5, 3) := by decide +kernel
theorem dX10_fatal_66 : decode cX10_fatal 66 = .ok (.iload_n 2, 1) := by decide +kernel
theorem dX10_fatal_67 : decode cX10_fatal 67 = .ok (.ireturn, 1) := by decide +kernel
theorem dX10_fatal_68 : decode cX10_fatal 68 = .ok (.iinc 2 1, 3) := by decide +kernel
theorem dX10_fatal_71 : decode cX10_fatal 71 = .ok (.goto (-64), 3) := by decide +kernel
theorem dX10_fatal_74 : decode cX10_fatal 74 = .ok (.aload_n 0, 1) := by decide +kernel
theorem dX10_fatal_75 : decode cX10_fatal 75 = .ok (.getfield 157, 3) := by decide +kernel
theorem dX10_fatal_78 : decode cX10_fatal 78 = .ok (.iload_n 1, 1) := by decide +kernel
theorem dX10_fatal_79 : decode cX10_fatal 79 = .ok (.iaload, 1) := by decide +kernel
theorem dX10_fatal_80 : decode cX10_fatal 80 = .ok (.ireturn, 1) := by decide +kernel
theorem dX10_witness_0 : decode cX10_witness 0 = .ok (.aload_n 0, 1) := by decide +kernel
theorem dX10_witness_1 : decode cX10_witness 1 = .ok (.iload_n 1, 1) := by decide +kernel
theorem dX10_witness_2 : decode cX10_witness 2 = .ok (.invokevirtual 476, 3) := by decide +kernel
theorem dX10_witness_5 : decode cX10_witness 5 = .ok (.ifCond .eq 7, 3) := by decide +kernel
theorem dX10_witness_8 : decode cX10_witness 8 = .ok (.iload_n 2, 1) := by decide +kernel
theorem dX10_witness_9 : decode cX10_witness 9 = .ok (.ifCond .ge 6, 3) := by decide +kernel
theorem dX10_witness_12 : decode cX10_witness 12 = .ok (.bipush (-100), 2) := by decide +kernel
theorem dX10_witness_14 : decode cX10_witness 14 = .ok (.ireturn, 1) := by decide +kernel
theorem dX10_witness_15 : decode cX10_witness 15 = .ok (.aload_n 0, 1) := by decide +kernel
theorem dX10_witness_16 : decode cX10_witness 16 = .ok (.invokevirtual 567, 3) := by decide +kernel
theorem dX10_witness_19 : decode cX10_witness 19 = .ok (.iload_n 2, 1) := by decide +kernel
theorem dX10_witness_20 : decode cX10_witness 20 = .ok (.aload_n 0, 1) := by decide +kernel
theorem dX10_witness_21 : decode cX10_witness 21 = .ok (.getfield 188, 3) := by decide +kernel
theorem dX10_witness_24 : decode cX10_witness 24 = .ok (.iload_n 1, 1) := by decide +kernel
theorem dX10_witness_25 : decode cX10_witness 25 = .ok (.iaload, 1) := by decide +kernel
theorem dX10_witness_26 : decode cX10_witness 26 = .ok (.if_icmp .lt 6, 3) := by decide +kernel
theorem dX10_witness_29 : decode cX10_witness 29 = .ok (.bipush (-100), 2) := by decide +kernel
theorem dX10_witness_31 : decode cX10_witness 31 = .ok (.ireturn, 1) := by decide +kernel
theorem dX10_witness_32 : decode cX10_witness 32 = .ok (.iload_n 1, 1) := by decide +kernel
theorem dX10_witness_33 : decode cX10_witness 33 = .ok (.istore_n 3, 1) := by decide +kernel
theorem dX10_witness_34 : decode cX10_witness 34 = .ok (.iconst 0, 1) := by decide +kernel
theorem dX10_witness_35 : decode cX10_witness 35 = .ok (.istore 4, 2) := by decide +kernel
theorem dX10_witness_37 : decode cX10_witness 37 = .ok (.iload 4, 2) := by decide +kernel
theorem dX10_witness_39 : decode cX10_witness 39 = .ok (.iload_n 2, 1) := by decide +kernel
theorem dX10_witness_40 : decode cX10_witness 40 = .ok (.if_icmp .ge 20, 3) := by decide +kernel
theorem dX10_witness_43 : decode cX10_witness 43 = .ok (.aload_n 0, 1) := by decide +kernel
theorem dX10_witness_44 : decode cX10_witness 44 = .ok (.iload_n 3, 1) := by decide +kernel
theorem dX10_witness_45 : decode cX10_witness 45 = .ok (.aload_n 0, 1) := by decide +kernel
theorem dX10_witness_46 : decode cX10_witness 46 = .ok (.iload_n 3, 1) := by decide +kernel
theorem dX10_witness_47 : decode cX10_witness 47 = .ok (.invokevirtual 570, 3) := by decide +kernel
theorem dX10_witness_50 : decode cX10_witness 50 = .ok (.invokevirtual 564, 3) := by decide +kernel
theorem dX10_witness_53 : decode cX10_witness 53 = .ok (.istore_n 3, 1) := by decide +kernel
theorem dX10_witness_54 : decode cX10_witness 54 = .ok (.iinc 4 1, 3) := by decide +kernel
theorem dX10_witness_57 : decode cX10_witness 57 = .ok (.goto (-20), 3) := by decide +kernel
theorem dX10_witness_60 : decode cX10_witness 60 = .ok (.aload_n 0, 1) := by decide +kernel
theorem dX10_witness_61 : decode cX10_witness 61 = .ok (.iload_n 3, 1) := by decide +kernel
theorem dX10_witness_62 : decode cX10_witness 62 = .ok (.invokevirtual 570, 3) := by decide +kernel
theorem dX10_witness_65 : decode cX10_witness 65 = .ok (.ireturn, 1) := by decide +kernel
theorem dX10_arrives_0 : decode cX10_arrives 0 = .ok (.aload_n 0, 1) := by decide +kernel
theorem dX10_arrives_1 : decode cX10_arrives 1 = .ok (.iload_n 1, 1) := by decide +kernel
theorem dX10_arrives_2 : decode cX10_arrives 2 = .ok (.invokevirtual 476, 3) := by decide +kernel
theorem dX10_arrives_5 : decode cX10_arrives 5 = .ok (.ifCond .ne 5, 3) := by decide +kernel
theorem dX10_arrives_8 : decode cX10_arrives 8 = .ok (.iconst (-1), 1) := by decide +kernel
theorem dX10_arrives_9 : decode cX10_arrives 9 = .ok (.ireturn, 1) := by decide +kernel
theorem dX10_arrives_10 : decode cX10_arrives 10 = .ok (.aload_n 0, 1) := by decide +kernel
theorem dX10_arrives_11 : decode cX10_arrives 11 = .ok (.invokevirtual 567, 3) := by decide +kernel
theorem dX10_arrives_14 : decode cX10_arrives 14 = .ok (.aload_n 0, 1) := by decide +kernel
theorem dX10_arrives_15 : decode cX10_arrives 15 = .ok (.getfield 191, 3) := by decide +kernel
theorem dX10_arrives_18 : decode cX10_arrives 18 = .ok (.iload_n 1, 1) := by decide +kernel
theorem dX10_arrives_19 : decode cX10_arrives 19 = .ok (.iaload, 1) := by decide +kernel
theorem dX10_arrives_20 : decode cX10_arrives 20 = .ok (.ireturn, 1) := by decide +kernel
theorem dX10_odds_0 : decode cX10_odds 0 = .ok (.aload_n 0, 1) := by decide +kernel
theorem dX10_odds_1 : decode cX10_odds 1 = .ok (.iload_n 1, 1) := by decide +kernel
theorem dX10_odds_2 : decode cX10_odds 2 = .ok (.invokevirtual 476, 3) := by decide +kernel
theorem dX10_odds_5 : decode cX10_odds 5 = .ok (.ifCond .eq 22, 3) := by decide +kernel
theorem dX10_odds_8 : decode cX10_odds 8 = .ok (.iload_n 2, 1) := by decide +kernel
theorem dX10_odds_9 : decode cX10_odds 9 = .ok (.ifCond .lt 18, 3) := by decide +kernel
theorem dX10_odds_12 : decode cX10_odds 12 = .ok (.iload_n 2, 1) := by decide +kernel
theorem dX10_odds_13 : decode cX10_odds 13 = .ok (.bipush 12, 2) := by decide +kernel
theorem dX10_odds_15 : decode cX10_odds 15 = .ok (.if_icmp .gt 12, 3) := by decide +kernel
theorem dX10_odds_18 : decode cX10_odds 18 = .ok (.iload_n 3, 1) := by decide +kernel
theorem dX10_odds_19 : decode cX10_odds 19 = .ok (.ifCond .lt 8, 3) := by decide +kernel
theorem dX10_odds_22 : decode cX10_odds 22 = .ok (.iload_n 3, 1) := by decide +kernel
theorem dX10_odds_23 : decode cX10_odds 23 = .ok (.iconst 2, 1) := by decide +kernel
theorem dX10_odds_24 : decode cX10_odds 24 = .ok (.if_icmp .le 7, 3) := by decide +kernel
theorem dX10_odds_27 : decode cX10_odds 27 = .ok (.ldc2_w 573, 3) := by decide +kernel
theorem dX10_odds_30 : decode cX10_odds 30 = .ok (.lreturn, 1) := by decide +kernel
theorem dX10_odds_31 : decode cX10_odds 31 = .ok (.aload_n 0, 1) := by decide +kernel
theorem dX10_odds_32 : decode cX10_odds 32 = .ok (.invokevirtual 567, 3) := by decide +kernel
theorem dX10_odds_35 : decode cX10_odds 35 = .ok (.iconst 0, 1) := by decide +kernel
theorem dX10_odds_36 : decode cX10_odds 36 = .ok (.istore 4, 2) := by decide +kernel
theorem dX10_odds_38 : decode cX10_odds 38 = .ok (.iload 4, 2) := by decide +kernel
theorem dX10_odds_40 : decode cX10_odds 40 = .ok (.sipush 2079, 3) := by decide +kernel
theorem dX10_odds_43 : decode cX10_odds 43 = .ok (.if_icmp .ge 63, 3) := by decide +kernel
theorem dX10_odds_46 : decode cX10_odds 46 = .ok (.aload_n 0, 1) := by decide +kernel
theorem dX10_odds_47 : decode cX10_odds 47 = .ok (.getfield 204, 3) := by decide +kernel
theorem dX10_odds_50 : decode cX10_odds 50 = .ok (.iload 4, 2) := by decide +kernel
theorem dX10_odds_52 : decode cX10_odds 52 = .ok (.lconst 0, 1) := by decide +kernel
theorem dX10_odds_53 : decode cX10_odds 53 = .ok (.lastore, 1) := by decide +kernel
theorem dX10_odds_54 : decode cX10_odds 54 = .ok (.aload_n 0, 1) := by decide +kernel
theorem dX10_odds_55 : decode cX10_odds 55 = .ok (.getfield 204, 3) := by decide +kernel
theorem dX10_odds_58 : decode cX10_odds 58 = .ok (.sipush 2079, 3) := by decide +kernel
theorem dX10_odds_61 : decode cX10_odds 61 = .ok (.iload 4, 2) := by decide +kernel
theorem dX10_odds_63 : decode cX10_odds 63 = .ok (.iadd, 1) := by decide +kernel
theorem dX10_odds_64 : decode cX10_odds 64 = .ok (.aload_n 0, 1) := by decide +kernel
theorem dX10_odds_65 : decode cX10_odds 65 = .ok (.iload 4, 2) := by decide +kernel
theorem dX10_odds_67 : decode cX10_odds 67 = .ok (.invokevirtual 476, 3) := by decide +kernel
theorem dX10_odds_70 : decode cX10_odds 70 = .ok (.ifCond .eq 16, 3) := by decide +kernel
theorem dX10_odds_73 : decode cX10_odds 73 = .ok (.aload_n 0, 1) := by decide +kernel
theorem dX10_odds_74 : decode cX10_odds 74 = .ok (.iload 4, 2) := by decide +kernel
theorem dX10_odds_76 : decode cX10_odds 76 = .ok (.invokevirtual 460, 3) := by decide +kernel
theorem dX10_odds_79 : decode cX10_odds 79 = .ok (.ifCond .eq 7, 3) := by decide +kernel
theorem dX10_odds_82 : decode cX10_odds 82 = .ok (.lconst 1, 1) := by decide +kernel
theorem dX10_odds_83 : decode cX10_odds 83 = .ok (.goto 4, 3) := by decide +kernel
theorem dX10_odds_86 : decode cX10_odds 86 = .ok (.lconst 0, 1) := by decide +kernel
theorem dX10_odds_87 : decode cX10_odds 87 = .ok (.lastore, 1) := by decide +kernel
theorem dX10_odds_88 : decode cX10_odds 88 = .ok (.aload_n 0, 1) := by decide +kernel
theorem dX10_odds_89 : decode cX10_odds 89 = .ok (.getfield 204, 3) := by decide +kernel
theorem dX10_odds_92 : decode cX10_odds 92 = .ok (.sipush 4158, 3) := by decide +kernel
theorem dX10_odds_95 : decode cX10_odds 95 = .ok (.iload 4, 2) := by decide +kernel
theorem dX10_odds_97 : decode cX10_odds 97 = .ok (.iadd, 1) := by decide +kernel
theorem dX10_odds_98 : decode cX10_odds 98 = .ok (.lconst 1, 1) := by decide +kernel
theorem dX10_odds_99 : decode cX10_odds 99 = .ok (.lastore, 1) := by decide +kernel
theorem dX10_odds_100 : decode cX10_odds 100 = .ok (.iinc 4 1, 3) := by decide +kernel
theorem dX10_odds_103 : decode cX10_odds 103 = .ok (.goto (-65), 3) := by decide +kernel
theorem dX10_odds_106 : decode cX10_odds 106 = .ok (.iconst 0, 1) := by decide +kernel
theorem dX10_odds_107 : decode cX10_odds 107 = .ok (.istore 4, 2) := by decide +kernel
theorem dX10_odds_109 : decode cX10_odds 109 = .ok (.iload 4, 2) := by decide +kernel
theorem dX10_odds_111 : decode cX10_odds 111 = .ok (.iload_n 2, 1) := by decide +kernel
theorem dX10_odds_112 : decode cX10_odds 112 = .ok (.if_icmp .ge 67, 3) := by decide +kernel
theorem dX10_odds_115 : decode cX10_odds 115 = .ok (.iconst 0, 1) := by decide +kernel
theorem dX10_odds_116 : decode cX10_odds 116 = .ok (.istore 5, 2) := by decide +kernel
theorem dX10_odds_118 : decode cX10_odds 118 = .ok (.iload 5, 2) := by decide +kernel
theorem dX10_odds_120 : decode cX10_odds 120 = .ok (.sipush 2079, 3) := by decide +kernel
theorem dX10_odds_123 : decode cX10_odds 123 = .ok (.if_icmp .ge 15, 3) := by decide +kernel
theorem dX10_odds_126 : decode cX10_odds 126 = .ok (.aload_n 0, 1) := by decide +kernel
theorem dX10_odds_127 : decode cX10_odds 127 = .ok (.iload 5, 2) := by decide +kernel
theorem dX10_odds_129 : decode cX10_odds 129 = .ok (.invokevirtual 575, 3) := by decide +kernel
theorem dX10_odds_132 : decode cX10_odds 132 = .ok (.iinc 5 1, 3) := by decide +kernel
theorem dX10_odds_135 : decode cX10_odds 135 = .ok (.goto (-17), 3) := by decide +kernel
theorem dX10_odds_138 : decode cX10_odds 138 = .ok (.iconst 0, 1) := by decide +kernel
theorem dX10_odds_139 : decode cX10_odds 139 = .ok (.istore 5, 2) := by decide +kernel
theorem dX10_odds_141 : decode cX10_odds 141 = .ok (.iload 5, 2) := by decide +kernel
theorem dX10_odds_143 : decode cX10_odds 143 = .ok (.sipush 6237, 3) := by decide +kernel
theorem dX10_odds_146 : decode cX10_odds 146 = .ok (.if_icmp .ge 27, 3) := by decide +kernel
theorem dX10_odds_149 : decode cX10_odds 149 = .ok (.aload_n 0, 1) := by decide +kernel
theorem dX10_odds_150 : decode cX10_odds 150 = .ok (.getfield 204, 3) := by decide +kernel
theorem dX10_odds_153 : decode cX10_odds 153 = .ok (.iload 5, 2) := by decide +kernel
theorem dX10_odds_155 : decode cX10_odds 155 = .ok (.aload_n 0, 1) := by decide +kernel
theorem dX10_odds_156 : decode cX10_odds 156 = .ok (.getfield 204, 3) := by decide +kernel
theorem dX10_odds_159 : decode cX10_odds 159 = .ok (.sipush 6237, 3) := by decide +kernel
theorem dX10_odds_162 : decode cX10_odds 162 = .ok (.iload 5, 2) := by decide +kernel
theorem dX10_odds_164 : decode cX10_odds 164 = .ok (.iadd, 1) := by decide +kernel
theorem dX10_odds_165 : decode cX10_odds 165 = .ok (.laload, 1) := by decide +kernel
theorem dX10_odds_166 : decode cX10_odds 166 = .ok (.lastore, 1) := by decide +kernel
theorem dX10_odds_167 : decode cX10_odds 167 = .ok (.iinc 5 1, 3) := by decide +kernel
theorem dX10_odds_170 : decode cX10_odds 170 = .ok (.goto (-29), 3) := by decide +kernel
theorem dX10_odds_173 : decode cX10_odds 173 = .ok (.iinc 4 1, 3) := by decide +kernel
theorem dX10_odds_176 : decode cX10_odds 176 = .ok (.goto (-67), 3) := by decide +kernel
theorem dX10_odds_179 : decode cX10_odds 179 = .ok (.aload_n 0, 1) := by decide +kernel
theorem dX10_odds_180 : decode cX10_odds 180 = .ok (.getfield 204, 3) := by decide +kernel
theorem dX10_odds_183 : decode cX10_odds 183 = .ok (.sipush 2079, 3) := by decide +kernel
theorem dX10_odds_186 : decode cX10_odds 186 = .ok (.iload_n 3, 1) := by decide +kernel
theorem dX10_odds_187 : decode cX10_odds 187 = .ok (.imul, 1) := by decide +kernel
theorem dX10_odds_188 : decode cX10_odds 188 = .ok (.iload_n 1, 1) := by decide +kernel
theorem dX10_odds_189 : decode cX10_odds 189 = .ok (.iadd, 1) := by decide +kernel
theorem dX10_odds_190 : decode cX10_odds 190 = .ok (.laload, 1) := by decide +kernel
theorem dX10_odds_191 : decode cX10_odds 191 = .ok (.lreturn, 1) := by decide +kernel
theorem dX10_countRows_0 : decode cX10_countRows 0 = .ok (.sipush 6237, 3) := by decide +kernel
theorem dX10_countRows_3 : decode cX10_countRows 3 = .ok (.iload_n 1, 1) := by decide +kernel
theorem dX10_countRows_4 : decode cX10_countRows 4 = .ok (.iadd, 1) := by decide +kernel
theorem dX10_countRows_5 : decode cX10_countRows 5 = .ok (.istore_n 2, 1) := by decide +kernel
theorem dX10_countRows_6 : decode cX10_countRows 6 = .ok (.aload_n 0, 1) := by decide +kernel
theorem dX10_countRows_7 : decode cX10_countRows 7 = .ok (.getfield 204, 3) := by decide +kernel
theorem dX10_countRows_10 : decode cX10_countRows 10 = .ok (.iload_n 2, 1) := by decide +kernel
theorem dX10_countRows_11 : decode cX10_countRows 11 = .ok (.lconst 0, 1) := by decide +kernel
theorem dX10_countRows_12 : decode cX10_countRows 12 = .ok (.lastore, 1) := by decide +kernel
theorem dX10_countRows_13 : decode cX10_countRows 13 = .ok (.aload_n 0, 1) := by decide +kernel
theorem dX10_countRows_14 : decode cX10_countRows 14 = .ok (.getfield 204, 3) := by decide +kernel
theorem dX10_countRows_17 : decode cX10_countRows 17 = .ok (.iload_n 2, 1) := by decide +kernel
theorem dX10_countRows_18 : decode cX10_countRows 18 = .ok (.sipush 2079, 3) := by decide +kernel
theorem dX10_countRows_21 : decode cX10_countRows 21 = .ok (.iadd, 1) := by decide +kernel
theorem dX10_countRows_22 : decode cX10_countRows 22 = .ok (.lconst 0, 1) := by decide +kernel
theorem dX10_countRows_23 : decode cX10_countRows 23 = .ok (.lastore, 1) := by decide +kernel
theorem dX10_countRows_24 : decode cX10_countRows 24 = .ok (.aload_n 0, 1) := by decide +kernel
theorem dX10_countRows_25 : decode cX10_countRows 25 = .ok (.getfield 204, 3) := by decide +kernel
theorem dX10_countRows_28 : decode cX10_countRows 28 = .ok (.iload_n 2, 1) := by decide +kernel
theorem dX10_countRows_29 : decode cX10_countRows 29 = .ok (.sipush 4158, 3) := by decide +kernel
theorem dX10_countRows_32 : decode cX10_countRows 32 = .ok (.iadd, 1) := by decide +kernel
theorem dX10_countRows_33 : decode cX10_countRows 33 = .ok (.lconst 0, 1) := by decide +kernel
theorem dX10_countRows_34 : decode cX10_countRows 34 = .ok (.lastore, 1) := by decide +kernel
theorem dX10_countRows_35 : decode cX10_countRows 35 = .ok (.aload_n 0, 1) := by decide +kernel
theorem dX10_countRows_36 : decode cX10_countRows 36 = .ok (.iload_n 1, 1) := by decide +kernel
theorem dX10_countRows_37 : decode cX10_countRows 37 = .ok (.invokevirtual 476, 3) := by decide +kernel
theorem dX10_countRows_40 : decode cX10_countRows 40 = .ok (.ifCond .ne 4, 3) := by decide +kernel
theorem dX10_countRows_43 : decode cX10_countRows 43 = .ok (.return_, 1) := by decide +kernel
theorem dX10_countRows_44 : decode cX10_countRows 44 = .ok (.aload_n 0, 1) := by decide +kernel
theorem dX10_countRows_45 : decode cX10_countRows 45 = .ok (.iload_n 1, 1) := by decide +kernel
theorem dX10_countRows_46 : decode cX10_countRows 46 = .ok (.invokevirtual 460, 3) := by decide +kernel
theorem dX10_countRows_49 : decode cX10_countRows 49 = .ok (.ifCond .eq 26, 3) := by decide +kernel
theorem dX10_countRows_52 : decode cX10_countRows 52 = .ok (.aload_n 0, 1) := by decide +kernel
theorem dX10_countRows_53 : decode cX10_countRows 53 = .ok (.getfield 204, 3) := by decide +kernel
theorem dX10_countRows_56 : decode cX10_countRows 56 = .ok (.iload_n 2, 1) := by decide +kernel
theorem dX10_countRows_57 : decode cX10_countRows 57 = .ok (.sipush 2079, 3) := by decide +kernel
theorem dX10_countRows_60 : decode cX10_countRows 60 = .ok (.iadd, 1) := by decide +kernel
theorem dX10_countRows_61 : decode cX10_countRows 61 = .ok (.lconst 1, 1) := by decide +kernel
theorem dX10_countRows_62 : decode cX10_countRows 62 = .ok (.lastore, 1) := by decide +kernel
theorem dX10_countRows_63 : decode cX10_countRows 63 = .ok (.aload_n 0, 1) := by decide +kernel
theorem dX10_countRows_64 : decode cX10_countRows 64 = .ok (.getfield 204, 3) := by decide +kernel
theorem dX10_countRows_67 : decode cX10_countRows 67 = .ok (.iload_n 2, 1) := by decide +kernel
theorem dX10_countRows_68 : decode cX10_countRows 68 = .ok (.sipush 4158, 3) := by decide +kernel
theorem dX10_countRows_71 : decode cX10_countRows 71 = .ok (.iadd, 1) := by decide +kernel
theorem dX10_countRows_72 : decode cX10_countRows 72 = .ok (.lconst 1, 1) := by decide +kernel
theorem dX10_countRows_73 : decode cX10_countRows 73 = .ok (.lastore, 1) := by decide +kernel
theorem dX10_countRows_74 : decode cX10_countRows 74 = .ok (.return_, 1) := by decide +kernel
theorem dX10_countRows_75 : decode cX10_countRows 75 = .ok (.aload_n 0, 1) := by decide +kernel
theorem dX10_countRows_76 : decode cX10_countRows 76 = .ok (.getfield 157, 3) := by decide +kernel
theorem dX10_countRows_79 : decode cX10_countRows 79 = .ok (.iload_n 1, 1) := by decide +kernel
theorem dX10_countRows_80 : decode cX10_countRows 80 = .ok (.iaload, 1) := by decide +kernel
theorem dX10_countRows_81 : decode cX10_countRows 81 = .ok (.istore_n 3, 1) := by decide +kernel
theorem dX10_countRows_82 : decode cX10_countRows 82 = .ok (.iload_n 3, 1) := by decide +kernel
theorem dX10_countRows_83 : decode cX10_countRows 83 = .ok (.aload_n 0, 1) := by decide +kernel
theorem dX10_countRows_84 : decode cX10_countRows 84 = .ok (.getfield 160, 3) := by decide +kernel
theorem dX10_countRows_87 : decode cX10_countRows 87 = .ok (.iload_n 1, 1) := by decide +kernel
theorem dX10_countRows_88 : decode cX10_countRows 88 = .ok (.iaload, 1) := by decide +kernel
theorem dX10_countRows_89 : decode cX10_countRows 89 = .ok (.if_icmp .gt 96, 3) := by decide +kernel
theorem dX10_countRows_92 : decode cX10_countRows 92 = .ok (.aload_n 0, 1) := by decide +kernel
theorem dX10_countRows_93 : decode cX10_countRows 93 = .ok (.iload_n 1, 1) := by decide +kernel
theorem dX10_countRows_94 : decode cX10_countRows 94 = .ok (.iload_n 3, 1) := by decide +kernel
theorem dX10_countRows_95 : decode cX10_countRows 95 = .ok (.invokevirtual 564, 3) := by decide +kernel
theorem dX10_countRows_98 : decode cX10_countRows 98 = .ok (.istore 4, 2) := by decide +kernel
theorem dX10_countRows_100 : decode cX10_countRows 100 = .ok (.iload 4, 2) := by decide +kernel
theorem dX10_countRows_102 : decode cX10_countRows 102 = .ok (.bipush (-2), 2) := by decide +kernel
theorem dX10_countRows_104 : decode cX10_countRows 104 = .ok (.if_icmp .ne 30, 3) := by decide +kernel
theorem dX10_countRows_107 : decode cX10_countRows 107 = .ok (.aload_n 0, 1) := by decide +kernel
theorem dX10_countRows_108 : decode cX10_countRows 108 = .ok (.getfield 204, 3) := by decide +kernel
theorem dX10_countRows_111 : decode cX10_countRows 111 = .ok (.iload_n 2, 1) := by decide +kernel
theorem dX10_countRows_112 : decode cX10_countRows 112 = .ok (.dup2, 1) := by decide +kernel
theorem dX10_countRows_113 : decode cX10_countRows 113 = .ok (.laload, 1) := by decide +kernel
theorem dX10_countRows_114 : decode cX10_countRows 114 = .ok (.lconst 1, 1) := by decide +kernel
theorem dX10_countRows_115 : decode cX10_countRows 115 = .ok (.ladd, 1) := by decide +kernel
theorem dX10_countRows_116 : decode cX10_countRows 116 = .ok (.lastore, 1) := by decide +kernel
theorem dX10_countRows_117 : decode cX10_countRows 117 = .ok (.aload_n 0, 1) := by decide +kernel
theorem dX10_countRows_118 : decode cX10_countRows 118 = .ok (.getfield 204, 3) := by decide +kernel
theorem dX10_countRows_121 : decode cX10_countRows 121 = .ok (.iload_n 2, 1) := by decide +kernel
theorem dX10_countRows_122 : decode cX10_countRows 122 = .ok (.sipush 4158, 3) := by decide +kernel
theorem dX10_countRows_125 : decode cX10_countRows 125 = .ok (.iadd, 1) := by decide +kernel
theorem dX10_countRows_126 : decode cX10_countRows 126 = .ok (.dup2, 1) := by decide +kernel
theorem dX10_countRows_127 : decode cX10_countRows 127 = .ok (.laload, 1) := by decide +kernel
theorem dX10_countRows_128 : decode cX10_countRows 128 = .ok (.lconst 1, 1) := by decide +kernel
theorem dX10_countRows_129 : decode cX10_countRows 129 = .ok (.ladd, 1) := by decide +kernel
theorem dX10_countRows_130 : decode cX10_countRows 130 = .ok (.lastore, 1) := by decide +kernel
theorem dX10_countRows_131 : decode cX10_countRows 131 = .ok (.goto 48, 3) := by decide +kernel
theorem dX10_countRows_134 : decode cX10_countRows 134 = .ok (.iconst 0, 1) := by decide +kernel
theorem dX10_countRows_135 : decode cX10_countRows 135 = .ok (.istore 5, 2) := by decide +kernel
theorem dX10_countRows_137 : decode cX10_countRows 137 = .ok (.iload 5, 2) := by decide +kernel
theorem dX10_countRows_139 : decode cX10_countRows 139 = .ok (.iconst 3, 1) := by decide +kernel
theorem dX10_countRows_140 : decode cX10_countRows 140 = .ok (.if_icmp .ge 39, 3) := by decide +kernel
theorem dX10_countRows_143 : decode cX10_countRows 143 = .ok (.aload_n 0, 1) := by decide +kernel
theorem dX10_countRows_144 : decode cX10_countRows 144 = .ok (.getfield 204, 3) := by decide +kernel
theorem dX10_countRows_147 : decode cX10_countRows 147 = .ok (.iload_n 2, 1) := by decide +kernel
theorem dX10_countRows_148 : decode cX10_countRows 148 = .ok (.sipush 2079, 3) := by decide +kernel
theorem dX10_countRows_151 : decode cX10_countRows 151 = .ok (.iload 5, 2) := by decide +kernel
theorem dX10_countRows_153 : decode cX10_countRows 153 = .ok (.imul, 1) := by decide +kernel
theorem dX10_countRows_154 : decode cX10_countRows 154 = .ok (.iadd, 1) := by decide +kernel
theorem dX10_countRows_155 : decode cX10_countRows 155 = .ok (.dup2, 1) := by decide +kernel
theorem dX10_countRows_156 : decode cX10_countRows 156 = .ok (.laload, 1) := by decide +kernel
theorem dX10_countRows_157 : decode cX10_countRows 157 = .ok (.aload_n 0, 1) := by decide +kernel
theorem dX10_countRows_158 : decode cX10_countRows 158 = .ok (.getfield 204, 3) := by decide +kernel
theorem dX10_countRows_161 : decode cX10_countRows 161 = .ok (.sipush 2079, 3) := by decide +kernel
theorem dX10_countRows_164 : decode cX10_countRows 164 = .ok (.iload 5, 2) := by decide +kernel
theorem dX10_countRows_166 : decode cX10_countRows 166 = .ok (.imul, 1) := by decide +kernel
theorem dX10_countRows_167 : decode cX10_countRows 167 = .ok (.iload 4, 2) := by decide +kernel
theorem dX10_countRows_169 : decode cX10_countRows 169 = .ok (.iadd, 1) := by decide +kernel
theorem dX10_countRows_170 : decode cX10_countRows 170 = .ok (.laload, 1) := by decide +kernel
theorem dX10_countRows_171 : decode cX10_countRows 171 = .ok (.ladd, 1) := by decide +kernel
theorem dX10_countRows_172 : decode cX10_countRows 172 = .ok (.lastore, 1) := by decide +kernel
theorem dX10_countRows_173 : decode cX10_countRows 173 = .ok (.iinc 5 1, 3) := by decide +kernel
theorem dX10_countRows_176 : decode cX10_countRows 176 = .ok (.goto (-39), 3) := by decide +kernel
theorem dX10_countRows_179 : decode cX10_countRows 179 = .ok (.iinc 3 1, 3) := by decide +kernel
theorem dX10_countRows_182 : decode cX10_countRows 182 = .ok (.goto (-100), 3) := by decide +kernel
theorem dX10_countRows_185 : decode cX10_countRows 185 = .ok (.return_, 1) := by decide +kernel
theorem dX10_learn_0 : decode cX10_learn 0 = .ok (.aload_n 0, 1) := by decide +kernel
theorem dX10_learn_1 : decode cX10_learn 1 = .ok (.iload_n 1, 1) := by decide +kernel
theorem dX10_learn_2 : decode cX10_learn 2 = .ok (.invokevirtual 476, 3) := by decide +kernel
theorem dX10_learn_5 : decode cX10_learn 5 = .ok (.ifCond .ne 5, 3) := by decide +kernel
theorem dX10_learn_8 : decode cX10_learn 8 = .ok (.iconst (-1), 1) := by decide +kernel
theorem dX10_learn_9 : decode cX10_learn 9 = .ok (.ireturn, 1) := by decide +kernel
theorem dX10_learn_10 : decode cX10_learn 10 = .ok (.aload_n 0, 1) := by decide +kernel
theorem dX10_learn_11 : decode cX10_learn 11 = .ok (.getfield 400, 3) := by decide +kernel
theorem dX10_learn_14 : decode cX10_learn 14 = .ok (.istore_n 2, 1) := by decide +kernel
theorem dX10_learn_15 : decode cX10_learn 15 = .ok (.iconst 1, 1) := by decide +kernel
theorem dX10_learn_16 : decode cX10_learn 16 = .ok (.istore_n 3, 1) := by decide +kernel
theorem dX10_learn_17 : decode cX10_learn 17 = .ok (.iload_n 3, 1) := by decide +kernel
theorem dX10_learn_18 : decode cX10_learn 18 = .ok (.ifCond .eq 153, 3) := by decide +kernel
theorem dX10_learn_21 : decode cX10_learn 21 = .ok (.aload_n 0, 1) := by decide +kernel
theorem dX10_learn_22 : decode cX10_learn 22 = .ok (.getfield 400, 3) := by decide +kernel
theorem dX10_learn_25 : decode cX10_learn 25 = .ok (.bipush 40, 2) := by decide +kernel
theorem dX10_learn_27 : decode cX10_learn 27 = .ok (.if_icmp .ge 144, 3) := by decide +kernel
theorem dX10_learn_30 : decode cX10_learn 30 = .ok (.aload_n 0, 1) := by decide +kernel
theorem dX10_learn_31 : decode cX10_learn 31 = .ok (.invokevirtual 567, 3) := by decide +kernel
theorem dX10_learn_34 : decode cX10_learn 34 = .ok (.iconst (-1), 1) := by decide +kernel
theorem dX10_learn_35 : decode cX10_learn 35 = .ok (.istore 4, 2) := by decide +kernel
theorem dX10_learn_37 : decode cX10_learn 37 = .ok (.iload_n 1, 1) := by decide +kernel
theorem dX10_learn_38 : decode cX10_learn 38 = .ok (.istore 5, 2) := by decide +kernel
theorem dX10_learn_40 : decode cX10_learn 40 = .ok (.aload_n 0, 1) := by decide +kernel
theorem dX10_learn_41 : decode cX10_learn 41 = .ok (.getfield 188, 3) := by decide +kernel
theorem dX10_learn_44 : decode cX10_learn 44 = .ok (.iload_n 1, 1) := by decide +kernel
theorem dX10_learn_45 : decode cX10_learn 45 = .ok (.iaload, 1) := by decide +kernel
theorem dX10_learn_46 : decode cX10_learn 46 = .ok (.istore 6, 2) := by decide +kernel
theorem dX10_learn_48 : decode cX10_learn 48 = .ok (.iconst 0, 1) := by decide +kernel
theorem dX10_learn_49 : decode cX10_learn 49 = .ok (.istore 7, 2) := by decide +kernel
theorem dX10_learn_51 : decode cX10_learn 51 = .ok (.iload 7, 2) := by decide +kernel
theorem dX10_learn_53 : decode cX10_learn 53 = .ok (.iload 6, 2) := by decide +kernel
theorem dX10_learn_55 : decode cX10_learn 55 = .ok (.if_icmp .ge 54, 3) := by decide +kernel
theorem dX10_learn_58 : decode cX10_learn 58 = .ok (.aload_n 0, 1) := by decide +kernel
theorem dX10_learn_59 : decode cX10_learn 59 = .ok (.iload 5, 2) := by decide +kernel
theorem dX10_learn_61 : decode cX10_learn 61 = .ok (.invokevirtual 519, 3) := by decide +kernel
theorem dX10_learn_64 : decode cX10_learn 64 = .ok (.ifCond .eq 16, 3) := by decide +kernel
theorem dX10_learn_67 : decode cX10_learn 67 = .ok (.aload_n 0, 1) := by decide +kernel
theorem dX10_learn_68 : decode cX10_learn 68 = .ok (.iload 5, 2) := by decide +kernel
theorem dX10_learn_70 : decode cX10_learn 70 = .ok (.invokevirtual 552, 3) := by decide +kernel
theorem dX10_learn_73 : decode cX10_learn 73 = .ok (.ifCond .ge 7, 3) := by decide +kernel
theorem dX10_learn_76 : decode cX10_learn 76 = .ok (.iload 5, 2) := by decide +kernel
theorem dX10_learn_78 : decode cX10_learn 78 = .ok (.istore 4, 2) := by decide +kernel
theorem dX10_learn_80 : decode cX10_learn 80 = .ok (.iload 7, 2) := by decide +kernel
theorem dX10_learn_82 : decode cX10_learn 82 = .ok (.iload 6, 2) := by decide +kernel
theorem dX10_learn_84 : decode cX10_learn 84 = .ok (.iconst 1, 1) := by decide +kernel
theorem dX10_learn_85 : decode cX10_learn 85 = .ok (.isub, 1) := by decide +kernel
theorem dX10_learn_86 : decode cX10_learn 86 = .ok (.if_icmp .ge 17, 3) := by decide +kernel
theorem dX10_learn_89 : decode cX10_learn 89 = .ok (.aload_n 0, 1) := by decide +kernel
theorem dX10_learn_90 : decode cX10_learn 90 = .ok (.iload 5, 2) := by decide +kernel
theorem dX10_learn_92 : decode cX10_learn 92 = .ok (.aload_n 0, 1) := by decide +kernel
theorem dX10_learn_93 : decode cX10_learn 93 = .ok (.iload 5, 2) := by decide +kernel
theorem dX10_learn_95 : decode cX10_learn 95 = .ok (.invokevirtual 570, 3) := by decide +kernel
theorem dX10_learn_98 : decode cX10_learn 98 = .ok (.invokevirtual 564, 3) := by decide +kernel
theorem dX10_learn_101 : decode cX10_learn 101 = .ok (.istore 5, 2) := by decide +kernel
theorem dX10_learn_103 : decode cX10_learn 103 = .ok (.iinc 7 1, 3) := by decide +kernel
theorem dX10_learn_106 : decode cX10_learn 106 = .ok (.goto (-55), 3) := by decide +kernel
theorem dX10_learn_109 : decode cX10_learn 109 = .ok (.iload 4, 2) := by decide +kernel
theorem dX10_learn_111 : decode cX10_learn 111 = .ok (.ifCond .lt 7, 3) := by decide +kernel
theorem dX10_learn_114 : decode cX10_learn 114 = .ok (.iconst 1, 1) := by decide +kernel
theorem dX10_learn_115 : decode cX10_learn 115 = .ok (.goto 4, 3) := by decide +kernel
theorem dX10_learn_118 : decode cX10_learn 118 = .ok (.iconst 0, 1) := by decide +kernel
theorem dX10_learn_119 : decode cX10_learn 119 = .ok (.istore_n 3, 1) := by decide +kernel
theorem dX10_learn_120 : decode cX10_learn 120 = .ok (.iload_n 3, 1) := by decide +kernel
theorem dX10_learn_121 : decode cX10_learn 121 = .ok (.ifCond .ne 6, 3) := by decide +kernel
theorem dX10_learn_124 : decode cX10_learn 124 = .ok (.goto (-107), 3) := by decide +kernel
theorem dX10_learn_127 : decode cX10_learn 127 = .ok (.aload_n 0, 1) := by decide +kernel
theorem dX10_learn_128 : decode cX10_learn 128 = .ok (.getfield 133, 3) := by decide +kernel
theorem dX10_learn_131 : decode cX10_learn 131 = .ok (.aload_n 0, 1) := by decide +kernel
theorem dX10_learn_132 : decode cX10_learn 132 = .ok (.getfield 400, 3) := by decide +kernel
theorem dX10_learn_135 : decode cX10_learn 135 = .ok (.iload 4, 2) := by decide +kernel
theorem dX10_learn_137 : decode cX10_learn 137 = .ok (.iastore, 1) := by decide +kernel
theorem dX10_learn_138 : decode cX10_learn 138 = .ok (.aload_n 0, 1) := by decide +kernel
theorem dX10_learn_139 : decode cX10_learn 139 = .ok (.getfield 136, 3) := by decide +kernel
theorem dX10_learn_142 : decode cX10_learn 142 = .ok (.aload_n 0, 1) := by decide +kernel
theorem dX10_learn_143 : decode cX10_learn 143 = .ok (.getfield 400, 3) := by decide +kernel
theorem dX10_learn_146 : decode cX10_learn 146 = .ok (.aload_n 0, 1) := by decide +kernel
theorem dX10_learn_147 : decode cX10_learn 147 = .ok (.iload 4, 2) := by decide +kernel
theorem dX10_learn_149 : decode cX10_learn 149 = .ok (.invokevirtual 525, 3) := by decide +kernel
theorem dX10_learn_152 : decode cX10_learn 152 = .ok (.iastore, 1) := by decide +kernel
theorem dX10_learn_153 : decode cX10_learn 153 = .ok (.aload_n 0, 1) := by decide +kernel
theorem dX10_learn_154 : decode cX10_learn 154 = .ok (.dup, 1) := by decide +kernel
theorem dX10_learn_155 : decode cX10_learn 155 = .ok (.getfield 400, 3) := by decide +kernel
theorem dX10_learn_158 : decode cX10_learn 158 = .ok (.iconst 1, 1) := by decide +kernel
theorem dX10_learn_159 : decode cX10_learn 159 = .ok (.iadd, 1) := by decide +kernel
theorem dX10_learn_160 : decode cX10_learn 160 = .ok (.putfield 400, 3) := by decide +kernel
theorem dX10_learn_163 : decode cX10_learn 163 = .ok (.aload_n 0, 1) := by decide +kernel
theorem dX10_learn_164 : decode cX10_learn 164 = .ok (.iconst 0, 1) := by decide +kernel
theorem dX10_learn_165 : decode cX10_learn 165 = .ok (.putfield 498, 3) := by decide +kernel
theorem dX10_learn_168 : decode cX10_learn 168 = .ok (.goto (-151), 3) := by decide +kernel
theorem dX10_learn_171 : decode cX10_learn 171 = .ok (.aload_n 0, 1) := by decide +kernel
theorem dX10_learn_172 : decode cX10_learn 172 = .ok (.getfield 400, 3) := by decide +kernel
theorem dX10_learn_175 : decode cX10_learn 175 = .ok (.iload_n 2, 1) := by decide +kernel
theorem dX10_learn_176 : decode cX10_learn 176 = .ok (.isub, 1) := by decide +kernel
theorem dX10_learn_177 : decode cX10_learn 177 = .ok (.ireturn, 1) := by decide +kernel
theorem dX10_learned_0 : decode cX10_learned 0 = .ok (.iload_n 1, 1) := by decide +kernel
theorem dX10_learned_1 : decode cX10_learned 1 = .ok (.ifCond .lt 20, 3) := by decide +kernel
theorem dX10_learned_4 : decode cX10_learned 4 = .ok (.iload_n 1, 1) := by decide +kernel
theorem dX10_learned_5 : decode cX10_learned 5 = .ok (.aload_n 0, 1) := by decide +kernel
theorem dX10_learned_6 : decode cX10_learned 6 = .ok (.getfield 400, 3) := by decide +kernel
theorem dX10_learned_9 : decode cX10_learned 9 = .ok (.if_icmp .ge 12, 3) := by decide +kernel
theorem dX10_learned_12 : decode cX10_learned 12 = .ok (.aload_n 0, 1) := by decide +kernel
theorem dX10_learned_13 : decode cX10_learned 13 = .ok (.getfield 133, 3) := by decide +kernel
theorem dX10_learned_16 : decode cX10_learned 16 = .ok (.iload_n 1, 1) := by decide +kernel
theorem dX10_learned_17 : decode cX10_learned 17 = .ok (.iaload, 1) := by decide +kernel
theorem dX10_learned_18 : decode cX10_learned 18 = .ok (.goto 4, 3) := by decide +kernel
theorem dX10_learned_21 : decode cX10_learned 21 = .ok (.iconst (-1), 1) := by decide +kernel
theorem dX10_learned_22 : decode cX10_learned 22 = .ok (.ireturn, 1) := by decide +kernel
theorem dX10_forget_0 : decode cX10_forget 0 = .ok (.aload_n 0, 1) := by decide +kernel
theorem dX10_forget_1 : decode cX10_forget 1 = .ok (.getfield 400, 3) := by decide +kernel
theorem dX10_forget_4 : decode cX10_forget 4 = .ok (.istore_n 1, 1) := by decide +kernel
theorem dX10_forget_5 : decode cX10_forget 5 = .ok (.aload_n 0, 1) := by decide +kernel
theorem dX10_forget_6 : decode cX10_forget 6 = .ok (.iconst 0, 1) := by decide +kernel
theorem dX10_forget_7 : decode cX10_forget 7 = .ok (.putfield 400, 3) := by decide +kernel
theorem dX10_forget_10 : decode cX10_forget 10 = .ok (.aload_n 0, 1) := by decide +kernel
theorem dX10_forget_11 : decode cX10_forget 11 = .ok (.iconst 0, 1) := by decide +kernel
theorem dX10_forget_12 : decode cX10_forget 12 = .ok (.putfield 498, 3) := by decide +kernel
theorem dX10_forget_15 : decode cX10_forget 15 = .ok (.iload_n 1, 1) := by decide +kernel
theorem dX10_forget_16 : decode cX10_forget 16 = .ok (.ireturn, 1) := by decide +kernel
theorem dX10_stand_0 : decode cX10_stand 0 = .ok (.aload_n 0, 1) := by decide +kernel
theorem dX10_stand_1 : decode cX10_stand 1 = .ok (.iload_n 1, 1) := by decide +kernel
theorem dX10_stand_2 : decode cX10_stand 2 = .ok (.invokevirtual 476, 3) := by decide +kernel
theorem dX10_stand_5 : decode cX10_stand 5 = .ok (.ifCond .ne 5, 3) := by decide +kernel
theorem dX10_stand_8 : decode cX10_stand 8 = .ok (.iconst 0, 1) := by decide +kernel
theorem dX10_stand_9 : decode cX10_stand 9 = .ok (.ireturn, 1) := by decide +kernel
theorem dX10_stand_10 : decode cX10_stand 10 = .ok (.aload_n 0, 1) := by decide +kernel
theorem dX10_stand_11 : decode cX10_stand 11 = .ok (.iconst 1, 1) := by decide +kernel
theorem dX10_stand_12 : decode cX10_stand 12 = .ok (.putfield 403, 3) := by decide +kernel
theorem dX10_stand_15 : decode cX10_stand 15 = .ok (.aload_n 0, 1) := by decide +kernel
theorem dX10_stand_16 : decode cX10_stand 16 = .ok (.iconst 0, 1) := by decide +kernel
theorem dX10_stand_17 : decode cX10_stand 17 = .ok (.putfield 407, 3) := by decide +kernel
theorem dX10_stand_20 : decode cX10_stand 20 = .ok (.aload_n 0, 1) := by decide +kernel
theorem dX10_stand_21 : decode cX10_stand 21 = .ok (.getfield 139, 3) := by decide +kernel
theorem dX10_stand_24 : decode cX10_stand 24 = .ok (.iconst 0, 1) := by decide +kernel
theorem dX10_stand_25 : decode cX10_stand 25 = .ok (.iload_n 1, 1) := by decide +kernel
theorem dX10_stand_26 : decode cX10_stand 26 = .ok (.iastore, 1) := by decide +kernel
theorem dX10_stand_27 : decode cX10_stand 27 = .ok (.iconst 1, 1) := by decide +kernel
theorem dX10_stand_28 : decode cX10_stand 28 = .ok (.ireturn, 1) := by decide +kernel
theorem dX10_beat_0 : decode cX10_beat 0 = .ok (.aload_n 0, 1) := by decide +kernel
theorem dX10_beat_1 : decode cX10_beat 1 = .ok (.getfield 403, 3) := by decide +kernel
theorem dX10_beat_4 : decode cX10_beat 4 = .ok (.ifCond .eq 15, 3) := by decide +kernel
theorem dX10_beat_7 : decode cX10_beat 7 = .ok (.aload_n 0, 1) := by decide +kernel
theorem dX10_beat_8 : decode cX10_beat 8 = .ok (.getfield 139, 3) := by decide +kernel
theorem dX10_beat_11 : decode cX10_beat 11 = .ok (.aload_n 0, 1) := by decide +kernel
theorem dX10_beat_12 : decode cX10_beat 12 = .ok (.getfield 407, 3) := by decide +kernel
theorem dX10_beat_15 : decode cX10_beat 15 = .ok (.iaload, 1) := by decide +kernel
theorem dX10_beat_16 : decode cX10_beat 16 = .ok (.goto 5, 3) := by decide +kernel
theorem dX10_beat_19 : decode cX10_beat 19 = .ok (.bipush (-2), 2) := by decide +kernel
theorem dX10_beat_21 : decode cX10_beat 21 = .ok (.istore_n 3, 1) := by decide +kernel
theorem dX10_beat_22 : decode cX10_beat 22 = .ok (.aload_n 0, 1) := by decide +kernel
theorem dX10_beat_23 : decode cX10_beat 23 = .ok (.getfield 403, 3) := by decide +kernel
theorem dX10_beat_26 : decode cX10_beat 26 = .ok (.ifCond .eq 27, 3) := by decide +kernel
theorem dX10_beat_29 : decode cX10_beat 29 = .ok (.iload_n 3, 1) := by decide +kernel
theorem dX10_beat_30 : decode cX10_beat 30 = .ok (.bipush (-2), 2) := by decide +kernel
theorem dX10_beat_32 : decode cX10_beat 32 = .ok (.if_icmp .eq 21, 3) := by decide +kernel
theorem dX10_beat_35 : decode cX10_beat 35 = .ok (.aload_n 0, 1) := by decide +kernel
theorem dX10_beat_36 : decode cX10_beat 36 = .ok (.iload_n 3, 1) := by decide +kernel
theorem dX10_beat_37 : decode cX10_beat 37 = .ok (.invokevirtual 460, 3) := by decide +kernel
theorem dX10_beat_40 : decode cX10_beat 40 = .ok (.ifCond .ne 13, 3) := by decide +kernel
theorem dX10_beat_43 : decode cX10_beat 43 = .ok (.aload_n 0, 1) := by decide +kernel
theorem dX10_beat_44 : decode cX10_beat 44 = .ok (.getfield 407, 3) := by decide +kernel
theorem dX10_beat_47 : decode cX10_beat 47 = .ok (.sipush 200, 3) := by decide +kernel
theorem dX10_beat_50 : decode cX10_beat 50 = .ok (.if_icmp .ne 9, 3) := by decide +kernel
theorem dX10_beat_53 : decode cX10_beat 53 = .ok (.aload_n 0, 1) := by decide +kernel
theorem dX10_beat_54 : decode cX10_beat 54 = .ok (.iconst 1, 1) := by decide +kernel
theorem dX10_beat_55 : decode cX10_beat 55 = .ok (.invokevirtual 578, 3) := by decide +kernel
theorem dX10_beat_58 : decode cX10_beat 58 = .ok (.ireturn, 1) := by decide +kernel
theorem dX10_beat_59 : decode cX10_beat 59 = .ok (.aload_n 0, 1) := by decide +kernel
theorem dX10_beat_60 : decode cX10_beat 60 = .ok (.invokevirtual 516, 3) := by decide +kernel
theorem dX10_beat_63 : decode cX10_beat 63 = .ok (.aload_n 0, 1) := by decide +kernel
theorem dX10_beat_64 : decode cX10_beat 64 = .ok (.iload_n 1, 1) := by decide +kernel
theorem dX10_beat_65 : decode cX10_beat 65 = .ok (.invokevirtual 513, 3) := by decide +kernel
theorem dX10_beat_68 : decode cX10_beat 68 = .ok (.ifCond .eq 37, 3) := by decide +kernel
theorem dX10_beat_71 : decode cX10_beat 71 = .ok (.aload_n 0, 1) := by decide +kernel
theorem dX10_beat_72 : decode cX10_beat 72 = .ok (.getfield 163, 3) := by decide +kernel
theorem dX10_beat_75 : decode cX10_beat 75 = .ok (.bipush 6, 2) := by decide +kernel
theorem dX10_beat_77 : decode cX10_beat 77 = .ok (.iload_n 3, 1) := by decide +kernel
theorem dX10_beat_78 : decode cX10_beat 78 = .ok (.imul, 1) := by decide +kernel
theorem dX10_beat_79 : decode cX10_beat 79 = .ok (.iload_n 1, 1) := by decide +kernel
theorem dX10_beat_80 : decode cX10_beat 80 = .ok (.iadd, 1) := by decide +kernel
theorem dX10_beat_81 : decode cX10_beat 81 = .ok (.baload, 1) := by decide +kernel
theorem dX10_beat_82 : decode cX10_beat 82 = .ok (.ifCond .eq 23, 3) := by decide +kernel
theorem dX10_beat_85 : decode cX10_beat 85 = .ok (.iload_n 2, 1) := by decide +kernel
theorem dX10_beat_86 : decode cX10_beat 86 = .ok (.aload_n 0, 1) := by decide +kernel
theorem dX10_beat_87 : decode cX10_beat 87 = .ok (.getfield 157, 3) := by decide +kernel
theorem dX10_beat_90 : decode cX10_beat 90 = .ok (.iload_n 3, 1) := by decide +kernel
theorem dX10_beat_91 : decode cX10_beat 91 = .ok (.iaload, 1) := by decide +kernel
theorem dX10_beat_92 : decode cX10_beat 92 = .ok (.if_icmp .lt 13, 3) := by decide +kernel
theorem dX10_beat_95 : decode cX10_beat 95 = .ok (.iload_n 2, 1) := by decide +kernel
theorem dX10_beat_96 : decode cX10_beat 96 = .ok (.aload_n 0, 1) := by decide +kernel
theorem dX10_beat_97 : decode cX10_beat 97 = .ok (.getfield 160, 3) := by decide +kernel
theorem dX10_beat_100 : decode cX10_beat 100 = .ok (.iload_n 3, 1) := by decide +kernel
theorem dX10_beat_101 : decode cX10_beat 101 = .ok (.iaload, 1) := by decide +kernel
theorem dX10_beat_102 : decode cX10_beat 102 = .ok (.if_icmp .le 9, 3) := by decide +kernel
theorem dX10_beat_105 : decode cX10_beat 105 = .ok (.aload_n 0, 1) := by decide +kernel
theorem dX10_beat_106 : decode cX10_beat 106 = .ok (.iconst 2, 1) := by decide +kernel
theorem dX10_beat_107 : decode cX10_beat 107 = .ok (.invokevirtual 578, 3) := by decide +kernel
theorem dX10_beat_110 : decode cX10_beat 110 = .ok (.ireturn, 1) := by decide +kernel
theorem dX10_beat_111 : decode cX10_beat 111 = .ok (.aload_n 0, 1) := by decide +kernel
theorem dX10_beat_112 : decode cX10_beat 112 = .ok (.iconst 0, 1) := by decide +kernel
theorem dX10_beat_113 : decode cX10_beat 113 = .ok (.putfield 211, 3) := by decide +kernel
theorem dX10_beat_116 : decode cX10_beat 116 = .ok (.aload_n 0, 1) := by decide +kernel
theorem dX10_beat_117 : decode cX10_beat 117 = .ok (.getfield 142, 3) := by decide +kernel
theorem dX10_beat_120 : decode cX10_beat 120 = .ok (.aload_n 0, 1) := by decide +kernel
theorem dX10_beat_121 : decode cX10_beat 121 = .ok (.getfield 407, 3) := by decide +kernel
theorem dX10_beat_124 : decode cX10_beat 124 = .ok (.iload_n 1, 1) := by decide +kernel
theorem dX10_beat_125 : decode cX10_beat 125 = .ok (.iastore, 1) := by decide +kernel
theorem dX10_beat_126 : decode cX10_beat 126 = .ok (.aload_n 0, 1) := by decide +kernel
theorem dX10_beat_127 : decode cX10_beat 127 = .ok (.getfield 145, 3) := by decide +kernel
theorem dX10_beat_130 : decode cX10_beat 130 = .ok (.aload_n 0, 1) := by decide +kernel
theorem dX10_beat_131 : decode cX10_beat 131 = .ok (.getfield 407, 3) := by decide +kernel
theorem dX10_beat_134 : decode cX10_beat 134 = .ok (.iload_n 2, 1) := by decide +kernel
theorem dX10_beat_135 : decode cX10_beat 135 = .ok (.iastore, 1) := by decide +kernel
theorem dX10_beat_136 : decode cX10_beat 136 = .ok (.aload_n 0, 1) := by decide +kernel
theorem dX10_beat_137 : decode cX10_beat 137 = .ok (.dup, 1) := by decide +kernel
theorem dX10_beat_138 : decode cX10_beat 138 = .ok (.getfield 407, 3) := by decide +kernel
theorem dX10_beat_141 : decode cX10_beat 141 = .ok (.iconst 1, 1) := by decide +kernel
theorem dX10_beat_142 : decode cX10_beat 142 = .ok (.iadd, 1) := by decide +kernel
theorem dX10_beat_143 : decode cX10_beat 143 = .ok (.putfield 407, 3) := by decide +kernel
theorem dX10_beat_146 : decode cX10_beat 146 = .ok (.aload_n 0, 1) := by decide +kernel
theorem dX10_beat_147 : decode cX10_beat 147 = .ok (.getfield 139, 3) := by decide +kernel
theorem dX10_beat_150 : decode cX10_beat 150 = .ok (.aload_n 0, 1) := by decide +kernel
theorem dX10_beat_151 : decode cX10_beat 151 = .ok (.getfield 407, 3) := by decide +kernel
theorem dX10_beat_154 : decode cX10_beat 154 = .ok (.aload_n 0, 1) := by decide +kernel
theorem dX10_beat_155 : decode cX10_beat 155 = .ok (.iload_n 3, 1) := by decide +kernel
theorem dX10_beat_156 : decode cX10_beat 156 = .ok (.iload_n 1, 1) := by decide +kernel
theorem dX10_beat_157 : decode cX10_beat 157 = .ok (.iload_n 2, 1) := by decide +kernel
theorem dX10_beat_158 : decode cX10_beat 158 = .ok (.invokevirtual 507, 3) := by decide +kernel
theorem dX10_beat_161 : decode cX10_beat 161 = .ok (.iastore, 1) := by decide +kernel
theorem dX10_beat_162 : decode cX10_beat 162 = .ok (.aload_n 0, 1) := by decide +kernel
theorem dX10_beat_163 : decode cX10_beat 163 = .ok (.getfield 139, 3) := by decide +kernel
theorem dX10_beat_166 : decode cX10_beat 166 = .ok (.aload_n 0, 1) := by decide +kernel
theorem dX10_beat_167 : decode cX10_beat 167 = .ok (.getfield 407, 3) := by decide +kernel
theorem dX10_beat_170 : decode cX10_beat 170 = .ok (.iaload, 1) := by decide +kernel
theorem dX10_beat_171 : decode cX10_beat 171 = .ok (.ireturn, 1) := by decide +kernel
theorem dX10_undo_0 : decode cX10_undo 0 = .ok (.aload_n 0, 1) := by decide +kernel
theorem dX10_undo_1 : decode cX10_undo 1 = .ok (.getfield 403, 3) := by decide +kernel
theorem dX10_undo_4 : decode cX10_undo 4 = .ok (.ifCond .eq 10, 3) := by decide +kernel
theorem dX10_undo_7 : decode cX10_undo 7 = .ok (.aload_n 0, 1) := by decide +kernel
theorem dX10_undo_8 : decode cX10_undo 8 = .ok (.getfield 407, 3) := by decide +kernel
theorem dX10_undo_11 : decode cX10_undo 11 = .ok (.ifCond .ne 5, 3) := by decide +kernel
theorem dX10_undo_14 : decode cX10_undo 14 = .ok (.iconst 0, 1) := by decide +kernel
theorem dX10_undo_15 : decode cX10_undo 15 = .ok (.ireturn, 1) := by decide +kernel
theorem dX10_undo_16 : decode cX10_undo 16 = .ok (.aload_n 0, 1) := by decide +kernel
theorem dX10_undo_17 : decode cX10_undo 17 = .ok (.dup, 1) := by decide +kernel
theorem dX10_undo_18 : decode cX10_undo 18 = .ok (.getfield 407, 3) := by decide +kernel
theorem dX10_undo_21 : decode cX10_undo 21 = .ok (.iconst 1, 1) := by decide +kernel
theorem dX10_undo_22 : decode cX10_undo 22 = .ok (.isub, 1) := by decide +kernel
theorem dX10_undo_23 : decode cX10_undo 23 = .ok (.putfield 407, 3) := by decide +kernel
theorem dX10_undo_26 : decode cX10_undo 26 = .ok (.iconst 1, 1) := by decide +kernel
theorem dX10_undo_27 : decode cX10_undo 27 = .ok (.ireturn, 1) := by decide +kernel
theorem dX10_walked_0 : decode cX10_walked 0 = .ok (.aload_n 0, 1) := by decide +kernel
theorem dX10_walked_1 : decode cX10_walked 1 = .ok (.getfield 403, 3) := by decide +kernel
theorem dX10_walked_4 : decode cX10_walked 4 = .ok (.ifCond .eq 24, 3) := by decide +kernel
theorem dX10_walked_7 : decode cX10_walked 7 = .ok (.iload_n 1, 1) := by decide +kernel
theorem dX10_walked_8 : decode cX10_walked 8 = .ok (.ifCond .lt 20, 3) := by decide +kernel
theorem dX10_walked_11 : decode cX10_walked 11 = .ok (.iload_n 1, 1) := by decide +kernel
theorem dX10_walked_12 : decode cX10_walked 12 = .ok (.aload_n 0, 1) := by decide +kernel
theorem dX10_walked_13 : decode cX10_walked 13 = .ok (.getfield 407, 3) := by decide +kernel
theorem dX10_walked_16 : decode cX10_walked 16 = .ok (.if_icmp .ge 12, 3) := by decide +kernel
theorem dX10_walked_19 : decode cX10_walked 19 = .ok (.iload_n 2, 1) := by decide +kernel
theorem dX10_walked_20 : decode cX10_walked 20 = .ok (.ifCond .lt 8, 3) := by decide +kernel
theorem dX10_walked_23 : decode cX10_walked 23 = .ok (.iload_n 2, 1) := by decide +kernel
theorem dX10_walked_24 : decode cX10_walked 24 = .ok (.iconst 3, 1) := by decide +kernel
theorem dX10_walked_25 : decode cX10_walked 25 = .ok (.if_icmp .le 6, 3) := by decide +kernel
theorem dX10_walked_28 : decode cX10_walked 28 = .ok (.bipush (-100), 2) := by decide +kernel
theorem dX10_walked_30 : decode cX10_walked 30 = .ok (.ireturn, 1) := by decide +kernel
theorem dX10_walked_31 : decode cX10_walked 31 = .ok (.iload_n 2, 1) := by decide +kernel
theorem dX10_walked_32 : decode cX10_walked 32 = .ok (.ifCond .ne 12, 3) := by decide +kernel
theorem dX10_walked_35 : decode cX10_walked 35 = .ok (.aload_n 0, 1) := by decide +kernel
theorem dX10_walked_36 : decode cX10_walked 36 = .ok (.getfield 139, 3) := by decide +kernel
theorem dX10_walked_39 : decode cX10_walked 39 = .ok (.iload_n 1, 1) := by decide +kernel
theorem dX10_walked_40 : decode cX10_walked 40 = .ok (.iaload, 1) := by decide +kernel
theorem dX10_walked_41 : decode cX10_walked 41 = .ok (.goto 39, 3) := by decide +kernel
theorem dX10_walked_44 : decode cX10_walked 44 = .ok (.iload_n 2, 1) := by decide +kernel
theorem dX10_walked_45 : decode cX10_walked 45 = .ok (.iconst 1, 1) := by decide +kernel
theorem dX10_walked_46 : decode cX10_walked 46 = .ok (.if_icmp .ne 12, 3) := by decide +kernel
theorem dX10_walked_49 : decode cX10_walked 49 = .ok (.aload_n 0, 1) := by decide +kernel
theorem dX10_walked_50 : decode cX10_walked 50 = .ok (.getfield 142, 3) := by decide +kernel
theorem dX10_walked_53 : decode cX10_walked 53 = .ok (.iload_n 1, 1) := by decide +kernel
theorem dX10_walked_54 : decode cX10_walked 54 = .ok (.iaload, 1) := by decide +kernel
theorem dX10_walked_55 : decode cX10_walked 55 = .ok (.goto 25, 3) := by decide +kernel
theorem dX10_walked_58 : decode cX10_walked 58 = .ok (.iload_n 2, 1) := by decide +kernel
theorem dX10_walked_59 : decode cX10_walked 59 = .ok (.iconst 2, 1) := by decide +kernel
theorem dX10_walked_60 : decode cX10_walked 60 = .ok (.if_icmp .ne 12, 3) := by decide +kernel
theorem dX10_walked_63 : decode cX10_walked 63 = .ok (.aload_n 0, 1) := by decide +kernel
theorem dX10_walked_64 : decode cX10_walked 64 = .ok (.getfield 145, 3) := by decide +kernel
theorem dX10_walked_67 : decode cX10_walked 67 = .ok (.iload_n 1, 1) := by decide +kernel
theorem dX10_walked_68 : decode cX10_walked 68 = .ok (.iaload, 1) := by decide +kernel
theorem dX10_walked_69 : decode cX10_walked 69 = .ok (.goto 11, 3) := by decide +kernel
theorem dX10_walked_72 : decode cX10_walked 72 = .ok (.aload_n 0, 1) := by decide +kernel
theorem dX10_walked_73 : decode cX10_walked 73 = .ok (.getfield 139, 3) := by decide +kernel
theorem dX10_walked_76 : decode cX10_walked 76 = .ok (.iload_n 1, 1) := by decide +kernel
theorem dX10_walked_77 : decode cX10_walked 77 = .ok (.iconst 1, 1) := by decide +kernel
theorem dX10_walked_78 : decode cX10_walked 78 = .ok (.iadd, 1) := by decide +kernel
theorem dX10_walked_79 : decode cX10_walked 79 = .ok (.iaload, 1) := by decide +kernel
theorem dX10_walked_80 : decode cX10_walked 80 = .ok (.ireturn, 1) := by decide +kernel
theorem dX10_blame_0 : decode cX10_blame 0 = .ok (.aload_n 0, 1) := by decide +kernel
theorem dX10_blame_1 : decode cX10_blame 1 = .ok (.getfield 403, 3) := by decide +kernel
theorem dX10_blame_4 : decode cX10_blame 4 = .ok (.ifCond .ne 5, 3) := by decide +kernel
theorem dX10_blame_7 : decode cX10_blame 7 = .ok (.iconst (-1), 1) := by decide +kernel
theorem dX10_blame_8 : decode cX10_blame 8 = .ok (.ireturn, 1) := by decide +kernel
theorem dX10_blame_9 : decode cX10_blame 9 = .ok (.aload_n 0, 1) := by decide +kernel
theorem dX10_blame_10 : decode cX10_blame 10 = .ok (.invokevirtual 516, 3) := by decide +kernel
theorem dX10_blame_13 : decode cX10_blame 13 = .ok (.iconst 0, 1) := by decide +kernel
theorem dX10_blame_14 : decode cX10_blame 14 = .ok (.istore_n 1, 1) := by decide +kernel
theorem dX10_blame_15 : decode cX10_blame 15 = .ok (.iload_n 1, 1) := by decide +kernel
theorem dX10_blame_16 : decode cX10_blame 16 = .ok (.aload_n 0, 1) := by decide +kernel
theorem dX10_blame_17 : decode cX10_blame 17 = .ok (.getfield 407, 3) := by decide +kernel
theorem dX10_blame_20 : decode cX10_blame 20 = .ok (.if_icmp .ge 43, 3) := by decide +kernel
theorem dX10_blame_23 : decode cX10_blame 23 = .ok (.aload_n 0, 1) := by decide +kernel
theorem dX10_blame_24 : decode cX10_blame 24 = .ok (.aload_n 0, 1) := by decide +kernel
theorem dX10_blame_25 : decode cX10_blame 25 = .ok (.getfield 139, 3) := by decide +kernel
theorem dX10_blame_28 : decode cX10_blame 28 = .ok (.iload_n 1, 1) := by decide +kernel
theorem dX10_blame_29 : decode cX10_blame 29 = .ok (.iaload, 1) := by decide +kernel
theorem dX10_blame_30 : decode cX10_blame 30 = .ok (.invokevirtual 519, 3) := by decide +kernel
theorem dX10_blame_33 : decode cX10_blame 33 = .ok (.ifCond .eq 24, 3) := by decide +kernel
theorem dX10_blame_36 : decode cX10_blame 36 = .ok (.aload_n 0, 1) := by decide +kernel
theorem dX10_blame_37 : decode cX10_blame 37 = .ok (.aload_n 0, 1) := by decide +kernel
theorem dX10_blame_38 : decode cX10_blame 38 = .ok (.getfield 139, 3) := by decide +kernel
theorem dX10_blame_41 : decode cX10_blame 41 = .ok (.iload_n 1, 1) := by decide +kernel
theorem dX10_blame_42 : decode cX10_blame 42 = .ok (.iaload, 1) := by decide +kernel
theorem dX10_blame_43 : decode cX10_blame 43 = .ok (.aload_n 0, 1) := by decide +kernel
theorem dX10_blame_44 : decode cX10_blame 44 = .ok (.getfield 142, 3) := by decide +kernel
theorem dX10_blame_47 : decode cX10_blame 47 = .ok (.iload_n 1, 1) := by decide +kernel
theorem dX10_blame_48 : decode cX10_blame 48 = .ok (.iaload, 1) := by decide +kernel
theorem dX10_blame_49 : decode cX10_blame 49 = .ok (.invokevirtual 522, 3) := by decide +kernel
theorem dX10_blame_52 : decode cX10_blame 52 = .ok (.ifCond .ne 5, 3) := by decide +kernel
theorem dX10_blame_55 : decode cX10_blame 55 = .ok (.iload_n 1, 1) := by decide +kernel
theorem dX10_blame_56 : decode cX10_blame 56 = .ok (.ireturn, 1) := by decide +kernel
theorem dX10_blame_57 : decode cX10_blame 57 = .ok (.iinc 1 1, 3) := by decide +kernel
theorem dX10_blame_60 : decode cX10_blame 60 = .ok (.goto (-45), 3) := by decide +kernel
theorem dX10_blame_63 : decode cX10_blame 63 = .ok (.bipush (-2), 2) := by decide +kernel
theorem dX10_blame_65 : decode cX10_blame 65 = .ok (.ireturn, 1) := by decide +kernel
theorem dX10_mixed_0 : decode cX10_mixed 0 = .ok (.iload_n 0, 1) := by decide +kernel
theorem dX10_mixed_1 : decode cX10_mixed 1 = .ok (.iload_n 1, 1) := by decide +kernel
theorem dX10_mixed_2 : decode cX10_mixed 2 = .ok (.ixor, 1) := by decide +kernel
theorem dX10_mixed_3 : decode cX10_mixed 3 = .ok (.ldc_w 581, 3) := by decide +kernel
theorem dX10_mixed_6 : decode cX10_mixed 6 = .ok (.imul, 1) := by decide +kernel
theorem dX10_mixed_7 : decode cX10_mixed 7 = .ok (.sipush 12345, 3) := by decide +kernel
theorem dX10_mixed_10 : decode cX10_mixed 10 = .ok (.iadd, 1) := by decide +kernel
theorem dX10_mixed_11 : decode cX10_mixed 11 = .ok (.istore_n 2, 1) := by decide +kernel
theorem dX10_mixed_12 : decode cX10_mixed 12 = .ok (.iload_n 2, 1) := by decide +kernel
theorem dX10_mixed_13 : decode cX10_mixed 13 = .ok (.iload_n 2, 1) := by decide +kernel
theorem dX10_mixed_14 : decode cX10_mixed 14 = .ok (.bipush 15, 2) := by decide +kernel
theorem dX10_mixed_16 : decode cX10_mixed 16 = .ok (.iushr, 1) := by decide +kernel
theorem dX10_mixed_17 : decode cX10_mixed 17 = .ok (.ixor, 1) := by decide +kernel
theorem dX10_mixed_18 : decode cX10_mixed 18 = .ok (.ireturn, 1) := by decide +kernel
theorem dX10_lot_0 : decode cX10_lot 0 = .ok (.iload_n 0, 1) := by decide +kernel
theorem dX10_lot_1 : decode cX10_lot 1 = .ok (.iconst 3, 1) := by decide +kernel
theorem dX10_lot_2 : decode cX10_lot 2 = .ok (.invokestatic 582, 3) := by decide +kernel
theorem dX10_lot_5 : decode cX10_lot 5 = .ok (.iload_n 1, 1) := by decide +kernel
theorem dX10_lot_6 : decode cX10_lot 6 = .ok (.invokestatic 582, 3) := by decide +kernel
theorem dX10_lot_9 : decode cX10_lot 9 = .ok (.iconst 1, 1) := by decide +kernel
theorem dX10_lot_10 : decode cX10_lot 10 = .ok (.iushr, 1) := by decide +kernel
theorem dX10_lot_11 : decode cX10_lot 11 = .ok (.iload_n 2, 1) := by decide +kernel
theorem dX10_lot_12 : decode cX10_lot 12 = .ok (.irem, 1) := by decide +kernel
theorem dX10_lot_13 : decode cX10_lot 13 = .ok (.ireturn, 1) := by decide +kernel
theorem dX10_drilled_0 : decode cX10_drilled 0 = .ok (.iload_n 1, 1) := by decide +kernel
theorem dX10_drilled_1 : decode cX10_drilled 1 = .ok (.istore 4, 2) := by decide +kernel
theorem dX10_drilled_3 : decode cX10_drilled 3 = .ok (.iconst 0, 1) := by decide +kernel
theorem dX10_drilled_4 : decode cX10_drilled 4 = .ok (.istore 5, 2) := by decide +kernel
theorem dX10_drilled_6 : decode cX10_drilled 6 = .ok (.iload 5, 2) := by decide +kernel
theorem dX10_drilled_8 : decode cX10_drilled 8 = .ok (.iload_n 3, 1) := by decide +kernel
theorem dX10_drilled_9 : decode cX10_drilled 9 = .ok (.if_icmp .ge 66, 3) := by decide +kernel
theorem dX10_drilled_12 : decode cX10_drilled 12 = .ok (.aload_n 0, 1) := by decide +kernel
theorem dX10_drilled_13 : decode cX10_drilled 13 = .ok (.iload 4, 2) := by decide +kernel
theorem dX10_drilled_15 : decode cX10_drilled 15 = .ok (.invokevirtual 460, 3) := by decide +kernel
theorem dX10_drilled_18 : decode cX10_drilled 18 = .ok (.ifCond .ne 57, 3) := by decide +kernel
theorem dX10_drilled_21 : decode cX10_drilled 21 = .ok (.aload_n 0, 1) := by decide +kernel
theorem dX10_drilled_22 : decode cX10_drilled 22 = .ok (.iload 4, 2) := by decide +kernel
theorem dX10_drilled_24 : decode cX10_drilled 24 = .ok (.aload_n 0, 1) := by decide +kernel
theorem dX10_drilled_25 : decode cX10_drilled 25 = .ok (.getfield 157, 3) := by decide +kernel
theorem dX10_drilled_28 : decode cX10_drilled 28 = .ok (.iload 4, 2) := by decide +kernel
theorem dX10_drilled_30 : decode cX10_drilled 30 = .ok (.iaload, 1) := by decide +kernel
theorem dX10_drilled_31 : decode cX10_drilled 31 = .ok (.iload_n 2, 1) := by decide +kernel
theorem dX10_drilled_32 : decode cX10_drilled 32 = .ok (.iload 5, 2) := by decide +kernel
theorem dX10_drilled_34 : decode cX10_drilled 34 = .ok (.aload_n 0, 1) := by decide +kernel
theorem dX10_drilled_35 : decode cX10_drilled 35 = .ok (.getfield 160, 3) := by decide +kernel
theorem dX10_drilled_38 : decode cX10_drilled 38 = .ok (.iload 4, 2) := by decide +kernel
theorem dX10_drilled_40 : decode cX10_drilled 40 = .ok (.iaload, 1) := by decide +kernel
theorem dX10_drilled_41 : decode cX10_drilled 41 = .ok (.aload_n 0, 1) := by decide +kernel
theorem dX10_drilled_42 : decode cX10_drilled 42 = .ok (.getfield 157, 3) := by decide +kernel
theorem dX10_drilled_45 : decode cX10_drilled 45 = .ok (.iload 4, 2) := by decide +kernel
theorem dX10_drilled_47 : decode cX10_drilled 47 = .ok (.iaload, 1) := by decide +kernel
theorem dX10_drilled_48 : decode cX10_drilled 48 = .ok (.isub, 1) := by decide +kernel
theorem dX10_drilled_49 : decode cX10_drilled 49 = .ok (.iconst 1, 1) := by decide +kernel
theorem dX10_drilled_50 : decode cX10_drilled 50 = .ok (.iadd, 1) := by decide +kernel
theorem dX10_drilled_51 : decode cX10_drilled 51 = .ok (.invokestatic 585, 3) := by decide +kernel
theorem dX10_drilled_54 : decode cX10_drilled 54 = .ok (.iadd, 1) := by decide +kernel
theorem dX10_drilled_55 : decode cX10_drilled 55 = .ok (.invokevirtual 564, 3) := by decide +kernel
theorem dX10_drilled_58 : decode cX10_drilled 58 = .ok (.istore 4, 2) := by decide +kernel
theorem dX10_drilled_60 : decode cX10_drilled 60 = .ok (.iload 4, 2) := by decide +kernel
theorem dX10_drilled_62 : decode cX10_drilled 62 = .ok (.bipush (-2), 2) := by decide +kernel
theorem dX10_drilled_64 : decode cX10_drilled 64 = .ok (.if_icmp .ne 5, 3) := by decide +kernel
theorem dX10_drilled_67 : decode cX10_drilled 67 = .ok (.iconst 0, 1) := by decide +kernel
theorem dX10_drilled_68 : decode cX10_drilled 68 = .ok (.ireturn, 1) := by decide +kernel
theorem dX10_drilled_69 : decode cX10_drilled 69 = .ok (.iinc 5 1, 3) := by decide +kernel
theorem dX10_drilled_72 : decode cX10_drilled 72 = .ok (.goto (-66), 3) := by decide +kernel
theorem dX10_drilled_75 : decode cX10_drilled 75 = .ok (.aload_n 0, 1) := by decide +kernel
theorem dX10_drilled_76 : decode cX10_drilled 76 = .ok (.iload 4, 2) := by decide +kernel
theorem dX10_drilled_78 : decode cX10_drilled 78 = .ok (.invokevirtual 460, 3) := by decide +kernel
theorem dX10_drilled_81 : decode cX10_drilled 81 = .ok (.ifCond .eq 7, 3) := by decide +kernel
theorem dX10_drilled_84 : decode cX10_drilled 84 = .ok (.iconst 1, 1) := by decide +kernel
theorem dX10_drilled_85 : decode cX10_drilled 85 = .ok (.goto 4, 3) := by decide +kernel
theorem dX10_drilled_88 : decode cX10_drilled 88 = .ok (.iconst 2, 1) := by decide +kernel
theorem dX10_drilled_89 : decode cX10_drilled 89 = .ok (.ireturn, 1) := by decide +kernel
theorem dX10_drill_0 : decode cX10_drill 0 = .ok (.aload_n 0, 1) := by decide +kernel
theorem dX10_drill_1 : decode cX10_drill 1 = .ok (.iload_n 1, 1) := by decide +kernel
theorem dX10_drill_2 : decode cX10_drill 2 = .ok (.invokevirtual 476, 3) := by decide +kernel
theorem dX10_drill_5 : decode cX10_drill 5 = .ok (.ifCond .eq 37, 3) := by decide +kernel
theorem dX10_drill_8 : decode cX10_drill 8 = .ok (.iload_n 3, 1) := by decide +kernel
theorem dX10_drill_9 : decode cX10_drill 9 = .ok (.iconst 1, 1) := by decide +kernel
theorem dX10_drill_10 : decode cX10_drill 10 = .ok (.if_icmp .lt 32, 3) := by decide +kernel
theorem dX10_drill_13 : decode cX10_drill 13 = .ok (.iload_n 3, 1) := by decide +kernel
theorem dX10_drill_14 : decode cX10_drill 14 = .ok (.bipush 100, 2) := by decide +kernel
theorem dX10_drill_16 : decode cX10_drill 16 = .ok (.if_icmp .gt 26, 3) := by decide +kernel
theorem dX10_drill_19 : decode cX10_drill 19 = .ok (.iload 4, 2) := by decide +kernel
theorem dX10_drill_21 : decode cX10_drill 21 = .ok (.ifCond .lt 21, 3) := by decide +kernel
theorem dX10_drill_24 : decode cX10_drill 24 = .ok (.iload 4, 2) := by decide +kernel
theorem dX10_drill_26 : decode cX10_drill 26 = .ok (.bipush 60, 2) := by decide +kernel
theorem dX10_drill_28 : decode cX10_drill 28 = .ok (.if_icmp .gt 14, 3) := by decide +kernel
theorem dX10_drill_31 : decode cX10_drill 31 = .ok (.iload 5, 2) := by decide +kernel
theorem dX10_drill_33 : decode cX10_drill 33 = .ok (.ifCond .lt 9, 3) := by decide +kernel
theorem dX10_drill_36 : decode cX10_drill 36 = .ok (.iload 5, 2) := by decide +kernel
theorem dX10_drill_38 : decode cX10_drill 38 = .ok (.iconst 1, 1) := by decide +kernel
theorem dX10_drill_39 : decode cX10_drill 39 = .ok (.if_icmp .le 5, 3) := by decide +kernel
theorem dX10_drill_42 : decode cX10_drill 42 = .ok (.iconst (-1), 1) := by decide +kernel
theorem dX10_drill_43 : decode cX10_drill 43 = .ok (.ireturn, 1) := by decide +kernel
theorem dX10_drill_44 : decode cX10_drill 44 = .ok (.aload_n 0, 1) := by decide +kernel
theorem dX10_drill_45 : decode cX10_drill 45 = .ok (.invokevirtual 567, 3) := by decide +kernel
theorem dX10_drill_48 : decode cX10_drill 48 = .ok (.iconst 0, 1) := by decide +kernel
theorem dX10_drill_49 : decode cX10_drill 49 = .ok (.istore 6, 2) := by decide +kernel
theorem dX10_drill_51 : decode cX10_drill 51 = .ok (.iconst 0, 1) := by decide +kernel
theorem dX10_drill_52 : decode cX10_drill 52 = .ok (.istore 7, 2) := by decide +kernel
theorem dX10_drill_54 : decode cX10_drill 54 = .ok (.iload 7, 2) := by decide +kernel
theorem dX10_drill_56 : decode cX10_drill 56 = .ok (.iload_n 3, 1) := by decide +kernel
theorem dX10_drill_57 : decode cX10_drill 57 = .ok (.if_icmp .ge 35, 3) := by decide +kernel
theorem dX10_drill_60 : decode cX10_drill 60 = .ok (.iload 6, 2) := by decide +kernel
theorem dX10_drill_62 : decode cX10_drill 62 = .ok (.aload_n 0, 1) := by decide +kernel
theorem dX10_drill_63 : decode cX10_drill 63 = .ok (.iload_n 1, 1) := by decide +kernel
theorem dX10_drill_64 : decode cX10_drill 64 = .ok (.iload_n 2, 1) := by decide +kernel
theorem dX10_drill_65 : decode cX10_drill 65 = .ok (.iload 7, 2) := by decide +kernel
theorem dX10_drill_67 : decode cX10_drill 67 = .ok (.iadd, 1) := by decide +kernel
theorem dX10_drill_68 : decode cX10_drill 68 = .ok (.iload 4, 2) := by decide +kernel
theorem dX10_drill_70 : decode cX10_drill 70 = .ok (.invokevirtual 588, 3) := by decide +kernel
theorem dX10_drill_73 : decode cX10_drill 73 = .ok (.iload 5, 2) := by decide +kernel
theorem dX10_drill_75 : decode cX10_drill 75 = .ok (.if_icmp .ne 7, 3) := by decide +kernel
theorem dX10_drill_78 : decode cX10_drill 78 = .ok (.iconst 1, 1) := by decide +kernel
theorem dX10_drill_79 : decode cX10_drill 79 = .ok (.goto 4, 3) := by decide +kernel
theorem dX10_drill_82 : decode cX10_drill 82 = .ok (.iconst 0, 1) := by decide +kernel
theorem dX10_drill_83 : decode cX10_drill 83 = .ok (.iadd, 1) := by decide +kernel
theorem dX10_drill_84 : decode cX10_drill 84 = .ok (.istore 6, 2) := by decide +kernel
theorem dX10_drill_86 : decode cX10_drill 86 = .ok (.iinc 7 1, 3) := by decide +kernel
theorem dX10_drill_89 : decode cX10_drill 89 = .ok (.goto (-35), 3) := by decide +kernel
theorem dX10_drill_92 : decode cX10_drill 92 = .ok (.iload 6, 2) := by decide +kernel
theorem dX10_drill_94 : decode cX10_drill 94 = .ok (.ireturn, 1) := by decide +kernel
theorem dX10_hold_0 : decode cX10_hold 0 = .ok (.iload_n 1, 1) := by decide +kernel
theorem dX10_hold_1 : decode cX10_hold 1 = .ok (.ifCond .lt 8, 3) := by decide +kernel
theorem dX10_hold_4 : decode cX10_hold 4 = .ok (.iload_n 1, 1) := by decide +kernel
theorem dX10_hold_5 : decode cX10_hold 5 = .ok (.iconst 2, 1) := by decide +kernel
theorem dX10_hold_6 : decode cX10_hold 6 = .ok (.if_icmp .le 5, 3) := by decide +kernel
theorem dX10_hold_9 : decode cX10_hold 9 = .ok (.iconst (-1), 1) := by decide +kernel
theorem dX10_hold_10 : decode cX10_hold 10 = .ok (.ireturn, 1) := by decide +kernel
theorem dX10_hold_11 : decode cX10_hold 11 = .ok (.aload_n 0, 1) := by decide +kernel
theorem dX10_hold_12 : decode cX10_hold 12 = .ok (.invokevirtual 516, 3) := by decide +kernel
theorem dX10_hold_15 : decode cX10_hold 15 = .ok (.iconst 0, 1) := by decide +kernel
theorem dX10_hold_16 : decode cX10_hold 16 = .ok (.istore_n 2, 1) := by decide +kernel
theorem dX10_hold_17 : decode cX10_hold 17 = .ok (.iconst 0, 1) := by decide +kernel
theorem dX10_hold_18 : decode cX10_hold 18 = .ok (.istore_n 3, 1) := by decide +kernel
theorem dX10_hold_19 : decode cX10_hold 19 = .ok (.iload_n 3, 1) := by decide +kernel
theorem dX10_hold_20 : decode cX10_hold 20 = .ok (.sipush 2079, 3) := by decide +kernel
theorem dX10_hold_23 : decode cX10_hold 23 = .ok (.if_icmp .ge 59, 3) := by decide +kernel
theorem dX10_hold_26 : decode cX10_hold 26 = .ok (.aload_n 0, 1) := by decide +kernel
theorem dX10_hold_27 : decode cX10_hold 27 = .ok (.iload_n 3, 1) := by decide +kernel
theorem dX10_hold_28 : decode cX10_hold 28 = .ok (.invokevirtual 476, 3) := by decide +kernel
theorem dX10_hold_31 : decode cX10_hold 31 = .ok (.ifCond .eq 15, 3) := by decide +kernel
theorem dX10_hold_34 : decode cX10_hold 34 = .ok (.aload_n 0, 1) := by decide +kernel
theorem dX10_hold_35 : decode cX10_hold 35 = .ok (.iload_n 3, 1) := by decide +kernel
theorem dX10_hold_36 : decode cX10_hold 36 = .ok (.invokevirtual 519, 3) := by decide +kernel
theorem dX10_hold_39 : decode cX10_hold 39 = .ok (.ifCond .eq 7, 3) := by decide +kernel
theorem dX10_hold_42 : decode cX10_hold 42 = .ok (.iconst 1, 1) := by decide +kernel
theorem dX10_hold_43 : decode cX10_hold 43 = .ok (.goto 4, 3) := by decide +kernel
theorem dX10_hold_46 : decode cX10_hold 46 = .ok (.iconst 0, 1) := by decide +kernel
theorem dX10_hold_47 : decode cX10_hold 47 = .ok (.istore 4, 2) := by decide +kernel
theorem dX10_hold_49 : decode cX10_hold 49 = .ok (.aload_n 0, 1) := by decide +kernel
theorem dX10_hold_50 : decode cX10_hold 50 = .ok (.getfield 148, 3) := by decide +kernel
theorem dX10_hold_53 : decode cX10_hold 53 = .ok (.sipush 2079, 3) := by decide +kernel
theorem dX10_hold_56 : decode cX10_hold 56 = .ok (.iload_n 1, 1) := by decide +kernel
theorem dX10_hold_57 : decode cX10_hold 57 = .ok (.imul, 1) := by decide +kernel
theorem dX10_hold_58 : decode cX10_hold 58 = .ok (.iload_n 3, 1) := by decide +kernel
theorem dX10_hold_59 : decode cX10_hold 59 = .ok (.iadd, 1) := by decide +kernel
theorem dX10_hold_60 : decode cX10_hold 60 = .ok (.iload 4, 2) := by decide +kernel
theorem dX10_hold_62 : decode cX10_hold 62 = .ok (.bastore, 1) := by decide +kernel
theorem dX10_hold_63 : decode cX10_hold 63 = .ok (.iload_n 2, 1) := by decide +kernel
theorem dX10_hold_64 : decode cX10_hold 64 = .ok (.iload 4, 2) := by decide +kernel
theorem dX10_hold_66 : decode cX10_hold 66 = .ok (.ifCond .eq 7, 3) := by decide +kernel
theorem dX10_hold_69 : decode cX10_hold 69 = .ok (.iconst 1, 1) := by decide +kernel
theorem dX10_hold_70 : decode cX10_hold 70 = .ok (.goto 4, 3) := by decide +kernel
theorem dX10_hold_73 : decode cX10_hold 73 = .ok (.iconst 0, 1) := by decide +kernel
theorem dX10_hold_74 : decode cX10_hold 74 = .ok (.iadd, 1) := by decide +kernel
theorem dX10_hold_75 : decode cX10_hold 75 = .ok (.istore_n 2, 1) := by decide +kernel
theorem dX10_hold_76 : decode cX10_hold 76 = .ok (.iinc 3 1, 3) := by decide +kernel
theorem dX10_hold_79 : decode cX10_hold 79 = .ok (.goto (-60), 3) := by decide +kernel
theorem dX10_hold_82 : decode cX10_hold 82 = .ok (.iload_n 2, 1) := by decide +kernel
theorem dX10_hold_83 : decode cX10_hold 83 = .ok (.ireturn, 1) := by decide +kernel
theorem dX10_compare_0 : decode cX10_compare 0 = .ok (.iload_n 1, 1) := by decide +kernel
theorem dX10_compare_1 : decode cX10_compare 1 = .ok (.ifCond .lt 17, 3) := by decide +kernel
theorem dX10_compare_4 : decode cX10_compare 4 = .ok (.iload_n 1, 1) := by decide +kernel
theorem dX10_compare_5 : decode cX10_compare 5 = .ok (.iconst 2, 1) := by decide +kernel
theorem dX10_compare_6 : decode cX10_compare 6 = .ok (.if_icmp .gt 12, 3) := by decide +kernel
theorem dX10_compare_9 : decode cX10_compare 9 = .ok (.iload_n 2, 1) := by decide +kernel
theorem dX10_compare_10 : decode cX10_compare 10 = .ok (.ifCond .lt 8, 3) := by decide +kernel
theorem dX10_compare_13 : decode cX10_compare 13 = .ok (.iload_n 2, 1) := by decide +kernel
theorem dX10_compare_14 : decode cX10_compare 14 = .ok (.iconst 2, 1) := by decide +kernel
theorem dX10_compare_15 : decode cX10_compare 15 = .ok (.if_icmp .le 5, 3) := by decide +kernel
theorem dX10_compare_18 : decode cX10_compare 18 = .ok (.iconst (-1), 1) := by decide +kernel
theorem dX10_compare_19 : decode cX10_compare 19 = .ok (.ireturn, 1) := by decide +kernel
theorem dX10_compare_20 : decode cX10_compare 20 = .ok (.aload_n 0, 1) := by decide +kernel
theorem dX10_compare_21 : decode cX10_compare 21 = .ok (.invokevirtual 516, 3) := by decide +kernel
theorem dX10_compare_24 : decode cX10_compare 24 = .ok (.iconst 0, 1) := by decide +kernel
theorem dX10_compare_25 : decode cX10_compare 25 = .ok (.istore_n 3, 1) := by decide +kernel
theorem dX10_compare_26 : decode cX10_compare 26 = .ok (.iconst 0, 1) := by decide +kernel
theorem dX10_compare_27 : decode cX10_compare 27 = .ok (.istore 4, 2) := by decide +kernel
theorem dX10_compare_29 : decode cX10_compare 29 = .ok (.iload 4, 2) := by decide +kernel
theorem dX10_compare_31 : decode cX10_compare 31 = .ok (.sipush 2079, 3) := by decide +kernel
theorem dX10_compare_34 : decode cX10_compare 34 = .ok (.if_icmp .ge 97, 3) := by decide +kernel
theorem dX10_compare_37 : decode cX10_compare 37 = .ok (.aload_n 0, 1) := by decide +kernel
theorem dX10_compare_38 : decode cX10_compare 38 = .ok (.iload 4, 2) := by decide +kernel
theorem dX10_compare_40 : decode cX10_compare 40 = .ok (.invokevirtual 476, 3) := by decide +kernel
theorem dX10_compare_43 : decode cX10_compare 43 = .ok (.ifCond .eq 16, 3) := by decide +kernel
theorem dX10_compare_46 : decode cX10_compare 46 = .ok (.aload_n 0, 1) := by decide +kernel
theorem dX10_compare_47 : decode cX10_compare 47 = .ok (.iload 4, 2) := by decide +kernel
theorem dX10_compare_49 : decode cX10_compare 49 = .ok (.invokevirtual 519, 3) := by decide +kernel
theorem dX10_compare_52 : decode cX10_compare 52 = .ok (.ifCond .eq 7, 3) := by decide +kernel
theorem dX10_compare_55 : decode cX10_compare 55 = .ok (.iconst 1, 1) := by decide +kernel
theorem dX10_compare_56 : decode cX10_compare 56 = .ok (.goto 4, 3) := by decide +kernel
theorem dX10_compare_59 : decode cX10_compare 59 = .ok (.iconst 0, 1) := by decide +kernel
theorem dX10_compare_60 : decode cX10_compare 60 = .ok (.istore 5, 2) := by decide +kernel
theorem dX10_compare_62 : decode cX10_compare 62 = .ok (.aload_n 0, 1) := by decide +kernel
theorem dX10_compare_63 : decode cX10_compare 63 = .ok (.getfield 148, 3) := by decide +kernel
theorem dX10_compare_66 : decode cX10_compare 66 = .ok (.sipush 2079, 3) := by decide +kernel
theorem dX10_compare_69 : decode cX10_compare 69 = .ok (.iload_n 1, 1) := by decide +kernel
theorem dX10_compare_70 : decode cX10_compare 70 = .ok (.imul, 1) := by decide +kernel
theorem dX10_compare_71 : decode cX10_compare 71 = .ok (.iload 4, 2) := by decide +kernel
theorem dX10_compare_73 : decode cX10_compare 73 = .ok (.iadd, 1) := by decide +kernel
theorem dX10_compare_74 : decode cX10_compare 74 = .ok (.baload, 1) := by decide +kernel
theorem dX10_compare_75 : decode cX10_compare 75 = .ok (.istore 6, 2) := by decide +kernel
theorem dX10_compare_77 : decode cX10_compare 77 = .ok (.iload_n 2, 1) := by decide +kernel
theorem dX10_compare_78 : decode cX10_compare 78 = .ok (.ifCond .ne 16, 3) := by decide +kernel
theorem dX10_compare_81 : decode cX10_compare 81 = .ok (.iload 5, 2) := by decide +kernel
theorem dX10_compare_83 : decode cX10_compare 83 = .ok (.ifCond .eq 42, 3) := by decide +kernel
theorem dX10_compare_86 : decode cX10_compare 86 = .ok (.iload 6, 2) := by decide +kernel
theorem dX10_compare_88 : decode cX10_compare 88 = .ok (.ifCond .eq 37, 3) := by decide +kernel
theorem dX10_compare_91 : decode cX10_compare 91 = .ok (.goto 31, 3) := by decide +kernel
theorem dX10_compare_94 : decode cX10_compare 94 = .ok (.iload_n 2, 1) := by decide +kernel
theorem dX10_compare_95 : decode cX10_compare 95 = .ok (.iconst 1, 1) := by decide +kernel
theorem dX10_compare_96 : decode cX10_compare 96 = .ok (.if_icmp .ne 16, 3) := by decide +kernel
theorem dX10_compare_99 : decode cX10_compare 99 = .ok (.iload 5, 2) := by decide +kernel
theorem dX10_compare_101 : decode cX10_compare 101 = .ok (.ifCond .eq 24, 3) := by decide +kernel
theorem dX10_compare_104 : decode cX10_compare 104 = .ok (.iload 6, 2) := by decide +kernel
theorem dX10_compare_106 : decode cX10_compare 106 = .ok (.ifCond .ne 19, 3) := by decide +kernel
theorem dX10_compare_109 : decode cX10_compare 109 = .ok (.goto 13, 3) := by decide +kernel
theorem dX10_compare_112 : decode cX10_compare 112 = .ok (.iload 5, 2) := by decide +kernel
theorem dX10_compare_114 : decode cX10_compare 114 = .ok (.ifCond .ne 11, 3) := by decide +kernel
theorem dX10_compare_117 : decode cX10_compare 117 = .ok (.iload 6, 2) := by decide +kernel
theorem dX10_compare_119 : decode cX10_compare 119 = .ok (.ifCond .eq 6, 3) := by decide +kernel
theorem dX10_compare_122 : decode cX10_compare 122 = .ok (.iinc 3 1, 3) := by decide +kernel
theorem dX10_compare_125 : decode cX10_compare 125 = .ok (.iinc 4 1, 3) := by decide +kernel
theorem dX10_compare_128 : decode cX10_compare 128 = .ok (.goto (-99), 3) := by decide +kernel
theorem dX10_compare_131 : decode cX10_compare 131 = .ok (.iload_n 3, 1) := by decide +kernel
theorem dX10_compare_132 : decode cX10_compare 132 = .ok (.ireturn, 1) := by decide +kernel
theorem dX10_statesOf_0 : decode cX10_statesOf 0 = .ok (.iconst 0, 1) := by decide +kernel
theorem dX10_statesOf_1 : decode cX10_statesOf 1 = .ok (.istore_n 2, 1) := by decide +kernel
theorem dX10_statesOf_2 : decode cX10_statesOf 2 = .ok (.iconst 0, 1) := by decide +kernel
theorem dX10_statesOf_3 : decode cX10_statesOf 3 = .ok (.istore_n 3, 1) := by decide +kernel
theorem dX10_statesOf_4 : decode cX10_statesOf 4 = .ok (.iload_n 3, 1) := by decide +kernel
theorem dX10_statesOf_5 : decode cX10_statesOf 5 = .ok (.sipush 2079, 3) := by decide +kernel
theorem dX10_statesOf_8 : decode cX10_statesOf 8 = .ok (.if_icmp .ge 37, 3) := by decide +kernel
theorem dX10_statesOf_11 : decode cX10_statesOf 11 = .ok (.iload_n 2, 1) := by decide +kernel
theorem dX10_statesOf_12 : decode cX10_statesOf 12 = .ok (.aload_n 0, 1) := by decide +kernel
theorem dX10_statesOf_13 : decode cX10_statesOf 13 = .ok (.iload_n 3, 1) := by decide +kernel
theorem dX10_statesOf_14 : decode cX10_statesOf 14 = .ok (.invokevirtual 476, 3) := by decide +kernel
theorem dX10_statesOf_17 : decode cX10_statesOf 17 = .ok (.ifCond .eq 19, 3) := by decide +kernel
theorem dX10_statesOf_20 : decode cX10_statesOf 20 = .ok (.iload_n 1, 1) := by decide +kernel
theorem dX10_statesOf_21 : decode cX10_statesOf 21 = .ok (.ifCond .eq 11, 3) := by decide +kernel
theorem dX10_statesOf_24 : decode cX10_statesOf 24 = .ok (.aload_n 0, 1) := by decide +kernel
theorem dX10_statesOf_25 : decode cX10_statesOf 25 = .ok (.iload_n 3, 1) := by decide +kernel
theorem dX10_statesOf_26 : decode cX10_statesOf 26 = .ok (.invokevirtual 519, 3) := by decide +kernel
theorem dX10_statesOf_29 : decode cX10_statesOf 29 = .ok (.ifCond .eq 7, 3) := by decide +kernel
theorem dX10_statesOf_32 : decode cX10_statesOf 32 = .ok (.iconst 1, 1) := by decide +kernel
theorem dX10_statesOf_33 : decode cX10_statesOf 33 = .ok (.goto 4, 3) := by decide +kernel
theorem dX10_statesOf_36 : decode cX10_statesOf 36 = .ok (.iconst 0, 1) := by decide +kernel
theorem dX10_statesOf_37 : decode cX10_statesOf 37 = .ok (.iadd, 1) := by decide +kernel
theorem dX10_statesOf_38 : decode cX10_statesOf 38 = .ok (.istore_n 2, 1) := by decide +kernel
theorem dX10_statesOf_39 : decode cX10_statesOf 39 = .ok (.iinc 3 1, 3) := by decide +kernel
theorem dX10_statesOf_42 : decode cX10_statesOf 42 = .ok (.goto (-38), 3) := by decide +kernel
theorem dX10_statesOf_45 : decode cX10_statesOf 45 = .ok (.iload_n 2, 1) := by decide +kernel
theorem dX10_statesOf_46 : decode cX10_statesOf 46 = .ok (.ireturn, 1) := by decide +kernel
theorem dX10_count_0 : decode cX10_count 0 = .ok (.iload_n 1, 1) := by decide +kernel
theorem dX10_count_1 : decode cX10_count 1 = .ok (.tableswitch 199 0 13 #[71, 81, 91, 101, 106, 116, 126, 131, 136, 141, 157, 162, 168, 178], 71) := by decide +kernel
theorem dX10_count_72 : decode cX10_count 72 = .ok (.aload_n 0, 1) := by decide +kernel
theorem dX10_count_73 : decode cX10_count 73 = .ok (.getfield 30, 3) := by decide +kernel
theorem dX10_count_76 : decode cX10_count 76 = .ok (.aload_n 0, 1) := by decide +kernel
theorem dX10_count_77 : decode cX10_count 77 = .ok (.getfield 388, 3) := by decide +kernel
theorem dX10_count_80 : decode cX10_count 80 = .ok (.iaload, 1) := by decide +kernel
theorem dX10_count_81 : decode cX10_count 81 = .ok (.ireturn, 1) := by decide +kernel
theorem dX10_count_82 : decode cX10_count 82 = .ok (.aload_n 0, 1) := by decide +kernel
theorem dX10_count_83 : decode cX10_count 83 = .ok (.getfield 33, 3) := by decide +kernel
theorem dX10_count_86 : decode cX10_count 86 = .ok (.aload_n 0, 1) := by decide +kernel
theorem dX10_count_87 : decode cX10_count 87 = .ok (.getfield 388, 3) := by decide +kernel
theorem dX10_count_90 : decode cX10_count 90 = .ok (.iaload, 1) := by decide +kernel
theorem dX10_count_91 : decode cX10_count 91 = .ok (.ireturn, 1) := by decide +kernel
theorem dX10_count_92 : decode cX10_count 92 = .ok (.aload_n 0, 1) := by decide +kernel
theorem dX10_count_93 : decode cX10_count 93 = .ok (.getfield 36, 3) := by decide +kernel
theorem dX10_count_96 : decode cX10_count 96 = .ok (.aload_n 0, 1) := by decide +kernel
theorem dX10_count_97 : decode cX10_count 97 = .ok (.getfield 388, 3) := by decide +kernel
theorem dX10_count_100 : decode cX10_count 100 = .ok (.iaload, 1) := by decide +kernel
theorem dX10_count_101 : decode cX10_count 101 = .ok (.ireturn, 1) := by decide +kernel
theorem dX10_count_102 : decode cX10_count 102 = .ok (.aload_n 0, 1) := by decide +kernel
theorem dX10_count_103 : decode cX10_count 103 = .ok (.invokevirtual 482, 3) := by decide +kernel
theorem dX10_count_106 : decode cX10_count 106 = .ok (.ireturn, 1) := by decide +kernel
theorem dX10_count_107 : decode cX10_count 107 = .ok (.aload_n 0, 1) := by decide +kernel
theorem dX10_count_108 : decode cX10_count 108 = .ok (.getfield 63, 3) := by decide +kernel
theorem dX10_count_111 : decode cX10_count 111 = .ok (.aload_n 0, 1) := by decide +kernel
theorem dX10_count_112 : decode cX10_count 112 = .ok (.getfield 388, 3) := by decide +kernel
theorem dX10_count_115 : decode cX10_count 115 = .ok (.iaload, 1) := by decide +kernel
theorem dX10_count_116 : decode cX10_count 116 = .ok (.ireturn, 1) := by decide +kernel
theorem dX10_count_117 : decode cX10_count 117 = .ok (.aload_n 0, 1) := by decide +kernel
theorem dX10_count_118 : decode cX10_count 118 = .ok (.getfield 84, 3) := by decide +kernel
theorem dX10_count_121 : decode cX10_count 121 = .ok (.aload_n 0, 1) := by decide +kernel
theorem dX10_count_122 : decode cX10_count 122 = .ok (.getfield 388, 3) := by decide +kernel
theorem dX10_count_125 : decode cX10_count 125 = .ok (.iaload, 1) := by decide +kernel
theorem dX10_count_126 : decode cX10_count 126 = .ok (.ireturn, 1) := by decide +kernel
theorem dX10_count_127 : decode cX10_count 127 = .ok (.aload_n 0, 1) := by decide +kernel
theorem dX10_count_128 : decode cX10_count 128 = .ok (.getfield 127, 3) := by decide +kernel
theorem dX10_count_131 : decode cX10_count 131 = .ok (.ireturn, 1) := by decide +kernel
theorem dX10_count_132 : decode cX10_count 132 = .ok (.aload_n 0, 1) := by decide +kernel
theorem dX10_count_133 : decode cX10_count 133 = .ok (.getfield 394, 3) := by decide +kernel
theorem dX10_count_136 : decode cX10_count 136 = .ok (.ireturn, 1) := by decide +kernel
theorem dX10_count_137 : decode cX10_count 137 = .ok (.aload_n 0, 1) := by decide +kernel
theorem dX10_count_138 : decode cX10_count 138 = .ok (.getfield 400, 3) := by decide +kernel
theorem dX10_count_141 : decode cX10_count 141 = .ok (.ireturn, 1) := by decide +kernel
theorem dX10_count_142 : decode cX10_count 142 = .ok (.aload_n 0, 1) := by decide +kernel
theorem dX10_count_143 : decode cX10_count 143 = .ok (.getfield 403, 3) := by decide +kernel
theorem dX10_count_146 : decode cX10_count 146 = .ok (.ifCond .eq 10, 3) := by decide +kernel
theorem dX10_count_149 : decode cX10_count 149 = .ok (.aload_n 0, 1) := by decide +kernel
theorem dX10_count_150 : decode cX10_count 150 = .ok (.getfield 407, 3) := by decide +kernel
theorem dX10_count_153 : decode cX10_count 153 = .ok (.goto 4, 3) := by decide +kernel
theorem dX10_count_156 : decode cX10_count 156 = .ok (.iconst (-1), 1) := by decide +kernel
theorem dX10_count_157 : decode cX10_count 157 = .ok (.ireturn, 1) := by decide +kernel
theorem dX10_count_158 : decode cX10_count 158 = .ok (.aload_n 0, 1) := by decide +kernel
theorem dX10_count_159 : decode cX10_count 159 = .ok (.getfield 214, 3) := by decide +kernel
theorem dX10_count_162 : decode cX10_count 162 = .ok (.ireturn, 1) := by decide +kernel
theorem dX10_count_163 : decode cX10_count 163 = .ok (.aload_n 0, 1) := by decide +kernel
theorem dX10_count_164 : decode cX10_count 164 = .ok (.iconst 0, 1) := by decide +kernel
theorem dX10_count_165 : decode cX10_count 165 = .ok (.invokevirtual 591, 3) := by decide +kernel
theorem dX10_count_168 : decode cX10_count 168 = .ok (.ireturn, 1) := by decide +kernel
theorem dX10_count_169 : decode cX10_count 169 = .ok (.aload_n 0, 1) := by decide +kernel
theorem dX10_count_170 : decode cX10_count 170 = .ok (.invokevirtual 516, 3) := by decide +kernel
theorem dX10_count_173 : decode cX10_count 173 = .ok (.aload_n 0, 1) := by decide +kernel
theorem dX10_count_174 : decode cX10_count 174 = .ok (.iconst 1, 1) := by decide +kernel
theorem dX10_count_175 : decode cX10_count 175 = .ok (.invokevirtual 591, 3) := by decide +kernel
theorem dX10_count_178 : decode cX10_count 178 = .ok (.ireturn, 1) := by decide +kernel
theorem dX10_count_179 : decode cX10_count 179 = .ok (.aload_n 0, 1) := by decide +kernel
theorem dX10_count_180 : decode cX10_count 180 = .ok (.getfield 403, 3) := by decide +kernel
theorem dX10_count_183 : decode cX10_count 183 = .ok (.ifCond .eq 15, 3) := by decide +kernel
theorem dX10_count_186 : decode cX10_count 186 = .ok (.aload_n 0, 1) := by decide +kernel
theorem dX10_count_187 : decode cX10_count 187 = .ok (.getfield 139, 3) := by decide +kernel
theorem dX10_count_190 : decode cX10_count 190 = .ok (.aload_n 0, 1) := by decide +kernel
theorem dX10_count_191 : decode cX10_count 191 = .ok (.getfield 407, 3) := by decide +kernel
theorem dX10_count_194 : decode cX10_count 194 = .ok (.iaload, 1) := by decide +kernel
theorem dX10_count_195 : decode cX10_count 195 = .ok (.goto 4, 3) := by decide +kernel
theorem dX10_count_198 : decode cX10_count 198 = .ok (.iconst (-1), 1) := by decide +kernel
theorem dX10_count_199 : decode cX10_count 199 = .ok (.ireturn, 1) := by decide +kernel
theorem dX10_count_200 : decode cX10_count 200 = .ok (.iconst (-1), 1) := by decide +kernel
theorem dX10_count_201 : decode cX10_count 201 = .ok (.ireturn, 1) := by decide +kernel
theorem dJ0_length_8abf5_0 : decode cJ0_length_8abf5 0 = .ok (.aload_n 0, 1) := by decide +kernel
theorem dJ0_length_8abf5_1 : decode cJ0_length_8abf5 1 = .ok (.getfield 9, 3) := by decide +kernel
theorem dJ0_length_8abf5_4 : decode cJ0_length_8abf5 4 = .ok (.arraylength, 1) := by decide +kernel
theorem dJ0_length_8abf5_5 : decode cJ0_length_8abf5 5 = .ok (.aload_n 0, 1) := by decide +kernel
theorem dJ0_length_8abf5_6 : decode cJ0_length_8abf5 6 = .ok (.invokevirtual 335, 3) := by decide +kernel
theorem dJ0_length_8abf5_9 : decode cJ0_length_8abf5 9 = .ok (.ishr, 1) := by decide +kernel
theorem dJ0_length_8abf5_10 : decode cJ0_length_8abf5 10 = .ok (.ireturn, 1) := by decide +kernel
theorem dJ0_charAt_5068e_0 : decode cJ0_charAt_5068e 0 = .ok (.aload_n 0, 1) := by decide +kernel
theorem dJ0_charAt_5068e_1 : decode cJ0_charAt_5068e 1 = .ok (.invokevirtual 492, 3) := by decide +kernel
theorem dJ0_charAt_5068e_4 : decode cJ0_charAt_5068e 4 = .ok (.ifCond .eq 12, 3) := by decide +kernel
theorem dJ0_charAt_5068e_7 : decode cJ0_charAt_5068e 7 = .ok (.aload_n 0, 1) := by decide +kernel
theorem dJ0_charAt_5068e_8 : decode cJ0_charAt_5068e 8 = .ok (.getfield 9, 3) := by decide +kernel
theorem dJ0_charAt_5068e_11 : decode cJ0_charAt_5068e 11 = .ok (.iload_n 1, 1) := by decide +kernel
theorem dJ0_charAt_5068e_12 : decode cJ0_charAt_5068e 12 = .ok (.invokestatic 495, 3) := by decide +kernel
theorem dJ0_charAt_5068e_15 : decode cJ0_charAt_5068e 15 = .ok (.ireturn, 1) := by decide +kernel
theorem dJ0_charAt_5068e_16 : decode cJ0_charAt_5068e 16 = .ok (.aload_n 0, 1) := by decide +kernel
theorem dJ0_charAt_5068e_17 : decode cJ0_charAt_5068e 17 = .ok (.getfield 9, 3) := by decide +kernel
theorem dJ0_charAt_5068e_20 : decode cJ0_charAt_5068e 20 = .ok (.iload_n 1, 1) := by decide +kernel
theorem dJ0_charAt_5068e_21 : decode cJ0_charAt_5068e 21 = .ok (.invokestatic 498, 3) := by decide +kernel
theorem dJ0_charAt_5068e_24 : decode cJ0_charAt_5068e 24 = .ok (.ireturn, 1) := by decide +kernel
theorem dJ0_coder_7d493_0 : decode cJ0_coder_7d493 0 = .ok (.getstatic 38, 3) := by decide +kernel
theorem dJ0_coder_7d493_3 : decode cJ0_coder_7d493 3 = .ok (.ifCond .eq 10, 3) := by decide +kernel
theorem dJ0_coder_7d493_6 : decode cJ0_coder_7d493 6 = .ok (.aload_n 0, 1) := by decide +kernel
theorem dJ0_coder_7d493_7 : decode cJ0_coder_7d493 7 = .ok (.getfield 15, 3) := by decide +kernel
theorem dJ0_coder_7d493_10 : decode cJ0_coder_7d493 10 = .ok (.goto 4, 3) := by decide +kernel
theorem dJ0_coder_7d493_13 : decode cJ0_coder_7d493 13 = .ok (.iconst 1, 1) := by decide +kernel
theorem dJ0_coder_7d493_14 : decode cJ0_coder_7d493 14 = .ok (.ireturn, 1) := by decide +kernel
theorem dJ0_isLatin1_aae02_0 : decode cJ0_isLatin1_aae02 0 = .ok (.getstatic 38, 3) := by decide +kernel
theorem dJ0_isLatin1_aae02_3 : decode cJ0_isLatin1_aae02 3 = .ok (.ifCond .eq 14, 3) := by decide +kernel
theorem dJ0_isLatin1_aae02_6 : decode cJ0_isLatin1_aae02 6 = .ok (.aload_n 0, 1) := by decide +kernel
theorem dJ0_isLatin1_aae02_7 : decode cJ0_isLatin1_aae02 7 = .ok (.getfield 15, 3) := by decide +kernel
theorem dJ0_isLatin1_aae02_10 : decode cJ0_isLatin1_aae02 10 = .ok (.ifCond .ne 7, 3) := by decide +kernel
theorem dJ0_isLatin1_aae02_13 : decode cJ0_isLatin1_aae02 13 = .ok (.iconst 1, 1) := by decide +kernel
theorem dJ0_isLatin1_aae02_14 : decode cJ0_isLatin1_aae02 14 = .ok (.goto 4, 3) := by decide +kernel
theorem dJ0_isLatin1_aae02_17 : decode cJ0_isLatin1_aae02 17 = .ok (.iconst 0, 1) := by decide +kernel
theorem dJ0_isLatin1_aae02_18 : decode cJ0_isLatin1_aae02 18 = .ok (.ireturn, 1) := by decide +kernel
theorem dJ0_checkIndex_df160_0 : decode cJ0_checkIndex_df160 0 = .ok (.iload_n 0, 1) := by decide +kernel
theorem dJ0_checkIndex_df160_1 : decode cJ0_checkIndex_df160 1 = .ok (.iload_n 1, 1) := by decide +kernel
theorem dJ0_checkIndex_df160_2 : decode cJ0_checkIndex_df160 2 = .ok (.getstatic 1053, 3) := by decide +kernel
theorem dJ0_checkIndex_df160_5 : decode cJ0_checkIndex_df160 5 = .ok (.invokestatic 1059, 3) := by decide +kernel
theorem dJ0_checkIndex_df160_8 : decode cJ0_checkIndex_df160 8 = .ok (.pop, 1) := by decide +kernel
theorem dJ0_checkIndex_df160_9 : decode cJ0_checkIndex_df160 9 = .ok (.return_, 1) := by decide +kernel
theorem dJ1_charAt_3b067_0 : decode cJ1_charAt_3b067 0 = .ok (.iload_n 1, 1) := by decide +kernel
theorem dJ1_charAt_3b067_1 : decode cJ1_charAt_3b067 1 = .ok (.aload_n 0, 1) := by decide +kernel
theorem dJ1_charAt_3b067_2 : decode cJ1_charAt_3b067 2 = .ok (.arraylength, 1) := by decide +kernel
theorem dJ1_charAt_3b067_3 : decode cJ1_charAt_3b067 3 = .ok (.invokestatic 9, 3) := by decide +kernel
theorem dJ1_charAt_3b067_6 : decode cJ1_charAt_3b067 6 = .ok (.aload_n 0, 1) := by decide +kernel
theorem dJ1_charAt_3b067_7 : decode cJ1_charAt_3b067 7 = .ok (.iload_n 1, 1) := by decide +kernel
theorem dJ1_charAt_3b067_8 : decode cJ1_charAt_3b067 8 = .ok (.baload, 1) := by decide +kernel
theorem dJ1_charAt_3b067_9 : decode cJ1_charAt_3b067 9 = .ok (.sipush 255, 3) := by decide +kernel
theorem dJ1_charAt_3b067_12 : decode cJ1_charAt_3b067 12 = .ok (.iand, 1) := by decide +kernel
theorem dJ1_charAt_3b067_13 : decode cJ1_charAt_3b067 13 = .ok (.i2c, 1) := by decide +kernel
theorem dJ1_charAt_3b067_14 : decode cJ1_charAt_3b067 14 = .ok (.ireturn, 1) := by decide +kernel
theorem dJ2_getChar_3b067_0 : decode cJ2_getChar_3b067 0 = .ok (.getstatic 44, 3) := by decide +kernel
theorem dJ2_getChar_3b067_3 : decode cJ2_getChar_3b067 3 = .ok (.ifCond .ne 25, 3) := by decide +kernel
theorem dJ2_getChar_3b067_6 : decode cJ2_getChar_3b067 6 = .ok (.iload_n 1, 1) := by decide +kernel
theorem dJ2_getChar_3b067_7 : decode cJ2_getChar_3b067 7 = .ok (.ifCond .lt 11, 3) := by decide +kernel
theorem dJ2_getChar_3b067_10 : decode cJ2_getChar_3b067 10 = .ok (.iload_n 1, 1) := by decide +kernel
theorem dJ2_getChar_3b067_11 : decode cJ2_getChar_3b067 11 = .ok (.aload_n 0, 1) := by decide +kernel
theorem dJ2_getChar_3b067_12 : decode cJ2_getChar_3b067 12 = .ok (.invokestatic 48, 3) := by decide +kernel
theorem dJ2_getChar_3b067_15 : decode cJ2_getChar_3b067 15 = .ok (.if_icmp .lt 13, 3) := by decide +kernel
theorem dJ2_getChar_3b067_18 : decode cJ2_getChar_3b067 18 = .ok (.new 52, 3) := by decide +kernel
theorem dJ2_getChar_3b067_21 : decode cJ2_getChar_3b067 21 = .ok (.dup, 1) := by decide +kernel
theorem dJ2_getChar_3b067_22 : decode cJ2_getChar_3b067 22 = .ok (.ldc 54, 2) := by decide +kernel
theorem dJ2_getChar_3b067_24 : decode cJ2_getChar_3b067 24 = .ok (.invokespecial 56, 3) := by decide +kernel
theorem dJ2_getChar_3b067_27 : decode cJ2_getChar_3b067 27 = .ok (.athrow, 1) := by decide +kernel
theorem dJ2_getChar_3b067_28 : decode cJ2_getChar_3b067 28 = .ok (.iload_n 1, 1) := by decide +kernel
theorem dJ2_getChar_3b067_29 : decode cJ2_getChar_3b067 29 = .ok (.iconst 1, 1) := by decide +kernel
theorem dJ2_getChar_3b067_30 : decode cJ2_getChar_3b067 30 = .ok (.ishl, 1) := by decide +kernel
theorem dJ2_getChar_3b067_31 : decode cJ2_getChar_3b067 31 = .ok (.istore_n 1, 1) := by decide +kernel
theorem dJ2_getChar_3b067_32 : decode cJ2_getChar_3b067 32 = .ok (.aload_n 0, 1) := by decide +kernel
theorem dJ2_getChar_3b067_33 : decode cJ2_getChar_3b067 33 = .ok (.iload_n 1, 1) := by decide +kernel
theorem dJ2_getChar_3b067_34 : decode cJ2_getChar_3b067 34 = .ok (.iinc 1 1, 3) := by decide +kernel
theorem dJ2_getChar_3b067_37 : decode cJ2_getChar_3b067 37 = .ok (.baload, 1) := by decide +kernel
theorem dJ2_getChar_3b067_38 : decode cJ2_getChar_3b067 38 = .ok (.sipush 255, 3) := by decide +kernel
theorem dJ2_getChar_3b067_41 : decode cJ2_getChar_3b067 41 = .ok (.iand, 1) := by decide +kernel
theorem dJ2_getChar_3b067_42 : decode cJ2_getChar_3b067 42 = .ok (.getstatic 59, 3) := by decide +kernel
theorem dJ2_getChar_3b067_45 : decode cJ2_getChar_3b067 45 = .ok (.ishl, 1) := by decide +kernel
theorem dJ2_getChar_3b067_46 : decode cJ2_getChar_3b067 46 = .ok (.aload_n 0, 1) := by decide +kernel
theorem dJ2_getChar_3b067_47 : decode cJ2_getChar_3b067 47 = .ok (.iload_n 1, 1) := by decide +kernel
theorem dJ2_getChar_3b067_48 : decode cJ2_getChar_3b067 48 = .ok (.baload, 1) := by decide +kernel
theorem dJ2_getChar_3b067_49 : decode cJ2_getChar_3b067 49 = .ok (.sipush 255, 3) := by decide +kernel
theorem dJ2_getChar_3b067_52 : decode cJ2_getChar_3b067 52 = .ok (.iand, 1) := by decide +kernel
theorem dJ2_getChar_3b067_53 : decode cJ2_getChar_3b067 53 = .ok (.getstatic 63, 3) := by decide +kernel
theorem dJ2_getChar_3b067_56 : decode cJ2_getChar_3b067 56 = .ok (.ishl, 1) := by decide +kernel
theorem dJ2_getChar_3b067_57 : decode cJ2_getChar_3b067 57 = .ok (.ior, 1) := by decide +kernel
theorem dJ2_getChar_3b067_58 : decode cJ2_getChar_3b067 58 = .ok (.i2c, 1) := by decide +kernel
theorem dJ2_getChar_3b067_59 : decode cJ2_getChar_3b067 59 = .ok (.ireturn, 1) := by decide +kernel
theorem dJ2_length_9d52b_0 : decode cJ2_length_9d52b 0 = .ok (.aload_n 0, 1) := by decide +kernel
theorem dJ2_length_9d52b_1 : decode cJ2_length_9d52b 1 = .ok (.arraylength, 1) := by decide +kernel
theorem dJ2_length_9d52b_2 : decode cJ2_length_9d52b 2 = .ok (.iconst 1, 1) := by decide +kernel
theorem dJ2_length_9d52b_3 : decode cJ2_length_9d52b 3 = .ok (.ishr, 1) := by decide +kernel
theorem dJ2_length_9d52b_4 : decode cJ2_length_9d52b 4 = .ok (.ireturn, 1) := by decide +kernel
theorem dJ2_charAt_3b067_0 : decode cJ2_charAt_3b067 0 = .ok (.iload_n 1, 1) := by decide +kernel
theorem dJ2_charAt_3b067_1 : decode cJ2_charAt_3b067 1 = .ok (.aload_n 0, 1) := by decide +kernel
theorem dJ2_charAt_3b067_2 : decode cJ2_charAt_3b067 2 = .ok (.invokestatic 67, 3) := by decide +kernel
theorem dJ2_charAt_3b067_5 : decode cJ2_charAt_3b067 5 = .ok (.aload_n 0, 1) := by decide +kernel
theorem dJ2_charAt_3b067_6 : decode cJ2_charAt_3b067 6 = .ok (.iload_n 1, 1) := by decide +kernel
theorem dJ2_charAt_3b067_7 : decode cJ2_charAt_3b067 7 = .ok (.invokestatic 71, 3) := by decide +kernel
theorem dJ2_charAt_3b067_10 : decode cJ2_charAt_3b067 10 = .ok (.ireturn, 1) := by decide +kernel
theorem dJ2_checkIndex_2214a_0 : decode cJ2_checkIndex_2214a 0 = .ok (.iload_n 0, 1) := by decide +kernel
theorem dJ2_checkIndex_2214a_1 : decode cJ2_checkIndex_2214a 1 = .ok (.aload_n 1, 1) := by decide +kernel
theorem dJ2_checkIndex_2214a_2 : decode cJ2_checkIndex_2214a 2 = .ok (.invokestatic 48, 3) := by decide +kernel
theorem dJ2_checkIndex_2214a_5 : decode cJ2_checkIndex_2214a 5 = .ok (.invokestatic 414, 3) := by decide +kernel
theorem dJ2_checkIndex_2214a_8 : decode cJ2_checkIndex_2214a 8 = .ok (.return_, 1) := by decide +kernel
theorem dJ7_fill_d0a16_0 : decode cJ7_fill_d0a16 0 = .ok (.iconst 0, 1) := by decide +kernel
theorem dJ7_fill_d0a16_1 : decode cJ7_fill_d0a16 1 = .ok (.istore_n 3, 1) := by decide +kernel
theorem dJ7_fill_d0a16_2 : decode cJ7_fill_d0a16 2 = .ok (.aload_n 0, 1) := by decide +kernel
theorem dJ7_fill_d0a16_3 : decode cJ7_fill_d0a16 3 = .ok (.arraylength, 1) := by decide +kernel
theorem dJ7_fill_d0a16_4 : decode cJ7_fill_d0a16 4 = .ok (.istore 4, 2) := by decide +kernel
theorem dJ7_fill_d0a16_6 : decode cJ7_fill_d0a16 6 = .ok (.iload_n 3, 1) := by decide +kernel
theorem dJ7_fill_d0a16_7 : decode cJ7_fill_d0a16 7 = .ok (.iload 4, 2) := by decide +kernel
theorem dJ7_fill_d0a16_9 : decode cJ7_fill_d0a16 9 = .ok (.if_icmp .ge 13, 3) := by decide +kernel
theorem dJ7_fill_d0a16_12 : decode cJ7_fill_d0a16 12 = .ok (.aload_n 0, 1) := by decide +kernel
theorem dJ7_fill_d0a16_13 : decode cJ7_fill_d0a16 13 = .ok (.iload_n 3, 1) := by decide +kernel
theorem dJ7_fill_d0a16_14 : decode cJ7_fill_d0a16 14 = .ok (.lload_n 1, 1) := by decide +kernel
theorem dJ7_fill_d0a16_15 : decode cJ7_fill_d0a16 15 = .ok (.lastore, 1) := by decide +kernel
theorem dJ7_fill_d0a16_16 : decode cJ7_fill_d0a16 16 = .ok (.iinc 3 1, 3) := by decide +kernel
theorem dJ7_fill_d0a16_19 : decode cJ7_fill_d0a16 19 = .ok (.goto (-13), 3) := by decide +kernel
theorem dJ7_fill_d0a16_22 : decode cJ7_fill_d0a16 22 = .ok (.return_, 1) := by decide +kernel
theorem dJ7_fill_53178_0 : decode cJ7_fill_53178 0 = .ok (.iconst 0, 1) := by decide +kernel
theorem dJ7_fill_53178_1 : decode cJ7_fill_53178 1 = .ok (.istore_n 2, 1) := by decide +kernel
theorem dJ7_fill_53178_2 : decode cJ7_fill_53178 2 = .ok (.aload_n 0, 1) := by decide +kernel
theorem dJ7_fill_53178_3 : decode cJ7_fill_53178 3 = .ok (.arraylength, 1) := by decide +kernel
theorem dJ7_fill_53178_4 : decode cJ7_fill_53178 4 = .ok (.istore_n 3, 1) := by decide +kernel
theorem dJ7_fill_53178_5 : decode cJ7_fill_53178 5 = .ok (.iload_n 2, 1) := by decide +kernel
theorem dJ7_fill_53178_6 : decode cJ7_fill_53178 6 = .ok (.iload_n 3, 1) := by decide +kernel
theorem dJ7_fill_53178_7 : decode cJ7_fill_53178 7 = .ok (.if_icmp .ge 13, 3) := by decide +kernel
theorem dJ7_fill_53178_10 : decode cJ7_fill_53178 10 = .ok (.aload_n 0, 1) := by decide +kernel
theorem dJ7_fill_53178_11 : decode cJ7_fill_53178 11 = .ok (.iload_n 2, 1) := by decide +kernel
theorem dJ7_fill_53178_12 : decode cJ7_fill_53178 12 = .ok (.iload_n 1, 1) := by decide +kernel
theorem dJ7_fill_53178_13 : decode cJ7_fill_53178 13 = .ok (.iastore, 1) := by decide +kernel
theorem dJ7_fill_53178_14 : decode cJ7_fill_53178 14 = .ok (.iinc 2 1, 3) := by decide +kernel
theorem dJ7_fill_53178_17 : decode cJ7_fill_53178 17 = .ok (.goto (-12), 3) := by decide +kernel
theorem dJ7_fill_53178_20 : decode cJ7_fill_53178 20 = .ok (.return_, 1) := by decide +kernel
theorem dJ3_checkIndex_8e157_0 : decode cJ3_checkIndex_8e157 0 = .ok (.iload_n 0, 1) := by decide +kernel
theorem dJ3_checkIndex_8e157_1 : decode cJ3_checkIndex_8e157 1 = .ok (.ifCond .lt 8, 3) := by decide +kernel
theorem dJ3_checkIndex_8e157_4 : decode cJ3_checkIndex_8e157 4 = .ok (.iload_n 0, 1) := by decide +kernel
theorem dJ3_checkIndex_8e157_5 : decode cJ3_checkIndex_8e157 5 = .ok (.iload_n 1, 1) := by decide +kernel
theorem dJ3_checkIndex_8e157_6 : decode cJ3_checkIndex_8e157 6 = .ok (.if_icmp .lt 10, 3) := by decide +kernel
theorem dJ3_checkIndex_8e157_9 : decode cJ3_checkIndex_8e157 9 = .ok (.aload_n 2, 1) := by decide +kernel
