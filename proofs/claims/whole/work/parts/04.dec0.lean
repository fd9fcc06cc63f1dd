theorem dX0_init_0 : decode cX0_init 0 = .ok (.aload_n 0, 1) := by decide +kernel
theorem dX0_init_1 : decode cX0_init 1 = .ok (.invokespecial 3, 3) := by decide +kernel
theorem dX0_init_4 : decode cX0_init 4 = .ok (.aload_n 0, 1) := by decide +kernel
theorem dX0_init_5 : decode cX0_init 5 = .ok (.new 9, 3) := by decide +kernel
theorem dX0_init_8 : decode cX0_init 8 = .ok (.dup, 1) := by decide +kernel
theorem dX0_init_9 : decode cX0_init 9 = .ok (.invokespecial 11, 3) := by decide +kernel
theorem dX0_init_12 : decode cX0_init 12 = .ok (.putfield 12, 3) := by decide +kernel
theorem dX0_init_15 : decode cX0_init 15 = .ok (.aload_n 0, 1) := by decide +kernel
theorem dX0_init_16 : decode cX0_init 16 = .ok (.sipush 2079, 3) := by decide +kernel
theorem dX0_init_19 : decode cX0_init 19 = .ok (.newarray .int, 2) := by decide +kernel
theorem dX0_init_21 : decode cX0_init 21 = .ok (.putfield 18, 3) := by decide +kernel
theorem dX0_init_24 : decode cX0_init 24 = .ok (.aload_n 0, 1) := by decide +kernel
theorem dX0_init_25 : decode cX0_init 25 = .ok (.sipush 2079, 3) := by decide +kernel
theorem dX0_init_28 : decode cX0_init 28 = .ok (.newarray .int, 2) := by decide +kernel
theorem dX0_init_30 : decode cX0_init 30 = .ok (.putfield 22, 3) := by decide +kernel
theorem dX0_init_33 : decode cX0_init 33 = .ok (.aload_n 0, 1) := by decide +kernel
theorem dX0_init_34 : decode cX0_init 34 = .ok (.sipush 2079, 3) := by decide +kernel
theorem dX0_init_37 : decode cX0_init 37 = .ok (.newarray .int, 2) := by decide +kernel
theorem dX0_init_39 : decode cX0_init 39 = .ok (.putfield 25, 3) := by decide +kernel
theorem dX0_init_42 : decode cX0_init 42 = .ok (.aload_n 0, 1) := by decide +kernel
theorem dX0_init_43 : decode cX0_init 43 = .ok (.sipush 2079, 3) := by decide +kernel
theorem dX0_init_46 : decode cX0_init 46 = .ok (.newarray .int, 2) := by decide +kernel
theorem dX0_init_48 : decode cX0_init 48 = .ok (.putfield 28, 3) := by decide +kernel
theorem dX0_init_51 : decode cX0_init 51 = .ok (.aload_n 0, 1) := by decide +kernel
theorem dX0_init_52 : decode cX0_init 52 = .ok (.sipush 2079, 3) := by decide +kernel
theorem dX0_init_55 : decode cX0_init 55 = .ok (.newarray .int, 2) := by decide +kernel
theorem dX0_init_57 : decode cX0_init 57 = .ok (.putfield 31, 3) := by decide +kernel
theorem dX0_init_60 : decode cX0_init 60 = .ok (.aload_n 0, 1) := by decide +kernel
theorem dX0_init_61 : decode cX0_init 61 = .ok (.ldc 34, 2) := by decide +kernel
theorem dX0_init_63 : decode cX0_init 63 = .ok (.newarray .long, 2) := by decide +kernel
theorem dX0_init_65 : decode cX0_init 65 = .ok (.putfield 35, 3) := by decide +kernel
theorem dX0_init_68 : decode cX0_init 68 = .ok (.aload_n 0, 1) := by decide +kernel
theorem dX0_init_69 : decode cX0_init 69 = .ok (.aload_n 1, 1) := by decide +kernel
theorem dX0_init_70 : decode cX0_init 70 = .ok (.putfield 39, 3) := by decide +kernel
theorem dX0_init_73 : decode cX0_init 73 = .ok (.aload_n 0, 1) := by decide +kernel
theorem dX0_init_74 : decode cX0_init 74 = .ok (.iconst 1, 1) := by decide +kernel
theorem dX0_init_75 : decode cX0_init 75 = .ok (.putfield 43, 3) := by decide +kernel
theorem dX0_init_78 : decode cX0_init 78 = .ok (.aload_n 0, 1) := by decide +kernel
theorem dX0_init_79 : decode cX0_init 79 = .ok (.iconst 1, 1) := by decide +kernel
theorem dX0_init_80 : decode cX0_init 80 = .ok (.putfield 47, 3) := by decide +kernel
theorem dX0_init_83 : decode cX0_init 83 = .ok (.return_, 1) := by decide +kernel
theorem dX0_settle_0 : decode cX0_settle 0 = .ok (.aload_n 0, 1) := by decide +kernel
theorem dX0_settle_1 : decode cX0_settle 1 = .ok (.aload_n 1, 1) := by decide +kernel
theorem dX0_settle_2 : decode cX0_settle 2 = .ok (.putfield 39, 3) := by decide +kernel
theorem dX0_settle_5 : decode cX0_settle 5 = .ok (.aload_n 0, 1) := by decide +kernel
theorem dX0_settle_6 : decode cX0_settle 6 = .ok (.iload_n 2, 1) := by decide +kernel
theorem dX0_settle_7 : decode cX0_settle 7 = .ok (.putfield 43, 3) := by decide +kernel
theorem dX0_settle_10 : decode cX0_settle 10 = .ok (.aload_n 0, 1) := by decide +kernel
theorem dX0_settle_11 : decode cX0_settle 11 = .ok (.dup, 1) := by decide +kernel
theorem dX0_settle_12 : decode cX0_settle 12 = .ok (.getfield 47, 3) := by decide +kernel
theorem dX0_settle_15 : decode cX0_settle 15 = .ok (.iconst 1, 1) := by decide +kernel
theorem dX0_settle_16 : decode cX0_settle 16 = .ok (.iadd, 1) := by decide +kernel
theorem dX0_settle_17 : decode cX0_settle 17 = .ok (.putfield 47, 3) := by decide +kernel
theorem dX0_settle_20 : decode cX0_settle 20 = .ok (.return_, 1) := by decide +kernel
theorem dX0_allows_0 : decode cX0_allows 0 = .ok (.iload_n 1, 1) := by decide +kernel
theorem dX0_allows_1 : decode cX0_allows 1 = .ok (.ifCond .lt 10, 3) := by decide +kernel
theorem dX0_allows_4 : decode cX0_allows 4 = .ok (.iload_n 1, 1) := by decide +kernel
theorem dX0_allows_5 : decode cX0_allows 5 = .ok (.sipush 2079, 3) := by decide +kernel
theorem dX0_allows_8 : decode cX0_allows 8 = .ok (.if_icmp .lt 5, 3) := by decide +kernel
theorem dX0_allows_11 : decode cX0_allows 11 = .ok (.iconst 0, 1) := by decide +kernel
theorem dX0_allows_12 : decode cX0_allows 12 = .ok (.ireturn, 1) := by decide +kernel
theorem dX0_allows_13 : decode cX0_allows 13 = .ok (.aload_n 0, 1) := by decide +kernel
theorem dX0_allows_14 : decode cX0_allows 14 = .ok (.iload_n 1, 1) := by decide +kernel
theorem dX0_allows_15 : decode cX0_allows 15 = .ok (.invokevirtual 50, 3) := by decide +kernel
theorem dX0_allows_18 : decode cX0_allows 18 = .ok (.aload_n 0, 1) := by decide +kernel
theorem dX0_allows_19 : decode cX0_allows 19 = .ok (.getfield 22, 3) := by decide +kernel
theorem dX0_allows_22 : decode cX0_allows 22 = .ok (.iload_n 1, 1) := by decide +kernel
theorem dX0_allows_23 : decode cX0_allows 23 = .ok (.iaload, 1) := by decide +kernel
theorem dX0_allows_24 : decode cX0_allows 24 = .ok (.iload_n 2, 1) := by decide +kernel
theorem dX0_allows_25 : decode cX0_allows 25 = .ok (.ishr, 1) := by decide +kernel
theorem dX0_allows_26 : decode cX0_allows 26 = .ok (.iconst 1, 1) := by decide +kernel
theorem dX0_allows_27 : decode cX0_allows 27 = .ok (.iand, 1) := by decide +kernel
theorem dX0_allows_28 : decode cX0_allows 28 = .ok (.iconst 1, 1) := by decide +kernel
theorem dX0_allows_29 : decode cX0_allows 29 = .ok (.if_icmp .ne 7, 3) := by decide +kernel
theorem dX0_allows_32 : decode cX0_allows 32 = .ok (.iconst 1, 1) := by decide +kernel
theorem dX0_allows_33 : decode cX0_allows 33 = .ok (.goto 4, 3) := by decide +kernel
theorem dX0_allows_36 : decode cX0_allows 36 = .ok (.iconst 0, 1) := by decide +kernel
theorem dX0_allows_37 : decode cX0_allows 37 = .ok (.ireturn, 1) := by decide +kernel
theorem dX0_mask_0 : decode cX0_mask 0 = .ok (.iload_n 1, 1) := by decide +kernel
theorem dX0_mask_1 : decode cX0_mask 1 = .ok (.ifCond .lt 10, 3) := by decide +kernel
theorem dX0_mask_4 : decode cX0_mask 4 = .ok (.iload_n 1, 1) := by decide +kernel
theorem dX0_mask_5 : decode cX0_mask 5 = .ok (.sipush 2079, 3) := by decide +kernel
theorem dX0_mask_8 : decode cX0_mask 8 = .ok (.if_icmp .lt 5, 3) := by decide +kernel
theorem dX0_mask_11 : decode cX0_mask 11 = .ok (.iconst 0, 1) := by decide +kernel
theorem dX0_mask_12 : decode cX0_mask 12 = .ok (.ireturn, 1) := by decide +kernel
theorem dX0_mask_13 : decode cX0_mask 13 = .ok (.aload_n 0, 1) := by decide +kernel
theorem dX0_mask_14 : decode cX0_mask 14 = .ok (.iload_n 1, 1) := by decide +kernel
theorem dX0_mask_15 : decode cX0_mask 15 = .ok (.invokevirtual 50, 3) := by decide +kernel
theorem dX0_mask_18 : decode cX0_mask 18 = .ok (.aload_n 0, 1) := by decide +kernel
theorem dX0_mask_19 : decode cX0_mask 19 = .ok (.getfield 22, 3) := by decide +kernel
theorem dX0_mask_22 : decode cX0_mask 22 = .ok (.iload_n 1, 1) := by decide +kernel
theorem dX0_mask_23 : decode cX0_mask 23 = .ok (.iaload, 1) := by decide +kernel
theorem dX0_mask_24 : decode cX0_mask 24 = .ok (.ireturn, 1) := by decide +kernel
theorem dX0_least_0 : decode cX0_least 0 = .ok (.iload_n 1, 1) := by decide +kernel
theorem dX0_least_1 : decode cX0_least 1 = .ok (.ifCond .lt 10, 3) := by decide +kernel
theorem dX0_least_4 : decode cX0_least 4 = .ok (.iload_n 1, 1) := by decide +kernel
theorem dX0_least_5 : decode cX0_least 5 = .ok (.sipush 2079, 3) := by decide +kernel
theorem dX0_least_8 : decode cX0_least 8 = .ok (.if_icmp .lt 5, 3) := by decide +kernel
theorem dX0_least_11 : decode cX0_least 11 = .ok (.iconst 0, 1) := by decide +kernel
theorem dX0_least_12 : decode cX0_least 12 = .ok (.ireturn, 1) := by decide +kernel
theorem dX0_least_13 : decode cX0_least 13 = .ok (.aload_n 0, 1) := by decide +kernel
theorem dX0_least_14 : decode cX0_least 14 = .ok (.iload_n 1, 1) := by decide +kernel
theorem dX0_least_15 : decode cX0_least 15 = .ok (.invokevirtual 50, 3) := by decide +kernel
theorem dX0_least_18 : decode cX0_least 18 = .ok (.aload_n 0, 1) := by decide +kernel
theorem dX0_least_19 : decode cX0_least 19 = .ok (.getfield 25, 3) := by decide +kernel
theorem dX0_least_22 : decode cX0_least 22 = .ok (.iload_n 1, 1) := by decide +kernel
theorem dX0_least_23 : decode cX0_least 23 = .ok (.iaload, 1) := by decide +kernel
theorem dX0_least_24 : decode cX0_least 24 = .ok (.ireturn, 1) := by decide +kernel
theorem dX0_greatest_0 : decode cX0_greatest 0 = .ok (.iload_n 1, 1) := by decide +kernel
theorem dX0_greatest_1 : decode cX0_greatest 1 = .ok (.ifCond .lt 10, 3) := by decide +kernel
theorem dX0_greatest_4 : decode cX0_greatest 4 = .ok (.iload_n 1, 1) := by decide +kernel
theorem dX0_greatest_5 : decode cX0_greatest 5 = .ok (.sipush 2079, 3) := by decide +kernel
theorem dX0_greatest_8 : decode cX0_greatest 8 = .ok (.if_icmp .lt 5, 3) := by decide +kernel
theorem dX0_greatest_11 : decode cX0_greatest 11 = .ok (.iconst 0, 1) := by decide +kernel
theorem dX0_greatest_12 : decode cX0_greatest 12 = .ok (.ireturn, 1) := by decide +kernel
theorem dX0_greatest_13 : decode cX0_greatest 13 = .ok (.aload_n 0, 1) := by decide +kernel
theorem dX0_greatest_14 : decode cX0_greatest 14 = .ok (.iload_n 1, 1) := by decide +kernel
theorem dX0_greatest_15 : decode cX0_greatest 15 = .ok (.invokevirtual 50, 3) := by decide +kernel
theorem dX0_greatest_18 : decode cX0_greatest 18 = .ok (.aload_n 0, 1) := by decide +kernel
theorem dX0_greatest_19 : decode cX0_greatest 19 = .ok (.getfield 28, 3) := by decide +kernel
theorem dX0_greatest_22 : decode cX0_greatest 22 = .ok (.iload_n 1, 1) := by decide +kernel
theorem dX0_greatest_23 : decode cX0_greatest 23 = .ok (.iaload, 1) := by decide +kernel
theorem dX0_greatest_24 : decode cX0_greatest 24 = .ok (.ireturn, 1) := by decide +kernel
theorem dX0_survey_0 : decode cX0_survey 0 = .ok (.aload_n 0, 1) := by decide +kernel
theorem dX0_survey_1 : decode cX0_survey 1 = .ok (.getfield 18, 3) := by decide +kernel
theorem dX0_survey_4 : decode cX0_survey 4 = .ok (.iload_n 1, 1) := by decide +kernel
theorem dX0_survey_5 : decode cX0_survey 5 = .ok (.iaload, 1) := by decide +kernel
theorem dX0_survey_6 : decode cX0_survey 6 = .ok (.aload_n 0, 1) := by decide +kernel
theorem dX0_survey_7 : decode cX0_survey 7 = .ok (.getfield 47, 3) := by decide +kernel
theorem dX0_survey_10 : decode cX0_survey 10 = .ok (.if_icmp .ne 4, 3) := by decide +kernel
theorem dX0_survey_13 : decode cX0_survey 13 = .ok (.return_, 1) := by decide +kernel
theorem dX0_survey_14 : decode cX0_survey 14 = .ok (.aload_n 0, 1) := by decide +kernel
theorem dX0_survey_15 : decode cX0_survey 15 = .ok (.getfield 18, 3) := by decide +kernel
theorem dX0_survey_18 : decode cX0_survey 18 = .ok (.iload_n 1, 1) := by decide +kernel
theorem dX0_survey_19 : decode cX0_survey 19 = .ok (.aload_n 0, 1) := by decide +kernel
theorem dX0_survey_20 : decode cX0_survey 20 = .ok (.getfield 47, 3) := by decide +kernel
theorem dX0_survey_23 : decode cX0_survey 23 = .ok (.iastore, 1) := by decide +kernel
theorem dX0_survey_24 : decode cX0_survey 24 = .ok (.aload_n 0, 1) := by decide +kernel
theorem dX0_survey_25 : decode cX0_survey 25 = .ok (.getfield 31, 3) := by decide +kernel
theorem dX0_survey_28 : decode cX0_survey 28 = .ok (.iload_n 1, 1) := by decide +kernel
theorem dX0_survey_29 : decode cX0_survey 29 = .ok (.bipush (-3), 2) := by decide +kernel
theorem dX0_survey_31 : decode cX0_survey 31 = .ok (.iastore, 1) := by decide +kernel
theorem dX0_survey_32 : decode cX0_survey 32 = .ok (.aload_n 0, 1) := by decide +kernel
theorem dX0_survey_33 : decode cX0_survey 33 = .ok (.getfield 12, 3) := by decide +kernel
theorem dX0_survey_36 : decode cX0_survey 36 = .ok (.iload_n 1, 1) := by decide +kernel
theorem dX0_survey_37 : decode cX0_survey 37 = .ok (.aload_n 0, 1) := by decide +kernel
theorem dX0_survey_38 : decode cX0_survey 38 = .ok (.getfield 43, 3) := by decide +kernel
theorem dX0_survey_41 : decode cX0_survey 41 = .ok (.invokevirtual 54, 3) := by decide +kernel
theorem dX0_survey_44 : decode cX0_survey 44 = .ok (.iload_n 1, 1) := by decide +kernel
theorem dX0_survey_45 : decode cX0_survey 45 = .ok (.invokestatic 58, 3) := by decide +kernel
theorem dX0_survey_48 : decode cX0_survey 48 = .ok (.istore_n 2, 1) := by decide +kernel
theorem dX0_survey_49 : decode cX0_survey 49 = .ok (.aload_n 0, 1) := by decide +kernel
theorem dX0_survey_50 : decode cX0_survey 50 = .ok (.getfield 25, 3) := by decide +kernel
theorem dX0_survey_53 : decode cX0_survey 53 = .ok (.iload_n 1, 1) := by decide +kernel
theorem dX0_survey_54 : decode cX0_survey 54 = .ok (.iconst 0, 1) := by decide +kernel
theorem dX0_survey_55 : decode cX0_survey 55 = .ok (.iastore, 1) := by decide +kernel
theorem dX0_survey_56 : decode cX0_survey 56 = .ok (.aload_n 0, 1) := by decide +kernel
theorem dX0_survey_57 : decode cX0_survey 57 = .ok (.getfield 28, 3) := by decide +kernel
theorem dX0_survey_60 : decode cX0_survey 60 = .ok (.iload_n 1, 1) := by decide +kernel
theorem dX0_survey_61 : decode cX0_survey 61 = .ok (.iconst 0, 1) := by decide +kernel
theorem dX0_survey_62 : decode cX0_survey 62 = .ok (.iastore, 1) := by decide +kernel
theorem dX0_survey_63 : decode cX0_survey 63 = .ok (.iconst 0, 1) := by decide +kernel
theorem dX0_survey_64 : decode cX0_survey 64 = .ok (.istore_n 3, 1) := by decide +kernel
theorem dX0_survey_65 : decode cX0_survey 65 = .ok (.iload_n 3, 1) := by decide +kernel
theorem dX0_survey_66 : decode cX0_survey 66 = .ok (.aload_n 0, 1) := by decide +kernel
theorem dX0_survey_67 : decode cX0_survey 67 = .ok (.getfield 39, 3) := by decide +kernel
theorem dX0_survey_70 : decode cX0_survey 70 = .ok (.getfield 64, 3) := by decide +kernel
theorem dX0_survey_73 : decode cX0_survey 73 = .ok (.iconst 5, 1) := by decide +kernel
theorem dX0_survey_74 : decode cX0_survey 74 = .ok (.imul, 1) := by decide +kernel
theorem dX0_survey_75 : decode cX0_survey 75 = .ok (.if_icmp .ge 83, 3) := by decide +kernel
theorem dX0_survey_78 : decode cX0_survey 78 = .ok (.aload_n 0, 1) := by decide +kernel
theorem dX0_survey_79 : decode cX0_survey 79 = .ok (.getfield 39, 3) := by decide +kernel
theorem dX0_survey_82 : decode cX0_survey 82 = .ok (.getfield 67, 3) := by decide +kernel
theorem dX0_survey_85 : decode cX0_survey 85 = .ok (.astore 4, 2) := by decide +kernel
theorem dX0_survey_87 : decode cX0_survey 87 = .ok (.aload 4, 2) := by decide +kernel
theorem dX0_survey_89 : decode cX0_survey 89 = .ok (.iload_n 3, 1) := by decide +kernel
theorem dX0_survey_90 : decode cX0_survey 90 = .ok (.iaload, 1) := by decide +kernel
theorem dX0_survey_91 : decode cX0_survey 91 = .ok (.iload_n 2, 1) := by decide +kernel
theorem dX0_survey_92 : decode cX0_survey 92 = .ok (.if_icmp .gt 60, 3) := by decide +kernel
theorem dX0_survey_95 : decode cX0_survey 95 = .ok (.iload_n 2, 1) := by decide +kernel
theorem dX0_survey_96 : decode cX0_survey 96 = .ok (.aload 4, 2) := by decide +kernel
theorem dX0_survey_98 : decode cX0_survey 98 = .ok (.iload_n 3, 1) := by decide +kernel
theorem dX0_survey_99 : decode cX0_survey 99 = .ok (.iconst 1, 1) := by decide +kernel
theorem dX0_survey_100 : decode cX0_survey 100 = .ok (.iadd, 1) := by decide +kernel
theorem dX0_survey_101 : decode cX0_survey 101 = .ok (.iaload, 1) := by decide +kernel
theorem dX0_survey_102 : decode cX0_survey 102 = .ok (.if_icmp .gt 50, 3) := by decide +kernel
theorem dX0_survey_105 : decode cX0_survey 105 = .ok (.aload_n 0, 1) := by decide +kernel
theorem dX0_survey_106 : decode cX0_survey 106 = .ok (.getfield 12, 3) := by decide +kernel
theorem dX0_survey_109 : decode cX0_survey 109 = .ok (.aload_n 0, 1) := by decide +kernel
theorem dX0_survey_110 : decode cX0_survey 110 = .ok (.getfield 39, 3) := by decide +kernel
theorem dX0_survey_113 : decode cX0_survey 113 = .ok (.getfield 70, 3) := by decide +kernel
theorem dX0_survey_116 : decode cX0_survey 116 = .ok (.aload 4, 2) := by decide +kernel
theorem dX0_survey_118 : decode cX0_survey 118 = .ok (.iload_n 3, 1) := by decide +kernel
theorem dX0_survey_119 : decode cX0_survey 119 = .ok (.iconst 4, 1) := by decide +kernel
theorem dX0_survey_120 : decode cX0_survey 120 = .ok (.iadd, 1) := by decide +kernel
theorem dX0_survey_121 : decode cX0_survey 121 = .ok (.iaload, 1) := by decide +kernel
theorem dX0_survey_122 : decode cX0_survey 122 = .ok (.invokevirtual 73, 3) := by decide +kernel
theorem dX0_survey_125 : decode cX0_survey 125 = .ok (.ifCond .eq 27, 3) := by decide +kernel
theorem dX0_survey_128 : decode cX0_survey 128 = .ok (.aload_n 0, 1) := by decide +kernel
theorem dX0_survey_129 : decode cX0_survey 129 = .ok (.getfield 25, 3) := by decide +kernel
theorem dX0_survey_132 : decode cX0_survey 132 = .ok (.iload_n 1, 1) := by decide +kernel
theorem dX0_survey_133 : decode cX0_survey 133 = .ok (.aload 4, 2) := by decide +kernel
theorem dX0_survey_135 : decode cX0_survey 135 = .ok (.iload_n 3, 1) := by decide +kernel
theorem dX0_survey_136 : decode cX0_survey 136 = .ok (.iconst 2, 1) := by decide +kernel
theorem dX0_survey_137 : decode cX0_survey 137 = .ok (.iadd, 1) := by decide +kernel
theorem dX0_survey_138 : decode cX0_survey 138 = .ok (.iaload, 1) := by decide +kernel
theorem dX0_survey_139 : decode cX0_survey 139 = .ok (.iastore, 1) := by decide +kernel
theorem dX0_survey_140 : decode cX0_survey 140 = .ok (.aload_n 0, 1) := by decide +kernel
theorem dX0_survey_141 : decode cX0_survey 141 = .ok (.getfield 28, 3) := by decide +kernel
theorem dX0_survey_144 : decode cX0_survey 144 = .ok (.iload_n 1, 1) := by decide +kernel
theorem dX0_survey_145 : decode cX0_survey 145 = .ok (.aload 4, 2) := by decide +kernel
theorem dX0_survey_147 : decode cX0_survey 147 = .ok (.iload_n 3, 1) := by decide +kernel
theorem dX0_survey_148 : decode cX0_survey 148 = .ok (.iconst 3, 1) := by decide +kernel
theorem dX0_survey_149 : decode cX0_survey 149 = .ok (.iadd, 1) := by decide +kernel
theorem dX0_survey_150 : decode cX0_survey 150 = .ok (.iaload, 1) := by decide +kernel
theorem dX0_survey_151 : decode cX0_survey 151 = .ok (.iastore, 1) := by decide +kernel
theorem dX0_survey_152 : decode cX0_survey 152 = .ok (.iinc 3 5, 3) := by decide +kernel
theorem dX0_survey_155 : decode cX0_survey 155 = .ok (.goto (-90), 3) := by decide +kernel
theorem dX0_survey_158 : decode cX0_survey 158 = .ok (.iconst 0, 1) := by decide +kernel
theorem dX0_survey_159 : decode cX0_survey 159 = .ok (.istore_n 3, 1) := by decide +kernel
theorem dX0_survey_160 : decode cX0_survey 160 = .ok (.iconst 0, 1) := by decide +kernel
theorem dX0_survey_161 : decode cX0_survey 161 = .ok (.istore 4, 2) := by decide +kernel
theorem dX0_survey_163 : decode cX0_survey 163 = .ok (.iload 4, 2) := by decide +kernel
theorem dX0_survey_165 : decode cX0_survey 165 = .ok (.aload_n 0, 1) := by decide +kernel
theorem dX0_survey_166 : decode cX0_survey 166 = .ok (.getfield 39, 3) := by decide +kernel
theorem dX0_survey_169 : decode cX0_survey 169 = .ok (.getfield 77, 3) := by decide +kernel
theorem dX0_survey_172 : decode cX0_survey 172 = .ok (.if_icmp .ge 73, 3) := by decide +kernel
theorem dX0_survey_175 : decode cX0_survey 175 = .ok (.aload_n 0, 1) := by decide +kernel
theorem dX0_survey_176 : decode cX0_survey 176 = .ok (.getfield 39, 3) := by decide +kernel
theorem dX0_survey_179 : decode cX0_survey 179 = .ok (.iload_n 1, 1) := by decide +kernel
theorem dX0_survey_180 : decode cX0_survey 180 = .ok (.invokevirtual 80, 3) := by decide +kernel
theorem dX0_survey_183 : decode cX0_survey 183 = .ok (.ifCond .ne 62, 3) := by decide +kernel
theorem dX0_survey_186 : decode cX0_survey 186 = .ok (.aload_n 0, 1) := by decide +kernel
theorem dX0_survey_187 : decode cX0_survey 187 = .ok (.getfield 12, 3) := by decide +kernel
theorem dX0_survey_190 : decode cX0_survey 190 = .ok (.getfield 84, 3) := by decide +kernel
theorem dX0_survey_193 : decode cX0_survey 193 = .ok (.iconst 3, 1) := by decide +kernel
theorem dX0_survey_194 : decode cX0_survey 194 = .ok (.aload_n 0, 1) := by decide +kernel
theorem dX0_survey_195 : decode cX0_survey 195 = .ok (.getfield 39, 3) := by decide +kernel
theorem dX0_survey_198 : decode cX0_survey 198 = .ok (.getfield 87, 3) := by decide +kernel
theorem dX0_survey_201 : decode cX0_survey 201 = .ok (.iload 4, 2) := by decide +kernel
theorem dX0_survey_203 : decode cX0_survey 203 = .ok (.iaload, 1) := by decide +kernel
theorem dX0_survey_204 : decode cX0_survey 204 = .ok (.iastore, 1) := by decide +kernel
theorem dX0_survey_205 : decode cX0_survey 205 = .ok (.aload_n 0, 1) := by decide +kernel
theorem dX0_survey_206 : decode cX0_survey 206 = .ok (.getfield 12, 3) := by decide +kernel
theorem dX0_survey_209 : decode cX0_survey 209 = .ok (.aload_n 0, 1) := by decide +kernel
theorem dX0_survey_210 : decode cX0_survey 210 = .ok (.getfield 39, 3) := by decide +kernel
theorem dX0_survey_213 : decode cX0_survey 213 = .ok (.getfield 70, 3) := by decide +kernel
theorem dX0_survey_216 : decode cX0_survey 216 = .ok (.aload_n 0, 1) := by decide +kernel
theorem dX0_survey_217 : decode cX0_survey 217 = .ok (.getfield 39, 3) := by decide +kernel
theorem dX0_survey_220 : decode cX0_survey 220 = .ok (.getfield 90, 3) := by decide +kernel
theorem dX0_survey_223 : decode cX0_survey 223 = .ok (.iload 4, 2) := by decide +kernel
theorem dX0_survey_225 : decode cX0_survey 225 = .ok (.iaload, 1) := by decide +kernel
theorem dX0_survey_226 : decode cX0_survey 226 = .ok (.invokevirtual 73, 3) := by decide +kernel
theorem dX0_survey_229 : decode cX0_survey 229 = .ok (.ifCond .eq 10, 3) := by decide +kernel
theorem dX0_survey_232 : decode cX0_survey 232 = .ok (.iload_n 3, 1) := by decide +kernel
theorem dX0_survey_233 : decode cX0_survey 233 = .ok (.iconst 1, 1) := by decide +kernel
theorem dX0_survey_234 : decode cX0_survey 234 = .ok (.iload 4, 2) := by decide +kernel
theorem dX0_survey_236 : decode cX0_survey 236 = .ok (.ishl, 1) := by decide +kernel
theorem dX0_survey_237 : decode cX0_survey 237 = .ok (.ior, 1) := by decide +kernel
theorem dX0_survey_238 : decode cX0_survey 238 = .ok (.istore_n 3, 1) := by decide +kernel
theorem dX0_survey_239 : decode cX0_survey 239 = .ok (.iinc 4 1, 3) := by decide +kernel
theorem dX0_survey_242 : decode cX0_survey 242 = .ok (.goto (-79), 3) := by decide +kernel
theorem dX0_survey_245 : decode cX0_survey 245 = .ok (.aload_n 0, 1) := by decide +kernel
theorem dX0_survey_246 : decode cX0_survey 246 = .ok (.getfield 22, 3) := by decide +kernel
theorem dX0_survey_249 : decode cX0_survey 249 = .ok (.iload_n 1, 1) := by decide +kernel
theorem dX0_survey_250 : decode cX0_survey 250 = .ok (.iload_n 3, 1) := by decide +kernel
theorem dX0_survey_251 : decode cX0_survey 251 = .ok (.iastore, 1) := by decide +kernel
theorem dX0_survey_252 : decode cX0_survey 252 = .ok (.return_, 1) := by decide +kernel
theorem dX0_draw_0 : decode cX0_draw 0 = .ok (.iload_n 1, 1) := by decide +kernel
theorem dX0_draw_1 : decode cX0_draw 1 = .ok (.ifCond .lt 10, 3) := by decide +kernel
theorem dX0_draw_4 : decode cX0_draw 4 = .ok (.iload_n 1, 1) := by decide +kernel
theorem dX0_draw_5 : decode cX0_draw 5 = .ok (.sipush 2079, 3) := by decide +kernel
theorem dX0_draw_8 : decode cX0_draw 8 = .ok (.if_icmp .lt 6, 3) := by decide +kernel
theorem dX0_draw_11 : decode cX0_draw 11 = .ok (.bipush (-2), 2) := by decide +kernel
theorem dX0_draw_13 : decode cX0_draw 13 = .ok (.ireturn, 1) := by decide +kernel
theorem dX0_draw_14 : decode cX0_draw 14 = .ok (.aload_n 0, 1) := by decide +kernel
theorem dX0_draw_15 : decode cX0_draw 15 = .ok (.iload_n 1, 1) := by decide +kernel
theorem dX0_draw_16 : decode cX0_draw 16 = .ok (.invokevirtual 50, 3) := by decide +kernel
theorem dX0_draw_19 : decode cX0_draw 19 = .ok (.aload_n 0, 1) := by decide +kernel
theorem dX0_draw_20 : decode cX0_draw 20 = .ok (.getfield 31, 3) := by decide +kernel
theorem dX0_draw_23 : decode cX0_draw 23 = .ok (.iload_n 1, 1) := by decide +kernel
theorem dX0_draw_24 : decode cX0_draw 24 = .ok (.iaload, 1) := by decide +kernel
theorem dX0_draw_25 : decode cX0_draw 25 = .ok (.bipush (-3), 2) := by decide +kernel
theorem dX0_draw_27 : decode cX0_draw 27 = .ok (.if_icmp .ne 107, 3) := by decide +kernel
theorem dX0_draw_30 : decode cX0_draw 30 = .ok (.aload_n 0, 1) := by decide +kernel
theorem dX0_draw_31 : decode cX0_draw 31 = .ok (.getfield 31, 3) := by decide +kernel
theorem dX0_draw_34 : decode cX0_draw 34 = .ok (.iload_n 1, 1) := by decide +kernel
theorem dX0_draw_35 : decode cX0_draw 35 = .ok (.aload_n 0, 1) := by decide +kernel
theorem dX0_draw_36 : decode cX0_draw 36 = .ok (.getfield 22, 3) := by decide +kernel
theorem dX0_draw_39 : decode cX0_draw 39 = .ok (.iload_n 1, 1) := by decide +kernel
theorem dX0_draw_40 : decode cX0_draw 40 = .ok (.iaload, 1) := by decide +kernel
theorem dX0_draw_41 : decode cX0_draw 41 = .ok (.invokestatic 93, 3) := by decide +kernel
theorem dX0_draw_44 : decode cX0_draw 44 = .ok (.iastore, 1) := by decide +kernel
theorem dX0_draw_45 : decode cX0_draw 45 = .ok (.aload_n 0, 1) := by decide +kernel
theorem dX0_draw_46 : decode cX0_draw 46 = .ok (.getfield 12, 3) := by decide +kernel
theorem dX0_draw_49 : decode cX0_draw 49 = .ok (.iload_n 1, 1) := by decide +kernel
theorem dX0_draw_50 : decode cX0_draw 50 = .ok (.aload_n 0, 1) := by decide +kernel
theorem dX0_draw_51 : decode cX0_draw 51 = .ok (.getfield 43, 3) := by decide +kernel
theorem dX0_draw_54 : decode cX0_draw 54 = .ok (.invokevirtual 54, 3) := by decide +kernel
theorem dX0_draw_57 : decode cX0_draw 57 = .ok (.aload_n 0, 1) := by decide +kernel
theorem dX0_draw_58 : decode cX0_draw 58 = .ok (.getfield 39, 3) := by decide +kernel
theorem dX0_draw_61 : decode cX0_draw 61 = .ok (.getfield 96, 3) := by decide +kernel
theorem dX0_draw_64 : decode cX0_draw 64 = .ok (.iconst 1, 1) := by decide +kernel
theorem dX0_draw_65 : decode cX0_draw 65 = .ok (.isub, 1) := by decide +kernel
theorem dX0_draw_66 : decode cX0_draw 66 = .ok (.istore_n 2, 1) := by decide +kernel
theorem dX0_draw_67 : decode cX0_draw 67 = .ok (.iload_n 2, 1) := by decide +kernel
theorem dX0_draw_68 : decode cX0_draw 68 = .ok (.ifCond .lt 66, 3) := by decide +kernel
theorem dX0_draw_71 : decode cX0_draw 71 = .ok (.aload_n 0, 1) := by decide +kernel
theorem dX0_draw_72 : decode cX0_draw 72 = .ok (.getfield 39, 3) := by decide +kernel
theorem dX0_draw_75 : decode cX0_draw 75 = .ok (.getfield 99, 3) := by decide +kernel
theorem dX0_draw_78 : decode cX0_draw 78 = .ok (.iload_n 2, 1) := by decide +kernel
theorem dX0_draw_79 : decode cX0_draw 79 = .ok (.iaload, 1) := by decide +kernel
theorem dX0_draw_80 : decode cX0_draw 80 = .ok (.istore_n 3, 1) := by decide +kernel
theorem dX0_draw_81 : decode cX0_draw 81 = .ok (.aload_n 0, 1) := by decide +kernel
theorem dX0_draw_82 : decode cX0_draw 82 = .ok (.getfield 22, 3) := by decide +kernel
theorem dX0_draw_85 : decode cX0_draw 85 = .ok (.iload_n 1, 1) := by decide +kernel
theorem dX0_draw_86 : decode cX0_draw 86 = .ok (.iaload, 1) := by decide +kernel
theorem dX0_draw_87 : decode cX0_draw 87 = .ok (.iload_n 3, 1) := by decide +kernel
theorem dX0_draw_88 : decode cX0_draw 88 = .ok (.ishr, 1) := by decide +kernel
theorem dX0_draw_89 : decode cX0_draw 89 = .ok (.iconst 1, 1) := by decide +kernel
theorem dX0_draw_90 : decode cX0_draw 90 = .ok (.iand, 1) := by decide +kernel
theorem dX0_draw_91 : decode cX0_draw 91 = .ok (.iconst 1, 1) := by decide +kernel
theorem dX0_draw_92 : decode cX0_draw 92 = .ok (.if_icmp .ne 36, 3) := by decide +kernel
theorem dX0_draw_95 : decode cX0_draw 95 = .ok (.aload_n 0, 1) := by decide +kernel
theorem dX0_draw_96 : decode cX0_draw 96 = .ok (.getfield 12, 3) := by decide +kernel
theorem dX0_draw_99 : decode cX0_draw 99 = .ok (.aload_n 0, 1) := by decide +kernel
theorem dX0_draw_100 : decode cX0_draw 100 = .ok (.getfield 39, 3) := by decide +kernel
theorem dX0_draw_103 : decode cX0_draw 103 = .ok (.getfield 70, 3) := by decide +kernel
theorem dX0_draw_106 : decode cX0_draw 106 = .ok (.aload_n 0, 1) := by decide +kernel
theorem dX0_draw_107 : decode cX0_draw 107 = .ok (.getfield 39, 3) := by decide +kernel
theorem dX0_draw_110 : decode cX0_draw 110 = .ok (.getfield 102, 3) := by decide +kernel
theorem dX0_draw_113 : decode cX0_draw 113 = .ok (.iload_n 2, 1) := by decide +kernel
theorem dX0_draw_114 : decode cX0_draw 114 = .ok (.iaload, 1) := by decide +kernel
theorem dX0_draw_115 : decode cX0_draw 115 = .ok (.invokevirtual 73, 3) := by decide +kernel
theorem dX0_draw_118 : decode cX0_draw 118 = .ok (.ifCond .eq 10, 3) := by decide +kernel
theorem dX0_draw_121 : decode cX0_draw 121 = .ok (.aload_n 0, 1) := by decide +kernel
theorem dX0_draw_122 : decode cX0_draw 122 = .ok (.getfield 31, 3) := by decide +kernel
theorem dX0_draw_125 : decode cX0_draw 125 = .ok (.iload_n 1, 1) := by decide +kernel
theorem dX0_draw_126 : decode cX0_draw 126 = .ok (.iload_n 3, 1) := by decide +kernel
theorem dX0_draw_127 : decode cX0_draw 127 = .ok (.iastore, 1) := by decide +kernel
theorem dX0_draw_128 : decode cX0_draw 128 = .ok (.iinc 2 (-1), 3) := by decide +kernel
theorem dX0_draw_131 : decode cX0_draw 131 = .ok (.goto (-64), 3) := by decide +kernel
theorem dX0_draw_134 : decode cX0_draw 134 = .ok (.aload_n 0, 1) := by decide +kernel
theorem dX0_draw_135 : decode cX0_draw 135 = .ok (.getfield 31, 3) := by decide +kernel
theorem dX0_draw_138 : decode cX0_draw 138 = .ok (.iload_n 1, 1) := by decide +kernel
theorem dX0_draw_139 : decode cX0_draw 139 = .ok (.iaload, 1) := by decide +kernel
theorem dX0_draw_140 : decode cX0_draw 140 = .ok (.ireturn, 1) := by decide +kernel
theorem dX0_firstOf_0 : decode cX0_firstOf 0 = .ok (.iconst 0, 1) := by decide +kernel
theorem dX0_firstOf_1 : decode cX0_firstOf 1 = .ok (.istore_n 1, 1) := by decide +kernel
theorem dX0_firstOf_2 : decode cX0_firstOf 2 = .ok (.iload_n 1, 1) := by decide +kernel
theorem dX0_firstOf_3 : decode cX0_firstOf 3 = .ok (.bipush 6, 2) := by decide +kernel
theorem dX0_firstOf_5 : decode cX0_firstOf 5 = .ok (.if_icmp .ge 20, 3) := by decide +kernel
theorem dX0_firstOf_8 : decode cX0_firstOf 8 = .ok (.iload_n 0, 1) := by decide +kernel
theorem dX0_firstOf_9 : decode cX0_firstOf 9 = .ok (.iload_n 1, 1) := by decide +kernel
theorem dX0_firstOf_10 : decode cX0_firstOf 10 = .ok (.ishr, 1) := by decide +kernel
theorem dX0_firstOf_11 : decode cX0_firstOf 11 = .ok (.iconst 1, 1) := by decide +kernel
theorem dX0_firstOf_12 : decode cX0_firstOf 12 = .ok (.iand, 1) := by decide +kernel
theorem dX0_firstOf_13 : decode cX0_firstOf 13 = .ok (.iconst 1, 1) := by decide +kernel
theorem dX0_firstOf_14 : decode cX0_firstOf 14 = .ok (.if_icmp .ne 5, 3) := by decide +kernel
theorem dX0_firstOf_17 : decode cX0_firstOf 17 = .ok (.iload_n 1, 1) := by decide +kernel
theorem dX0_firstOf_18 : decode cX0_firstOf 18 = .ok (.ireturn, 1) := by decide +kernel
theorem dX0_firstOf_19 : decode cX0_firstOf 19 = .ok (.iinc 1 1, 3) := by decide +kernel
theorem dX0_firstOf_22 : decode cX0_firstOf 22 = .ok (.goto (-20), 3) := by decide +kernel
theorem dX0_firstOf_25 : decode cX0_firstOf 25 = .ok (.bipush (-2), 2) := by decide +kernel
theorem dX0_firstOf_27 : decode cX0_firstOf 27 = .ok (.ireturn, 1) := by decide +kernel
theorem dX0_after_0 : decode cX0_after 0 = .ok (.iload_n 3, 1) := by decide +kernel
theorem dX0_after_1 : decode cX0_after 1 = .ok (.bipush 12, 2) := by decide +kernel
theorem dX0_after_3 : decode cX0_after 3 = .ok (.iadd, 1) := by decide +kernel
theorem dX0_after_4 : decode cX0_after 4 = .ok (.istore 4, 2) := by decide +kernel
theorem dX0_after_6 : decode cX0_after 6 = .ok (.iload_n 1, 1) := by decide +kernel
theorem dX0_after_7 : decode cX0_after 7 = .ok (.bipush 6, 2) := by decide +kernel
theorem dX0_after_9 : decode cX0_after 9 = .ok (.imul, 1) := by decide +kernel
theorem dX0_after_10 : decode cX0_after 10 = .ok (.iload_n 2, 1) := by decide +kernel
theorem dX0_after_11 : decode cX0_after 11 = .ok (.iadd, 1) := by decide +kernel
theorem dX0_after_12 : decode cX0_after 12 = .ok (.bipush 7, 2) := by decide +kernel
theorem dX0_after_14 : decode cX0_after 14 = .ok (.imul, 1) := by decide +kernel
theorem dX0_after_15 : decode cX0_after 15 = .ok (.iload 4, 2) := by decide +kernel
theorem dX0_after_17 : decode cX0_after 17 = .ok (.iconst 2, 1) := by decide +kernel
theorem dX0_after_18 : decode cX0_after 18 = .ok (.ishr, 1) := by decide +kernel
theorem dX0_after_19 : decode cX0_after 19 = .ok (.iadd, 1) := by decide +kernel
theorem dX0_after_20 : decode cX0_after 20 = .ok (.istore 5, 2) := by decide +kernel
theorem dX0_after_22 : decode cX0_after 22 = .ok (.iload 5, 2) := by decide +kernel
theorem dX0_after_24 : decode cX0_after 24 = .ok (.ifCond .lt 13, 3) := by decide +kernel
theorem dX0_after_27 : decode cX0_after 27 = .ok (.iload 5, 2) := by decide +kernel
theorem dX0_after_29 : decode cX0_after 29 = .ok (.aload_n 0, 1) := by decide +kernel
theorem dX0_after_30 : decode cX0_after 30 = .ok (.getfield 35, 3) := by decide +kernel
theorem dX0_after_33 : decode cX0_after 33 = .ok (.arraylength, 1) := by decide +kernel
theorem dX0_after_34 : decode cX0_after 34 = .ok (.if_icmp .lt 6, 3) := by decide +kernel
theorem dX0_after_37 : decode cX0_after 37 = .ok (.bipush (-2), 2) := by decide +kernel
theorem dX0_after_39 : decode cX0_after 39 = .ok (.ireturn, 1) := by decide +kernel
theorem dX0_after_40 : decode cX0_after 40 = .ok (.iload 4, 2) := by decide +kernel
theorem dX0_after_42 : decode cX0_after 42 = .ok (.iconst 3, 1) := by decide +kernel
theorem dX0_after_43 : decode cX0_after 43 = .ok (.iand, 1) := by decide +kernel
theorem dX0_after_44 : decode cX0_after 44 = .ok (.bipush 12, 2) := by decide +kernel
theorem dX0_after_46 : decode cX0_after 46 = .ok (.imul, 1) := by decide +kernel
theorem dX0_after_47 : decode cX0_after 47 = .ok (.istore 6, 2) := by decide +kernel
theorem dX0_after_49 : decode cX0_after 49 = .ok (.aload_n 0, 1) := by decide +kernel
theorem dX0_after_50 : decode cX0_after 50 = .ok (.getfield 35, 3) := by decide +kernel
theorem dX0_after_53 : decode cX0_after 53 = .ok (.iload 5, 2) := by decide +kernel
theorem dX0_after_55 : decode cX0_after 55 = .ok (.laload, 1) := by decide +kernel
theorem dX0_after_56 : decode cX0_after 56 = .ok (.lstore 7, 2) := by decide +kernel
theorem dX0_after_58 : decode cX0_after 58 = .ok (.lload 7, 2) := by decide +kernel
theorem dX0_after_60 : decode cX0_after 60 = .ok (.bipush 48, 2) := by decide +kernel
theorem dX0_after_62 : decode cX0_after 62 = .ok (.lushr, 1) := by decide +kernel
theorem dX0_after_63 : decode cX0_after 63 = .ok (.l2i, 1) := by decide +kernel
theorem dX0_after_64 : decode cX0_after 64 = .ok (.aload_n 0, 1) := by decide +kernel
theorem dX0_after_65 : decode cX0_after 65 = .ok (.getfield 47, 3) := by decide +kernel
theorem dX0_after_68 : decode cX0_after 68 = .ok (.if_icmp .eq 13, 3) := by decide +kernel
theorem dX0_after_71 : decode cX0_after 71 = .ok (.aload_n 0, 1) := by decide +kernel
theorem dX0_after_72 : decode cX0_after 72 = .ok (.getfield 47, 3) := by decide +kernel
theorem dX0_after_75 : decode cX0_after 75 = .ok (.i2l, 1) := by decide +kernel
theorem dX0_after_76 : decode cX0_after 76 = .ok (.bipush 48, 2) := by decide +kernel
theorem dX0_after_78 : decode cX0_after 78 = .ok (.lshl, 1) := by decide +kernel
theorem dX0_after_79 : decode cX0_after 79 = .ok (.lstore 7, 2) := by decide +kernel
theorem dX0_after_81 : decode cX0_after 81 = .ok (.lload 7, 2) := by decide +kernel
theorem dX0_after_83 : decode cX0_after 83 = .ok (.iload 6, 2) := by decide +kernel
theorem dX0_after_85 : decode cX0_after 85 = .ok (.lushr, 1) := by decide +kernel
theorem dX0_after_86 : decode cX0_after 86 = .ok (.l2i, 1) := by decide +kernel
theorem dX0_after_87 : decode cX0_after 87 = .ok (.sipush 4095, 3) := by decide +kernel
theorem dX0_after_90 : decode cX0_after 90 = .ok (.iand, 1) := by decide +kernel
theorem dX0_after_91 : decode cX0_after 91 = .ok (.istore 9, 2) := by decide +kernel
theorem dX0_after_93 : decode cX0_after 93 = .ok (.iload 9, 2) := by decide +kernel
theorem dX0_after_95 : decode cX0_after 95 = .ok (.ifCond .ne 30, 3) := by decide +kernel
theorem dX0_after_98 : decode cX0_after 98 = .ok (.aload_n 0, 1) := by decide +kernel
theorem dX0_after_99 : decode cX0_after 99 = .ok (.iload_n 1, 1) := by decide +kernel
theorem dX0_after_100 : decode cX0_after 100 = .ok (.iload_n 2, 1) := by decide +kernel
theorem dX0_after_101 : decode cX0_after 101 = .ok (.iload_n 3, 1) := by decide +kernel
theorem dX0_after_102 : decode cX0_after 102 = .ok (.invokevirtual 105, 3) := by decide +kernel
theorem dX0_after_105 : decode cX0_after 105 = .ok (.iconst 3, 1) := by decide +kernel
theorem dX0_after_106 : decode cX0_after 106 = .ok (.iadd, 1) := by decide +kernel
theorem dX0_after_107 : decode cX0_after 107 = .ok (.istore 9, 2) := by decide +kernel
theorem dX0_after_109 : decode cX0_after 109 = .ok (.aload_n 0, 1) := by decide +kernel
theorem dX0_after_110 : decode cX0_after 110 = .ok (.getfield 35, 3) := by decide +kernel
theorem dX0_after_113 : decode cX0_after 113 = .ok (.iload 5, 2) := by decide +kernel
theorem dX0_after_115 : decode cX0_after 115 = .ok (.lload 7, 2) := by decide +kernel
theorem dX0_after_117 : decode cX0_after 117 = .ok (.iload 9, 2) := by decide +kernel
theorem dX0_after_119 : decode cX0_after 119 = .ok (.i2l, 1) := by decide +kernel
theorem dX0_after_120 : decode cX0_after 120 = .ok (.iload 6, 2) := by decide +kernel
theorem dX0_after_122 : decode cX0_after 122 = .ok (.lshl, 1) := by decide +kernel
theorem dX0_after_123 : decode cX0_after 123 = .ok (.lor, 1) := by decide +kernel
theorem dX0_after_124 : decode cX0_after 124 = .ok (.lastore, 1) := by decide +kernel
theorem dX0_after_125 : decode cX0_after 125 = .ok (.iload 9, 2) := by decide +kernel
theorem dX0_after_127 : decode cX0_after 127 = .ok (.iconst 3, 1) := by decide +kernel
theorem dX0_after_128 : decode cX0_after 128 = .ok (.isub, 1) := by decide +kernel
theorem dX0_after_129 : decode cX0_after 129 = .ok (.sipush 2079, 3) := by decide +kernel
theorem dX0_after_132 : decode cX0_after 132 = .ok (.if_icmp .ge 10, 3) := by decide +kernel
theorem dX0_after_135 : decode cX0_after 135 = .ok (.iload 9, 2) := by decide +kernel
theorem dX0_after_137 : decode cX0_after 137 = .ok (.iconst 3, 1) := by decide +kernel
theorem dX0_after_138 : decode cX0_after 138 = .ok (.isub, 1) := by decide +kernel
theorem dX0_after_139 : decode cX0_after 139 = .ok (.goto 5, 3) := by decide +kernel
theorem dX0_after_142 : decode cX0_after 142 = .ok (.bipush (-2), 2) := by decide +kernel
theorem dX0_after_144 : decode cX0_after 144 = .ok (.ireturn, 1) := by decide +kernel
theorem dX0_leap_0 : decode cX0_leap 0 = .ok (.aload_n 0, 1) := by decide +kernel
theorem dX0_leap_1 : decode cX0_leap 1 = .ok (.getfield 39, 3) := by decide +kernel
theorem dX0_leap_4 : decode cX0_leap 4 = .ok (.iload_n 2, 1) := by decide +kernel
theorem dX0_leap_5 : decode cX0_leap 5 = .ok (.invokevirtual 109, 3) := by decide +kernel
theorem dX0_leap_8 : decode cX0_leap 8 = .ok (.ifCond .ne 6, 3) := by decide +kernel
theorem dX0_leap_11 : decode cX0_leap 11 = .ok (.bipush (-2), 2) := by decide +kernel
theorem dX0_leap_13 : decode cX0_leap 13 = .ok (.ireturn, 1) := by decide +kernel
theorem dX0_leap_14 : decode cX0_leap 14 = .ok (.aload_n 0, 1) := by decide +kernel
theorem dX0_leap_15 : decode cX0_leap 15 = .ok (.getfield 12, 3) := by decide +kernel
theorem dX0_leap_18 : decode cX0_leap 18 = .ok (.iload_n 1, 1) := by decide +kernel
theorem dX0_leap_19 : decode cX0_leap 19 = .ok (.aload_n 0, 1) := by decide +kernel
theorem dX0_leap_20 : decode cX0_leap 20 = .ok (.getfield 43, 3) := by decide +kernel
theorem dX0_leap_23 : decode cX0_leap 23 = .ok (.invokevirtual 54, 3) := by decide +kernel
theorem dX0_leap_26 : decode cX0_leap 26 = .ok (.aload_n 0, 1) := by decide +kernel
theorem dX0_leap_27 : decode cX0_leap 27 = .ok (.getfield 12, 3) := by decide +kernel
theorem dX0_leap_30 : decode cX0_leap 30 = .ok (.getfield 84, 3) := by decide +kernel
theorem dX0_leap_33 : decode cX0_leap 33 = .ok (.astore 4, 2) := by decide +kernel
theorem dX0_leap_35 : decode cX0_leap 35 = .ok (.aload 4, 2) := by decide +kernel
theorem dX0_leap_37 : decode cX0_leap 37 = .ok (.iconst 3, 1) := by decide +kernel
theorem dX0_leap_38 : decode cX0_leap 38 = .ok (.aload_n 0, 1) := by decide +kernel
theorem dX0_leap_39 : decode cX0_leap 39 = .ok (.getfield 39, 3) := by decide +kernel
theorem dX0_leap_42 : decode cX0_leap 42 = .ok (.getfield 87, 3) := by decide +kernel
theorem dX0_leap_45 : decode cX0_leap 45 = .ok (.iload_n 2, 1) := by decide +kernel
theorem dX0_leap_46 : decode cX0_leap 46 = .ok (.iaload, 1) := by decide +kernel
theorem dX0_leap_47 : decode cX0_leap 47 = .ok (.iastore, 1) := by decide +kernel
theorem dX0_leap_48 : decode cX0_leap 48 = .ok (.aload 4, 2) := by decide +kernel
theorem dX0_leap_50 : decode cX0_leap 50 = .ok (.iconst 4, 1) := by decide +kernel
theorem dX0_leap_51 : decode cX0_leap 51 = .ok (.iload_n 3, 1) := by decide +kernel
theorem dX0_leap_52 : decode cX0_leap 52 = .ok (.iastore, 1) := by decide +kernel
theorem dX0_leap_53 : decode cX0_leap 53 = .ok (.iload_n 1, 1) := by decide +kernel
theorem dX0_leap_54 : decode cX0_leap 54 = .ok (.invokestatic 112, 3) := by decide +kernel
theorem dX0_leap_57 : decode cX0_leap 57 = .ok (.iload_n 1, 1) := by decide +kernel
theorem dX0_leap_58 : decode cX0_leap 58 = .ok (.invokestatic 115, 3) := by decide +kernel
theorem dX0_leap_61 : decode cX0_leap 61 = .ok (.iconst 4, 1) := by decide +kernel
theorem dX0_leap_62 : decode cX0_leap 62 = .ok (.idiv, 1) := by decide +kernel
theorem dX0_leap_63 : decode cX0_leap 63 = .ok (.iadd, 1) := by decide +kernel
theorem dX0_leap_64 : decode cX0_leap 64 = .ok (.iload_n 3, 1) := by decide +kernel
theorem dX0_leap_65 : decode cX0_leap 65 = .ok (.iadd, 1) := by decide +kernel
theorem dX0_leap_66 : decode cX0_leap 66 = .ok (.aload_n 0, 1) := by decide +kernel
theorem dX0_leap_67 : decode cX0_leap 67 = .ok (.getfield 39, 3) := by decide +kernel
theorem dX0_leap_70 : decode cX0_leap 70 = .ok (.getfield 87, 3) := by decide +kernel
theorem dX0_leap_73 : decode cX0_leap 73 = .ok (.iload_n 2, 1) := by decide +kernel
theorem dX0_leap_74 : decode cX0_leap 74 = .ok (.iaload, 1) := by decide +kernel
theorem dX0_leap_75 : decode cX0_leap 75 = .ok (.aload_n 0, 1) := by decide +kernel
theorem dX0_leap_76 : decode cX0_leap 76 = .ok (.getfield 43, 3) := by decide +kernel
theorem dX0_leap_79 : decode cX0_leap 79 = .ok (.imul, 1) := by decide +kernel
theorem dX0_leap_80 : decode cX0_leap 80 = .ok (.isub, 1) := by decide +kernel
theorem dX0_leap_81 : decode cX0_leap 81 = .ok (.istore 5, 2) := by decide +kernel
theorem dX0_leap_83 : decode cX0_leap 83 = .ok (.aload_n 0, 1) := by decide +kernel
theorem dX0_leap_84 : decode cX0_leap 84 = .ok (.getfield 39, 3) := by decide +kernel
theorem dX0_leap_87 : decode cX0_leap 87 = .ok (.getfield 118, 3) := by decide +kernel
theorem dX0_leap_90 : decode cX0_leap 90 = .ok (.iconst (-1), 1) := by decide +kernel
theorem dX0_leap_91 : decode cX0_leap 91 = .ok (.if_icmp .eq 47, 3) := by decide +kernel
theorem dX0_leap_94 : decode cX0_leap 94 = .ok (.aload_n 0, 1) := by decide +kernel
theorem dX0_leap_95 : decode cX0_leap 95 = .ok (.getfield 12, 3) := by decide +kernel
theorem dX0_leap_98 : decode cX0_leap 98 = .ok (.aload_n 0, 1) := by decide +kernel
theorem dX0_leap_99 : decode cX0_leap 99 = .ok (.getfield 39, 3) := by decide +kernel
theorem dX0_leap_102 : decode cX0_leap 102 = .ok (.getfield 70, 3) := by decide +kernel
theorem dX0_leap_105 : decode cX0_leap 105 = .ok (.aload_n 0, 1) := by decide +kernel
theorem dX0_leap_106 : decode cX0_leap 106 = .ok (.getfield 39, 3) := by decide +kernel
theorem dX0_leap_109 : decode cX0_leap 109 = .ok (.getfield 118, 3) := by decide +kernel
theorem dX0_leap_112 : decode cX0_leap 112 = .ok (.invokevirtual 121, 3) := by decide +kernel
theorem dX0_leap_115 : decode cX0_leap 115 = .ok (.pop, 1) := by decide +kernel
theorem dX0_leap_116 : decode cX0_leap 116 = .ok (.aload_n 0, 1) := by decide +kernel
theorem dX0_leap_117 : decode cX0_leap 117 = .ok (.getfield 12, 3) := by decide +kernel
theorem dX0_leap_120 : decode cX0_leap 120 = .ok (.invokevirtual 125, 3) := by decide +kernel
theorem dX0_leap_123 : decode cX0_leap 123 = .ok (.istore 5, 2) := by decide +kernel
theorem dX0_leap_125 : decode cX0_leap 125 = .ok (.aload_n 0, 1) := by decide +kernel
theorem dX0_leap_126 : decode cX0_leap 126 = .ok (.getfield 12, 3) := by decide +kernel
theorem dX0_leap_129 : decode cX0_leap 129 = .ok (.getfield 129, 3) := by decide +kernel
theorem dX0_leap_132 : decode cX0_leap 132 = .ok (.ifCond .eq 6, 3) := by decide +kernel
theorem dX0_leap_135 : decode cX0_leap 135 = .ok (.bipush (-2), 2) := by decide +kernel
theorem dX0_leap_137 : decode cX0_leap 137 = .ok (.ireturn, 1) := by decide +kernel
theorem dX0_leap_138 : decode cX0_leap 138 = .ok (.aload 4, 2) := by decide +kernel
theorem dX0_leap_140 : decode cX0_leap 140 = .ok (.iconst 2, 1) := by decide +kernel
theorem dX0_leap_141 : decode cX0_leap 141 = .ok (.iload 5, 2) := by decide +kernel
theorem dX0_leap_143 : decode cX0_leap 143 = .ok (.iastore, 1) := by decide +kernel
theorem dX0_leap_144 : decode cX0_leap 144 = .ok (.iload_n 1, 1) := by decide +kernel
theorem dX0_leap_145 : decode cX0_leap 145 = .ok (.invokestatic 115, 3) := by decide +kernel
theorem dX0_leap_148 : decode cX0_leap 148 = .ok (.iload 5, 2) := by decide +kernel
theorem dX0_leap_150 : decode cX0_leap 150 = .ok (.iadd, 1) := by decide +kernel
theorem dX0_leap_151 : decode cX0_leap 151 = .ok (.istore 6, 2) := by decide +kernel
theorem dX0_leap_153 : decode cX0_leap 153 = .ok (.aload_n 0, 1) := by decide +kernel
theorem dX0_leap_154 : decode cX0_leap 154 = .ok (.getfield 39, 3) := by decide +kernel
theorem dX0_leap_157 : decode cX0_leap 157 = .ok (.getfield 133, 3) := by decide +kernel
theorem dX0_leap_160 : decode cX0_leap 160 = .ok (.iconst (-1), 1) := by decide +kernel
theorem dX0_leap_161 : decode cX0_leap 161 = .ok (.if_icmp .eq 47, 3) := by decide +kernel
theorem dX0_leap_164 : decode cX0_leap 164 = .ok (.aload_n 0, 1) := by decide +kernel
theorem dX0_leap_165 : decode cX0_leap 165 = .ok (.getfield 12, 3) := by decide +kernel
theorem dX0_leap_168 : decode cX0_leap 168 = .ok (.aload_n 0, 1) := by decide +kernel
theorem dX0_leap_169 : decode cX0_leap 169 = .ok (.getfield 39, 3) := by decide +kernel
theorem dX0_leap_172 : decode cX0_leap 172 = .ok (.getfield 70, 3) := by decide +kernel
theorem dX0_leap_175 : decode cX0_leap 175 = .ok (.aload_n 0, 1) := by decide +kernel
theorem dX0_leap_176 : decode cX0_leap 176 = .ok (.getfield 39, 3) := by decide +kernel
theorem dX0_leap_179 : decode cX0_leap 179 = .ok (.getfield 133, 3) := by decide +kernel
theorem dX0_leap_182 : decode cX0_leap 182 = .ok (.invokevirtual 121, 3) := by decide +kernel
theorem dX0_leap_185 : decode cX0_leap 185 = .ok (.pop, 1) := by decide +kernel
theorem dX0_leap_186 : decode cX0_leap 186 = .ok (.aload_n 0, 1) := by decide +kernel
theorem dX0_leap_187 : decode cX0_leap 187 = .ok (.getfield 12, 3) := by decide +kernel
theorem dX0_leap_190 : decode cX0_leap 190 = .ok (.invokevirtual 125, 3) := by decide +kernel
theorem dX0_leap_193 : decode cX0_leap 193 = .ok (.istore 6, 2) := by decide +kernel
theorem dX0_leap_195 : decode cX0_leap 195 = .ok (.aload_n 0, 1) := by decide +kernel
theorem dX0_leap_196 : decode cX0_leap 196 = .ok (.getfield 12, 3) := by decide +kernel
theorem dX0_leap_199 : decode cX0_leap 199 = .ok (.getfield 129, 3) := by decide +kernel
theorem dX0_leap_202 : decode cX0_leap 202 = .ok (.ifCond .eq 6, 3) := by decide +kernel
theorem dX0_leap_205 : decode cX0_leap 205 = .ok (.bipush (-2), 2) := by decide +kernel
theorem dX0_leap_207 : decode cX0_leap 207 = .ok (.ireturn, 1) := by decide +kernel
theorem dX0_leap_208 : decode cX0_leap 208 = .ok (.iload_n 1, 1) := by decide +kernel
theorem dX0_leap_209 : decode cX0_leap 209 = .ok (.invokestatic 58, 3) := by decide +kernel
theorem dX0_leap_212 : decode cX0_leap 212 = .ok (.aload_n 0, 1) := by decide +kernel
theorem dX0_leap_213 : decode cX0_leap 213 = .ok (.getfield 39, 3) := by decide +kernel
theorem dX0_leap_216 : decode cX0_leap 216 = .ok (.getfield 136, 3) := by decide +kernel
theorem dX0_leap_219 : decode cX0_leap 219 = .ok (.iload_n 2, 1) := by decide +kernel
theorem dX0_leap_220 : decode cX0_leap 220 = .ok (.iaload, 1) := by decide +kernel
theorem dX0_leap_221 : decode cX0_leap 221 = .ok (.iadd, 1) := by decide +kernel
theorem dX0_leap_222 : decode cX0_leap 222 = .ok (.istore 7, 2) := by decide +kernel
theorem dX0_leap_224 : decode cX0_leap 224 = .ok (.aload_n 0, 1) := by decide +kernel
theorem dX0_leap_225 : decode cX0_leap 225 = .ok (.getfield 39, 3) := by decide +kernel
theorem dX0_leap_228 : decode cX0_leap 228 = .ok (.iload 7, 2) := by decide +kernel
theorem dX0_leap_230 : decode cX0_leap 230 = .ok (.ifCond .ge 7, 3) := by decide +kernel
theorem dX0_leap_233 : decode cX0_leap 233 = .ok (.iconst 0, 1) := by decide +kernel
theorem dX0_leap_234 : decode cX0_leap 234 = .ok (.goto 5, 3) := by decide +kernel
theorem dX0_leap_237 : decode cX0_leap 237 = .ok (.iload 7, 2) := by decide +kernel
theorem dX0_leap_239 : decode cX0_leap 239 = .ok (.iload 6, 2) := by decide +kernel
theorem dX0_leap_241 : decode cX0_leap 241 = .ok (.iload 5, 2) := by decide +kernel
theorem dX0_leap_243 : decode cX0_leap 243 = .ok (.invokevirtual 139, 3) := by decide +kernel
theorem dX0_leap_246 : decode cX0_leap 246 = .ok (.istore 8, 2) := by decide +kernel
theorem dX0_leap_248 : decode cX0_leap 248 = .ok (.iload 8, 2) := by decide +kernel
theorem dX0_leap_250 : decode cX0_leap 250 = .ok (.iconst (-1), 1) := by decide +kernel
theorem dX0_leap_251 : decode cX0_leap 251 = .ok (.if_icmp .ne 8, 3) := by decide +kernel
theorem dX0_leap_254 : decode cX0_leap 254 = .ok (.bipush (-2), 2) := by decide +kernel
theorem dX0_leap_256 : decode cX0_leap 256 = .ok (.goto 5, 3) := by decide +kernel
theorem dX0_leap_259 : decode cX0_leap 259 = .ok (.iload 8, 2) := by decide +kernel
theorem dX0_leap_261 : decode cX0_leap 261 = .ok (.ireturn, 1) := by decide +kernel
theorem dX1_init_0 : decode cX1_init 0 = .ok (.aload_n 0, 1) := by decide +kernel
theorem dX1_init_1 : decode cX1_init 1 = .ok (.invokespecial 3, 3) := by decide +kernel
theorem dX1_init_4 : decode cX1_init 4 = .ok (.aload_n 0, 1) := by decide +kernel
theorem dX1_init_5 : decode cX1_init 5 = .ok (.sipush 401, 3) := by decide +kernel
theorem dX1_init_8 : decode cX1_init 8 = .ok (.newarray .int, 2) := by decide +kernel
theorem dX1_init_10 : decode cX1_init 10 = .ok (.putfield 9, 3) := by decide +kernel
theorem dX1_init_13 : decode cX1_init 13 = .ok (.aload_n 0, 1) := by decide +kernel
theorem dX1_init_14 : decode cX1_init 14 = .ok (.new 15, 3) := by decide +kernel
theorem dX1_init_17 : decode cX1_init 17 = .ok (.dup, 1) := by decide +kernel
theorem dX1_init_18 : decode cX1_init 18 = .ok (.invokespecial 17, 3) := by decide +kernel
theorem dX1_init_21 : decode cX1_init 21 = .ok (.putfield 18, 3) := by decide +kernel
theorem dX1_init_24 : decode cX1_init 24 = .ok (.aload_n 0, 1) := by decide +kernel
theorem dX1_init_25 : decode cX1_init 25 = .ok (.aload_n 1, 1) := by decide +kernel
theorem dX1_init_26 : decode cX1_init 26 = .ok (.putfield 22, 3) := by decide +kernel
theorem dX1_init_29 : decode cX1_init 29 = .ok (.return_, 1) := by decide +kernel
theorem dX1_parse_0 : decode cX1_parse 0 = .ok (.aload_n 0, 1) := by decide +kernel
theorem dX1_parse_1 : decode cX1_parse 1 = .ok (.getfield 18, 3) := by decide +kernel
theorem dX1_parse_4 : decode cX1_parse 4 = .ok (.aload_n 1, 1) := by decide +kernel
theorem dX1_parse_5 : decode cX1_parse 5 = .ok (.iload_n 2, 1) := by decide +kernel
theorem dX1_parse_6 : decode cX1_parse 6 = .ok (.invokevirtual 26, 3) := by decide +kernel
theorem dX1_parse_9 : decode cX1_parse 9 = .ok (.aload_n 3, 1) := by decide +kernel
theorem dX1_parse_10 : decode cX1_parse 10 = .ok (.invokevirtual 30, 3) := by decide +kernel
theorem dX1_parse_13 : decode cX1_parse 13 = .ok (.aload_n 0, 1) := by decide +kernel
theorem dX1_parse_14 : decode cX1_parse 14 = .ok (.aload_n 3, 1) := by decide +kernel
theorem dX1_parse_15 : decode cX1_parse 15 = .ok (.putfield 22, 3) := by decide +kernel
theorem dX1_parse_18 : decode cX1_parse 18 = .ok (.aload_n 0, 1) := by decide +kernel
theorem dX1_parse_19 : decode cX1_parse 19 = .ok (.iconst 0, 1) := by decide +kernel
theorem dX1_parse_20 : decode cX1_parse 20 = .ok (.putfield 35, 3) := by decide +kernel
theorem dX1_parse_23 : decode cX1_parse 23 = .ok (.aload_n 0, 1) := by decide +kernel
theorem dX1_parse_24 : decode cX1_parse 24 = .ok (.iconst 0, 1) := by decide +kernel
theorem dX1_parse_25 : decode cX1_parse 25 = .ok (.putfield 39, 3) := by decide +kernel
theorem dX1_parse_28 : decode cX1_parse 28 = .ok (.aload_n 0, 1) := by decide +kernel
theorem dX1_parse_29 : decode cX1_parse 29 = .ok (.iconst (-1), 1) := by decide +kernel
theorem dX1_parse_30 : decode cX1_parse 30 = .ok (.putfield 42, 3) := by decide +kernel
theorem dX1_parse_33 : decode cX1_parse 33 = .ok (.aload_n 0, 1) := by decide +kernel
theorem dX1_parse_34 : decode cX1_parse 34 = .ok (.iconst 0, 1) := by decide +kernel
theorem dX1_parse_35 : decode cX1_parse 35 = .ok (.putfield 45, 3) := by decide +kernel
theorem dX1_parse_38 : decode cX1_parse 38 = .ok (.aload_n 0, 1) := by decide +kernel
theorem dX1_parse_39 : decode cX1_parse 39 = .ok (.iconst (-1), 1) := by decide +kernel
theorem dX1_parse_40 : decode cX1_parse 40 = .ok (.putfield 48, 3) := by decide +kernel
theorem dX1_parse_43 : decode cX1_parse 43 = .ok (.iconst 1, 1) := by decide +kernel
theorem dX1_parse_44 : decode cX1_parse 44 = .ok (.istore 4, 2) := by decide +kernel
theorem dX1_parse_46 : decode cX1_parse 46 = .ok (.iconst 0, 1) := by decide +kernel
theorem dX1_parse_47 : decode cX1_parse 47 = .ok (.istore 5, 2) := by decide +kernel
theorem dX1_parse_49 : decode cX1_parse 49 = .ok (.iload 5, 2) := by decide +kernel
theorem dX1_parse_51 : decode cX1_parse 51 = .ok (.sipush 400, 3) := by decide +kernel
theorem dX1_parse_54 : decode cX1_parse 54 = .ok (.if_icmp .gt 144, 3) := by decide +kernel
theorem dX1_parse_57 : decode cX1_parse 57 = .ok (.iload 4, 2) := by decide +kernel
theorem dX1_parse_59 : decode cX1_parse 59 = .ok (.ifCond .eq 139, 3) := by decide +kernel
theorem dX1_parse_62 : decode cX1_parse 62 = .ok (.aload_n 0, 1) := by decide +kernel
theorem dX1_parse_63 : decode cX1_parse 63 = .ok (.invokevirtual 51, 3) := by decide +kernel
theorem dX1_parse_66 : decode cX1_parse 66 = .ok (.bipush 30, 2) := by decide +kernel
theorem dX1_parse_68 : decode cX1_parse 68 = .ok (.if_icmp .eq 130, 3) := by decide +kernel
theorem dX1_parse_71 : decode cX1_parse 71 = .ok (.aload_n 0, 1) := by decide +kernel
theorem dX1_parse_72 : decode cX1_parse 72 = .ok (.invokevirtual 51, 3) := by decide +kernel
theorem dX1_parse_75 : decode cX1_parse 75 = .ok (.tableswitch 110 1 11 #[70, 70, 110, 110, 110, 57, 57, 57, 83, 92, 101], 57) := by decide +kernel
theorem dX1_parse_132 : decode cX1_parse 132 = .ok (.aload_n 0, 1) := by decide +kernel
theorem dX1_parse_133 : decode cX1_parse 133 = .ok (.aload_n 0, 1) := by decide +kernel
theorem dX1_parse_134 : decode cX1_parse 134 = .ok (.invokevirtual 51, 3) := by decide +kernel
theorem dX1_parse_137 : decode cX1_parse 137 = .ok (.invokevirtual 55, 3) := by decide +kernel
theorem dX1_parse_140 : decode cX1_parse 140 = .ok (.istore 4, 2) := by decide +kernel
theorem dX1_parse_142 : decode cX1_parse 142 = .ok (.goto 50, 3) := by decide +kernel
theorem dX1_parse_145 : decode cX1_parse 145 = .ok (.aload_n 0, 1) := by decide +kernel
theorem dX1_parse_146 : decode cX1_parse 146 = .ok (.aload_n 0, 1) := by decide +kernel
theorem dX1_parse_147 : decode cX1_parse 147 = .ok (.invokevirtual 51, 3) := by decide +kernel
theorem dX1_parse_150 : decode cX1_parse 150 = .ok (.invokevirtual 59, 3) := by decide +kernel
theorem dX1_parse_153 : decode cX1_parse 153 = .ok (.istore 4, 2) := by decide +kernel
theorem dX1_parse_155 : decode cX1_parse 155 = .ok (.goto 37, 3) := by decide +kernel
theorem dX1_parse_158 : decode cX1_parse 158 = .ok (.aload_n 0, 1) := by decide +kernel
theorem dX1_parse_159 : decode cX1_parse 159 = .ok (.invokevirtual 62, 3) := by decide +kernel
theorem dX1_parse_162 : decode cX1_parse 162 = .ok (.istore 4, 2) := by decide +kernel
theorem dX1_parse_164 : decode cX1_parse 164 = .ok (.goto 28, 3) := by decide +kernel
theorem dX1_parse_167 : decode cX1_parse 167 = .ok (.aload_n 0, 1) := by decide +kernel
theorem dX1_parse_168 : decode cX1_parse 168 = .ok (.invokevirtual 66, 3) := by decide +kernel
theorem dX1_parse_171 : decode cX1_parse 171 = .ok (.istore 4, 2) := by decide +kernel
theorem dX1_parse_173 : decode cX1_parse 173 = .ok (.goto 19, 3) := by decide +kernel
theorem dX1_parse_176 : decode cX1_parse 176 = .ok (.aload_n 0, 1) := by decide +kernel
theorem dX1_parse_177 : decode cX1_parse 177 = .ok (.invokevirtual 69, 3) := by decide +kernel
theorem dX1_parse_180 : decode cX1_parse 180 = .ok (.istore 4, 2) := by decide +kernel
theorem dX1_parse_182 : decode cX1_parse 182 = .ok (.goto 10, 3) := by decide +kernel
theorem dX1_parse_185 : decode cX1_parse 185 = .ok (.aload_n 0, 1) := by decide +kernel
theorem dX1_parse_186 : decode cX1_parse 186 = .ok (.iconst 1, 1) := by decide +kernel
theorem dX1_parse_187 : decode cX1_parse 187 = .ok (.invokevirtual 72, 3) := by decide +kernel
theorem dX1_parse_190 : decode cX1_parse 190 = .ok (.istore 4, 2) := by decide +kernel
theorem dX1_parse_192 : decode cX1_parse 192 = .ok (.iinc 5 1, 3) := by decide +kernel
theorem dX1_parse_195 : decode cX1_parse 195 = .ok (.goto (-146), 3) := by decide +kernel
theorem dX1_parse_198 : decode cX1_parse 198 = .ok (.aload_n 0, 1) := by decide +kernel
theorem dX1_parse_199 : decode cX1_parse 199 = .ok (.getfield 39, 3) := by decide +kernel
theorem dX1_parse_202 : decode cX1_parse 202 = .ok (.ifCond .ne 26, 3) := by decide +kernel
theorem dX1_parse_205 : decode cX1_parse 205 = .ok (.aload_n 0, 1) := by decide +kernel
theorem dX1_parse_206 : decode cX1_parse 206 = .ok (.getfield 45, 3) := by decide +kernel
theorem dX1_parse_209 : decode cX1_parse 209 = .ok (.ifCond .eq 19, 3) := by decide +kernel
theorem dX1_parse_212 : decode cX1_parse 212 = .ok (.aload_n 0, 1) := by decide +kernel
theorem dX1_parse_213 : decode cX1_parse 213 = .ok (.aload_n 0, 1) := by decide +kernel
theorem dX1_parse_214 : decode cX1_parse 214 = .ok (.getfield 45, 3) := by decide +kernel
theorem dX1_parse_217 : decode cX1_parse 217 = .ok (.putfield 39, 3) := by decide +kernel
theorem dX1_parse_220 : decode cX1_parse 220 = .ok (.aload_n 0, 1) := by decide +kernel
theorem dX1_parse_221 : decode cX1_parse 221 = .ok (.aload_n 0, 1) := by decide +kernel
theorem dX1_parse_222 : decode cX1_parse 222 = .ok (.getfield 48, 3) := by decide +kernel
theorem dX1_parse_225 : decode cX1_parse 225 = .ok (.putfield 42, 3) := by decide +kernel
theorem dX1_parse_228 : decode cX1_parse 228 = .ok (.aload_n 0, 1) := by decide +kernel
theorem dX1_parse_229 : decode cX1_parse 229 = .ok (.getfield 22, 3) := by decide +kernel
theorem dX1_parse_232 : decode cX1_parse 232 = .ok (.invokevirtual 75, 3) := by decide +kernel
theorem dX1_parse_235 : decode cX1_parse 235 = .ok (.aload_n 0, 1) := by decide +kernel
theorem dX1_parse_236 : decode cX1_parse 236 = .ok (.getfield 39, 3) := by decide +kernel
theorem dX1_parse_239 : decode cX1_parse 239 = .ok (.ireturn, 1) := by decide +kernel
theorem dX1_kind_0 : decode cX1_kind 0 = .ok (.aload_n 0, 1) := by decide +kernel
theorem dX1_kind_1 : decode cX1_kind 1 = .ok (.getfield 35, 3) := by decide +kernel
theorem dX1_kind_4 : decode cX1_kind 4 = .ok (.aload_n 0, 1) := by decide +kernel
theorem dX1_kind_5 : decode cX1_kind 5 = .ok (.getfield 18, 3) := by decide +kernel
theorem dX1_kind_8 : decode cX1_kind 8 = .ok (.getfield 78, 3) := by decide +kernel
theorem dX1_kind_11 : decode cX1_kind 11 = .ok (.arraylength, 1) := by decide +kernel
theorem dX1_kind_12 : decode cX1_kind 12 = .ok (.if_icmp .ge 18, 3) := by decide +kernel
theorem dX1_kind_15 : decode cX1_kind 15 = .ok (.aload_n 0, 1) := by decide +kernel
theorem dX1_kind_16 : decode cX1_kind 16 = .ok (.getfield 18, 3) := by decide +kernel
theorem dX1_kind_19 : decode cX1_kind 19 = .ok (.getfield 78, 3) := by decide +kernel
theorem dX1_kind_22 : decode cX1_kind 22 = .ok (.aload_n 0, 1) := by decide +kernel
theorem dX1_kind_23 : decode cX1_kind 23 = .ok (.getfield 35, 3) := by decide +kernel
theorem dX1_kind_26 : decode cX1_kind 26 = .ok (.iaload, 1) := by decide +kernel
theorem dX1_kind_27 : decode cX1_kind 27 = .ok (.goto 5, 3) := by decide +kernel
theorem dX1_kind_30 : decode cX1_kind 30 = .ok (.bipush 31, 2) := by decide +kernel
theorem dX1_kind_32 : decode cX1_kind 32 = .ok (.ireturn, 1) := by decide +kernel
theorem dX1_value_0 : decode cX1_value 0 = .ok (.aload_n 0, 1) := by decide +kernel
theorem dX1_value_1 : decode cX1_value 1 = .ok (.getfield 35, 3) := by decide +kernel
theorem dX1_value_4 : decode cX1_value 4 = .ok (.aload_n 0, 1) := by decide +kernel
theorem dX1_value_5 : decode cX1_value 5 = .ok (.getfield 18, 3) := by decide +kernel
theorem dX1_value_8 : decode cX1_value 8 = .ok (.getfield 81, 3) := by decide +kernel
theorem dX1_value_11 : decode cX1_value 11 = .ok (.arraylength, 1) := by decide +kernel
theorem dX1_value_12 : decode cX1_value 12 = .ok (.if_icmp .ge 18, 3) := by decide +kernel
theorem dX1_value_15 : decode cX1_value 15 = .ok (.aload_n 0, 1) := by decide +kernel
theorem dX1_value_16 : decode cX1_value 16 = .ok (.getfield 18, 3) := by decide +kernel
theorem dX1_value_19 : decode cX1_value 19 = .ok (.getfield 81, 3) := by decide +kernel
theorem dX1_value_22 : decode cX1_value 22 = .ok (.aload_n 0, 1) := by decide +kernel
theorem dX1_value_23 : decode cX1_value 23 = .ok (.getfield 35, 3) := by decide +kernel
theorem dX1_value_26 : decode cX1_value 26 = .ok (.laload, 1) := by decide +kernel
theorem dX1_value_27 : decode cX1_value 27 = .ok (.goto 4, 3) := by decide +kernel
theorem dX1_value_30 : decode cX1_value 30 = .ok (.lconst 0, 1) := by decide +kernel
theorem dX1_value_31 : decode cX1_value 31 = .ok (.lreturn, 1) := by decide +kernel
theorem dX1_fail_0 : decode cX1_fail 0 = .ok (.aload_n 0, 1) := by decide +kernel
theorem dX1_fail_1 : decode cX1_fail 1 = .ok (.iload_n 1, 1) := by decide +kernel
theorem dX1_fail_2 : decode cX1_fail 2 = .ok (.putfield 39, 3) := by decide +kernel
theorem dX1_fail_5 : decode cX1_fail 5 = .ok (.aload_n 0, 1) := by decide +kernel
theorem dX1_fail_6 : decode cX1_fail 6 = .ok (.aload_n 0, 1) := by decide +kernel
theorem dX1_fail_7 : decode cX1_fail 7 = .ok (.getfield 35, 3) := by decide +kernel
theorem dX1_fail_10 : decode cX1_fail 10 = .ok (.aload_n 0, 1) := by decide +kernel
theorem dX1_fail_11 : decode cX1_fail 11 = .ok (.getfield 18, 3) := by decide +kernel
theorem dX1_fail_14 : decode cX1_fail 14 = .ok (.getfield 85, 3) := by decide +kernel
theorem dX1_fail_17 : decode cX1_fail 17 = .ok (.arraylength, 1) := by decide +kernel
theorem dX1_fail_18 : decode cX1_fail 18 = .ok (.if_icmp .ge 18, 3) := by decide +kernel
theorem dX1_fail_21 : decode cX1_fail 21 = .ok (.aload_n 0, 1) := by decide +kernel
theorem dX1_fail_22 : decode cX1_fail 22 = .ok (.getfield 18, 3) := by decide +kernel
theorem dX1_fail_25 : decode cX1_fail 25 = .ok (.getfield 85, 3) := by decide +kernel
theorem dX1_fail_28 : decode cX1_fail 28 = .ok (.aload_n 0, 1) := by decide +kernel
theorem dX1_fail_29 : decode cX1_fail 29 = .ok (.getfield 35, 3) := by decide +kernel
theorem dX1_fail_32 : decode cX1_fail 32 = .ok (.iaload, 1) := by decide +kernel
theorem dX1_fail_33 : decode cX1_fail 33 = .ok (.goto 4, 3) := by decide +kernel
theorem dX1_fail_36 : decode cX1_fail 36 = .ok (.iconst (-1), 1) := by decide +kernel
theorem dX1_fail_37 : decode cX1_fail 37 = .ok (.putfield 42, 3) := by decide +kernel
theorem dX1_fail_40 : decode cX1_fail 40 = .ok (.iconst 0, 1) := by decide +kernel
theorem dX1_fail_41 : decode cX1_fail 41 = .ok (.ireturn, 1) := by decide +kernel
theorem dX1_note_0 : decode cX1_note 0 = .ok (.aload_n 0, 1) := by decide +kernel
theorem dX1_note_1 : decode cX1_note 1 = .ok (.getfield 45, 3) := by decide +kernel
theorem dX1_note_4 : decode cX1_note 4 = .ok (.ifCond .ne 43, 3) := by decide +kernel
theorem dX1_note_7 : decode cX1_note 7 = .ok (.aload_n 0, 1) := by decide +kernel
theorem dX1_note_8 : decode cX1_note 8 = .ok (.iload_n 1, 1) := by decide +kernel
theorem dX1_note_9 : decode cX1_note 9 = .ok (.putfield 45, 3) := by decide +kernel
theorem dX1_note_12 : decode cX1_note 12 = .ok (.aload_n 0, 1) := by decide +kernel
theorem dX1_note_13 : decode cX1_note 13 = .ok (.aload_n 0, 1) := by decide +kernel
theorem dX1_note_14 : decode cX1_note 14 = .ok (.getfield 35, 3) := by decide +kernel
theorem dX1_note_17 : decode cX1_note 17 = .ok (.aload_n 0, 1) := by decide +kernel
theorem dX1_note_18 : decode cX1_note 18 = .ok (.getfield 18, 3) := by decide +kernel
theorem dX1_note_21 : decode cX1_note 21 = .ok (.getfield 85, 3) := by decide +kernel
theorem dX1_note_24 : decode cX1_note 24 = .ok (.arraylength, 1) := by decide +kernel
theorem dX1_note_25 : decode cX1_note 25 = .ok (.if_icmp .ge 18, 3) := by decide +kernel
theorem dX1_note_28 : decode cX1_note 28 = .ok (.aload_n 0, 1) := by decide +kernel
theorem dX1_note_29 : decode cX1_note 29 = .ok (.getfield 18, 3) := by decide +kernel
theorem dX1_note_32 : decode cX1_note 32 = .ok (.getfield 85, 3) := by decide +kernel
theorem dX1_note_35 : decode cX1_note 35 = .ok (.aload_n 0, 1) := by decide +kernel
theorem dX1_note_36 : decode cX1_note 36 = .ok (.getfield 35, 3) := by decide +kernel
theorem dX1_note_39 : decode cX1_note 39 = .ok (.iaload, 1) := by decide +kernel
theorem dX1_note_40 : decode cX1_note 40 = .ok (.goto 4, 3) := by decide +kernel
theorem dX1_note_43 : decode cX1_note 43 = .ok (.iconst (-1), 1) := by decide +kernel
theorem dX1_note_44 : decode cX1_note 44 = .ok (.putfield 48, 3) := by decide +kernel
theorem dX1_note_47 : decode cX1_note 47 = .ok (.return_, 1) := by decide +kernel
theorem dX1_step_0 : decode cX1_step 0 = .ok (.aload_n 0, 1) := by decide +kernel
theorem dX1_step_1 : decode cX1_step 1 = .ok (.getfield 35, 3) := by decide +kernel
theorem dX1_step_4 : decode cX1_step 4 = .ok (.sipush 400, 3) := by decide +kernel
theorem dX1_step_7 : decode cX1_step 7 = .ok (.if_icmp .lt 9, 3) := by decide +kernel
theorem dX1_step_10 : decode cX1_step 10 = .ok (.aload_n 0, 1) := by decide +kernel
theorem dX1_step_11 : decode cX1_step 11 = .ok (.iconst 2, 1) := by decide +kernel
theorem dX1_step_12 : decode cX1_step 12 = .ok (.invokevirtual 72, 3) := by decide +kernel
theorem dX1_step_15 : decode cX1_step 15 = .ok (.ireturn, 1) := by decide +kernel
theorem dX1_step_16 : decode cX1_step 16 = .ok (.aload_n 0, 1) := by decide +kernel
theorem dX1_step_17 : decode cX1_step 17 = .ok (.dup, 1) := by decide +kernel
theorem dX1_step_18 : decode cX1_step 18 = .ok (.getfield 35, 3) := by decide +kernel
theorem dX1_step_21 : decode cX1_step 21 = .ok (.iconst 1, 1) := by decide +kernel
theorem dX1_step_22 : decode cX1_step 22 = .ok (.iadd, 1) := by decide +kernel
theorem dX1_step_23 : decode cX1_step 23 = .ok (.putfield 35, 3) := by decide +kernel
theorem dX1_step_26 : decode cX1_step 26 = .ok (.iconst 1, 1) := by decide +kernel
theorem dX1_step_27 : decode cX1_step 27 = .ok (.ireturn, 1) := by decide +kernel
theorem dX1_take_0 : decode cX1_take 0 = .ok (.aload_n 0, 1) := by decide +kernel
theorem dX1_take_1 : decode cX1_take 1 = .ok (.invokevirtual 51, 3) := by decide +kernel
theorem dX1_take_4 : decode cX1_take 4 = .ok (.iload_n 1, 1) := by decide +kernel
theorem dX1_take_5 : decode cX1_take 5 = .ok (.if_icmp .ne 10, 3) := by decide +kernel
theorem dX1_take_8 : decode cX1_take 8 = .ok (.aload_n 0, 1) := by decide +kernel
theorem dX1_take_9 : decode cX1_take 9 = .ok (.invokevirtual 88, 3) := by decide +kernel
theorem dX1_take_12 : decode cX1_take 12 = .ok (.goto 8, 3) := by decide +kernel
theorem dX1_take_15 : decode cX1_take 15 = .ok (.aload_n 0, 1) := by decide +kernel
theorem dX1_take_16 : decode cX1_take 16 = .ok (.iconst 1, 1) := by decide +kernel
theorem dX1_take_17 : decode cX1_take 17 = .ok (.invokevirtual 72, 3) := by decide +kernel
theorem dX1_take_20 : decode cX1_take 20 = .ok (.ireturn, 1) := by decide +kernel
theorem dX1_tellSize_0 : decode cX1_tellSize 0 = .ok (.aload_n 0, 1) := by decide +kernel
theorem dX1_tellSize_1 : decode cX1_tellSize 1 = .ok (.invokevirtual 88, 3) := by decide +kernel
theorem dX1_tellSize_4 : decode cX1_tellSize 4 = .ok (.ifCond .ne 5, 3) := by decide +kernel
theorem dX1_tellSize_7 : decode cX1_tellSize 7 = .ok (.iconst 0, 1) := by decide +kernel
theorem dX1_tellSize_8 : decode cX1_tellSize 8 = .ok (.ireturn, 1) := by decide +kernel
theorem dX1_tellSize_9 : decode cX1_tellSize 9 = .ok (.iload_n 1, 1) := by decide +kernel
theorem dX1_tellSize_10 : decode cX1_tellSize 10 = .ok (.bipush 6, 2) := by decide +kernel
theorem dX1_tellSize_12 : decode cX1_tellSize 12 = .ok (.if_icmp .ne 8, 3) := by decide +kernel
theorem dX1_tellSize_15 : decode cX1_tellSize 15 = .ok (.bipush 8, 2) := by decide +kernel
theorem dX1_tellSize_17 : decode cX1_tellSize 17 = .ok (.goto 15, 3) := by decide +kernel
theorem dX1_tellSize_20 : decode cX1_tellSize 20 = .ok (.iload_n 1, 1) := by decide +kernel
theorem dX1_tellSize_21 : decode cX1_tellSize 21 = .ok (.bipush 7, 2) := by decide +kernel
theorem dX1_tellSize_23 : decode cX1_tellSize 23 = .ok (.if_icmp .ne 8, 3) := by decide +kernel
theorem dX1_tellSize_26 : decode cX1_tellSize 26 = .ok (.bipush 10, 2) := by decide +kernel
theorem dX1_tellSize_28 : decode cX1_tellSize 28 = .ok (.goto 4, 3) := by decide +kernel
theorem dX1_tellSize_31 : decode cX1_tellSize 31 = .ok (.iconst 5, 1) := by decide +kernel
theorem dX1_tellSize_32 : decode cX1_tellSize 32 = .ok (.istore_n 2, 1) := by decide +kernel
theorem dX1_tellSize_33 : decode cX1_tellSize 33 = .ok (.aload_n 0, 1) := by decide +kernel
theorem dX1_tellSize_34 : decode cX1_tellSize 34 = .ok (.iconst 1, 1) := by decide +kernel
theorem dX1_tellSize_35 : decode cX1_tellSize 35 = .ok (.iload_n 2, 1) := by decide +kernel
theorem dX1_tellSize_36 : decode cX1_tellSize 36 = .ok (.invokevirtual 91, 3) := by decide +kernel
theorem dX1_tellSize_39 : decode cX1_tellSize 39 = .ok (.ifCond .ne 5, 3) := by decide +kernel
theorem dX1_tellSize_42 : decode cX1_tellSize 42 = .ok (.iconst 0, 1) := by decide +kernel
theorem dX1_tellSize_43 : decode cX1_tellSize 43 = .ok (.ireturn, 1) := by decide +kernel
theorem dX1_tellSize_44 : decode cX1_tellSize 44 = .ok (.iload_n 1, 1) := by decide +kernel
theorem dX1_tellSize_45 : decode cX1_tellSize 45 = .ok (.bipush 6, 2) := by decide +kernel
theorem dX1_tellSize_47 : decode cX1_tellSize 47 = .ok (.if_icmp .ne 17, 3) := by decide +kernel
theorem dX1_tellSize_50 : decode cX1_tellSize 50 = .ok (.aload_n 0, 1) := by decide +kernel
theorem dX1_tellSize_51 : decode cX1_tellSize 51 = .ok (.getfield 22, 3) := by decide +kernel
theorem dX1_tellSize_54 : decode cX1_tellSize 54 = .ok (.aload_n 0, 1) := by decide +kernel
theorem dX1_tellSize_55 : decode cX1_tellSize 55 = .ok (.getfield 95, 3) := by decide +kernel
theorem dX1_tellSize_58 : decode cX1_tellSize 58 = .ok (.putfield 98, 3) := by decide +kernel
theorem dX1_tellSize_61 : decode cX1_tellSize 61 = .ok (.goto 34, 3) := by decide +kernel
theorem dX1_tellSize_64 : decode cX1_tellSize 64 = .ok (.iload_n 1, 1) := by decide +kernel
theorem dX1_tellSize_65 : decode cX1_tellSize 65 = .ok (.bipush 7, 2) := by decide +kernel
theorem dX1_tellSize_67 : decode cX1_tellSize 67 = .ok (.if_icmp .ne 17, 3) := by decide +kernel
theorem dX1_tellSize_70 : decode cX1_tellSize 70 = .ok (.aload_n 0, 1) := by decide +kernel
theorem dX1_tellSize_71 : decode cX1_tellSize 71 = .ok (.getfield 22, 3) := by decide +kernel
theorem dX1_tellSize_74 : decode cX1_tellSize 74 = .ok (.aload_n 0, 1) := by decide +kernel
theorem dX1_tellSize_75 : decode cX1_tellSize 75 = .ok (.getfield 95, 3) := by decide +kernel
theorem dX1_tellSize_78 : decode cX1_tellSize 78 = .ok (.putfield 101, 3) := by decide +kernel
theorem dX1_tellSize_81 : decode cX1_tellSize 81 = .ok (.goto 14, 3) := by decide +kernel
theorem dX1_tellSize_84 : decode cX1_tellSize 84 = .ok (.aload_n 0, 1) := by decide +kernel
theorem dX1_tellSize_85 : decode cX1_tellSize 85 = .ok (.getfield 22, 3) := by decide +kernel
theorem dX1_tellSize_88 : decode cX1_tellSize 88 = .ok (.aload_n 0, 1) := by decide +kernel
theorem dX1_tellSize_89 : decode cX1_tellSize 89 = .ok (.getfield 95, 3) := by decide +kernel
theorem dX1_tellSize_92 : decode cX1_tellSize 92 = .ok (.putfield 104, 3) := by decide +kernel
theorem dX1_tellSize_95 : decode cX1_tellSize 95 = .ok (.aload_n 0, 1) := by decide +kernel
theorem dX1_tellSize_96 : decode cX1_tellSize 96 = .ok (.bipush 19, 2) := by decide +kernel
theorem dX1_tellSize_98 : decode cX1_tellSize 98 = .ok (.invokevirtual 107, 3) := by decide +kernel
theorem dX1_tellSize_101 : decode cX1_tellSize 101 = .ok (.ireturn, 1) := by decide +kernel
theorem dX1_takeInt_0 : decode cX1_takeInt 0 = .ok (.aload_n 0, 1) := by decide +kernel
theorem dX1_takeInt_1 : decode cX1_takeInt 1 = .ok (.aload_n 0, 1) := by decide +kernel
theorem dX1_takeInt_2 : decode cX1_takeInt 2 = .ok (.invokevirtual 110, 3) := by decide +kernel
theorem dX1_takeInt_5 : decode cX1_takeInt 5 = .ok (.l2i, 1) := by decide +kernel
theorem dX1_takeInt_6 : decode cX1_takeInt 6 = .ok (.putfield 95, 3) := by decide +kernel
theorem dX1_takeInt_9 : decode cX1_takeInt 9 = .ok (.aload_n 0, 1) := by decide +kernel
theorem dX1_takeInt_10 : decode cX1_takeInt 10 = .ok (.invokevirtual 51, 3) := by decide +kernel
theorem dX1_takeInt_13 : decode cX1_takeInt 13 = .ok (.bipush 18, 2) := by decide +kernel
theorem dX1_takeInt_15 : decode cX1_takeInt 15 = .ok (.if_icmp .ne 24, 3) := by decide +kernel
theorem dX1_takeInt_18 : decode cX1_takeInt 18 = .ok (.aload_n 0, 1) := by decide +kernel
theorem dX1_takeInt_19 : decode cX1_takeInt 19 = .ok (.getfield 95, 3) := by decide +kernel
theorem dX1_takeInt_22 : decode cX1_takeInt 22 = .ok (.iload_n 1, 1) := by decide +kernel
theorem dX1_takeInt_23 : decode cX1_takeInt 23 = .ok (.if_icmp .lt 11, 3) := by decide +kernel
theorem dX1_takeInt_26 : decode cX1_takeInt 26 = .ok (.aload_n 0, 1) := by decide +kernel
theorem dX1_takeInt_27 : decode cX1_takeInt 27 = .ok (.getfield 95, 3) := by decide +kernel
theorem dX1_takeInt_30 : decode cX1_takeInt 30 = .ok (.iload_n 2, 1) := by decide +kernel
theorem dX1_takeInt_31 : decode cX1_takeInt 31 = .ok (.if_icmp .le 8, 3) := by decide +kernel
theorem dX1_takeInt_34 : decode cX1_takeInt 34 = .ok (.aload_n 0, 1) := by decide +kernel
theorem dX1_takeInt_35 : decode cX1_takeInt 35 = .ok (.iconst 5, 1) := by decide +kernel
theorem dX1_takeInt_36 : decode cX1_takeInt 36 = .ok (.invokevirtual 114, 3) := by decide +kernel
theorem dX1_takeInt_39 : decode cX1_takeInt 39 = .ok (.aload_n 0, 1) := by decide +kernel
theorem dX1_takeInt_40 : decode cX1_takeInt 40 = .ok (.bipush 18, 2) := by decide +kernel
theorem dX1_takeInt_42 : decode cX1_takeInt 42 = .ok (.invokevirtual 107, 3) := by decide +kernel
theorem dX1_takeInt_45 : decode cX1_takeInt 45 = .ok (.ireturn, 1) := by decide +kernel
theorem dX1_takeSigned_0 : decode cX1_takeSigned 0 = .ok (.aload_n 0, 1) := by decide +kernel
theorem dX1_takeSigned_1 : decode cX1_takeSigned 1 = .ok (.invokevirtual 51, 3) := by decide +kernel
theorem dX1_takeSigned_4 : decode cX1_takeSigned 4 = .ok (.bipush 21, 2) := by decide +kernel
theorem dX1_takeSigned_6 : decode cX1_takeSigned 6 = .ok (.if_icmp .ne 7, 3) := by decide +kernel
theorem dX1_takeSigned_9 : decode cX1_takeSigned 9 = .ok (.iconst 1, 1) := by decide +kernel
theorem dX1_takeSigned_10 : decode cX1_takeSigned 10 = .ok (.goto 4, 3) := by decide +kernel
theorem dX1_takeSigned_13 : decode cX1_takeSigned 13 = .ok (.iconst 0, 1) := by decide +kernel
theorem dX1_takeSigned_14 : decode cX1_takeSigned 14 = .ok (.istore_n 3, 1) := by decide +kernel
theorem dX1_takeSigned_15 : decode cX1_takeSigned 15 = .ok (.iload_n 3, 1) := by decide +kernel
theorem dX1_takeSigned_16 : decode cX1_takeSigned 16 = .ok (.ifCond .eq 12, 3) := by decide +kernel
theorem dX1_takeSigned_19 : decode cX1_takeSigned 19 = .ok (.aload_n 0, 1) := by decide +kernel
theorem dX1_takeSigned_20 : decode cX1_takeSigned 20 = .ok (.invokevirtual 88, 3) := by decide +kernel
theorem dX1_takeSigned_23 : decode cX1_takeSigned 23 = .ok (.ifCond .ne 5, 3) := by decide +kernel
theorem dX1_takeSigned_26 : decode cX1_takeSigned 26 = .ok (.iconst 0, 1) := by decide +kernel
theorem dX1_takeSigned_27 : decode cX1_takeSigned 27 = .ok (.ireturn, 1) := by decide +kernel
theorem dX1_takeSigned_28 : decode cX1_takeSigned 28 = .ok (.aload_n 0, 1) := by decide +kernel
theorem dX1_takeSigned_29 : decode cX1_takeSigned 29 = .ok (.invokevirtual 110, 3) := by decide +kernel
theorem dX1_takeSigned_32 : decode cX1_takeSigned 32 = .ok (.l2i, 1) := by decide +kernel
theorem dX1_takeSigned_33 : decode cX1_takeSigned 33 = .ok (.istore 4, 2) := by decide +kernel
theorem dX1_takeSigned_35 : decode cX1_takeSigned 35 = .ok (.iload_n 3, 1) := by decide +kernel
theorem dX1_takeSigned_36 : decode cX1_takeSigned 36 = .ok (.ifCond .eq 9, 3) := by decide +kernel
theorem dX1_takeSigned_39 : decode cX1_takeSigned 39 = .ok (.iload 4, 2) := by decide +kernel
theorem dX1_takeSigned_41 : decode cX1_takeSigned 41 = .ok (.ineg, 1) := by decide +kernel
theorem dX1_takeSigned_42 : decode cX1_takeSigned 42 = .ok (.goto 5, 3) := by decide +kernel
theorem dX1_takeSigned_45 : decode cX1_takeSigned 45 = .ok (.iload 4, 2) := by decide +kernel
theorem dX1_takeSigned_47 : decode cX1_takeSigned 47 = .ok (.istore 5, 2) := by decide +kernel
theorem dX1_takeSigned_49 : decode cX1_takeSigned 49 = .ok (.aload_n 0, 1) := by decide +kernel
theorem dX1_takeSigned_50 : decode cX1_takeSigned 50 = .ok (.invokevirtual 51, 3) := by decide +kernel
theorem dX1_takeSigned_53 : decode cX1_takeSigned 53 = .ok (.bipush 18, 2) := by decide +kernel
theorem dX1_takeSigned_55 : decode cX1_takeSigned 55 = .ok (.if_icmp .ne 20, 3) := by decide +kernel
theorem dX1_takeSigned_58 : decode cX1_takeSigned 58 = .ok (.iload 4, 2) := by decide +kernel
theorem dX1_takeSigned_60 : decode cX1_takeSigned 60 = .ok (.iload_n 2, 1) := by decide +kernel
theorem dX1_takeSigned_61 : decode cX1_takeSigned 61 = .ok (.if_icmp .gt 9, 3) := by decide +kernel
theorem dX1_takeSigned_64 : decode cX1_takeSigned 64 = .ok (.iload 5, 2) := by decide +kernel
theorem dX1_takeSigned_66 : decode cX1_takeSigned 66 = .ok (.iload_n 1, 1) := by decide +kernel
theorem dX1_takeSigned_67 : decode cX1_takeSigned 67 = .ok (.if_icmp .ge 8, 3) := by decide +kernel
theorem dX1_takeSigned_70 : decode cX1_takeSigned 70 = .ok (.aload_n 0, 1) := by decide +kernel
theorem dX1_takeSigned_71 : decode cX1_takeSigned 71 = .ok (.iconst 5, 1) := by decide +kernel
theorem dX1_takeSigned_72 : decode cX1_takeSigned 72 = .ok (.invokevirtual 114, 3) := by decide +kernel
theorem dX1_takeSigned_75 : decode cX1_takeSigned 75 = .ok (.aload_n 0, 1) := by decide +kernel
theorem dX1_takeSigned_76 : decode cX1_takeSigned 76 = .ok (.iload 5, 2) := by decide +kernel
theorem dX1_takeSigned_78 : decode cX1_takeSigned 78 = .ok (.putfield 95, 3) := by decide +kernel
theorem dX1_takeSigned_81 : decode cX1_takeSigned 81 = .ok (.aload_n 0, 1) := by decide +kernel
theorem dX1_takeSigned_82 : decode cX1_takeSigned 82 = .ok (.bipush 18, 2) := by decide +kernel
theorem dX1_takeSigned_84 : decode cX1_takeSigned 84 = .ok (.invokevirtual 107, 3) := by decide +kernel
theorem dX1_takeSigned_87 : decode cX1_takeSigned 87 = .ok (.ireturn, 1) := by decide +kernel
theorem dX1_tellLaw_0 : decode cX1_tellLaw 0 = .ok (.aload_n 0, 1) := by decide +kernel
theorem dX1_tellLaw_1 : decode cX1_tellLaw 1 = .ok (.invokevirtual 88, 3) := by decide +kernel
theorem dX1_tellLaw_4 : decode cX1_tellLaw 4 = .ok (.ifCond .ne 5, 3) := by decide +kernel
theorem dX1_tellLaw_7 : decode cX1_tellLaw 7 = .ok (.iconst 0, 1) := by decide +kernel
theorem dX1_tellLaw_8 : decode cX1_tellLaw 8 = .ok (.ireturn, 1) := by decide +kernel
theorem dX1_tellLaw_9 : decode cX1_tellLaw 9 = .ok (.aload_n 0, 1) := by decide +kernel
theorem dX1_tellLaw_10 : decode cX1_tellLaw 10 = .ok (.getfield 22, 3) := by decide +kernel
theorem dX1_tellLaw_13 : decode cX1_tellLaw 13 = .ok (.getfield 118, 3) := by decide +kernel
theorem dX1_tellLaw_16 : decode cX1_tellLaw 16 = .ok (.istore_n 2, 1) := by decide +kernel
theorem dX1_tellLaw_17 : decode cX1_tellLaw 17 = .ok (.aload_n 0, 1) := by decide +kernel
theorem dX1_tellLaw_18 : decode cX1_tellLaw 18 = .ok (.invokevirtual 121, 3) := by decide +kernel
theorem dX1_tellLaw_21 : decode cX1_tellLaw 21 = .ok (.ifCond .ne 5, 3) := by decide +kernel
theorem dX1_tellLaw_24 : decode cX1_tellLaw 24 = .ok (.iconst 0, 1) := by decide +kernel
theorem dX1_tellLaw_25 : decode cX1_tellLaw 25 = .ok (.ireturn, 1) := by decide +kernel
theorem dX1_tellLaw_26 : decode cX1_tellLaw 26 = .ok (.aload_n 0, 1) := by decide +kernel
theorem dX1_tellLaw_27 : decode cX1_tellLaw 27 = .ok (.getfield 22, 3) := by decide +kernel
theorem dX1_tellLaw_30 : decode cX1_tellLaw 30 = .ok (.bipush 9, 2) := by decide +kernel
theorem dX1_tellLaw_32 : decode cX1_tellLaw 32 = .ok (.invokevirtual 126, 3) := by decide +kernel
theorem dX1_tellLaw_35 : decode cX1_tellLaw 35 = .ok (.iload_n 1, 1) := by decide +kernel
theorem dX1_tellLaw_36 : decode cX1_tellLaw 36 = .ok (.iconst 2, 1) := by decide +kernel
theorem dX1_tellLaw_37 : decode cX1_tellLaw 37 = .ok (.if_icmp .ne 14, 3) := by decide +kernel
theorem dX1_tellLaw_40 : decode cX1_tellLaw 40 = .ok (.aload_n 0, 1) := by decide +kernel
theorem dX1_tellLaw_41 : decode cX1_tellLaw 41 = .ok (.getfield 22, 3) := by decide +kernel
theorem dX1_tellLaw_44 : decode cX1_tellLaw 44 = .ok (.iload_n 2, 1) := by decide +kernel
theorem dX1_tellLaw_45 : decode cX1_tellLaw 45 = .ok (.putfield 129, 3) := by decide +kernel
theorem dX1_tellLaw_48 : decode cX1_tellLaw 48 = .ok (.goto 11, 3) := by decide +kernel
theorem dX1_tellLaw_51 : decode cX1_tellLaw 51 = .ok (.aload_n 0, 1) := by decide +kernel
theorem dX1_tellLaw_52 : decode cX1_tellLaw 52 = .ok (.getfield 22, 3) := by decide +kernel
theorem dX1_tellLaw_55 : decode cX1_tellLaw 55 = .ok (.iload_n 2, 1) := by decide +kernel
theorem dX1_tellLaw_56 : decode cX1_tellLaw 56 = .ok (.putfield 132, 3) := by decide +kernel
theorem dX1_tellLaw_59 : decode cX1_tellLaw 59 = .ok (.aload_n 0, 1) := by decide +kernel
theorem dX1_tellLaw_60 : decode cX1_tellLaw 60 = .ok (.bipush 19, 2) := by decide +kernel
theorem dX1_tellLaw_62 : decode cX1_tellLaw 62 = .ok (.invokevirtual 107, 3) := by decide +kernel
theorem dX1_tellLaw_65 : decode cX1_tellLaw 65 = .ok (.ireturn, 1) := by decide +kernel
theorem dX1_tellAct_0 : decode cX1_tellAct 0 = .ok (.aload_n 0, 1) := by decide +kernel
theorem dX1_tellAct_1 : decode cX1_tellAct 1 = .ok (.getfield 22, 3) := by decide +kernel
theorem dX1_tellAct_4 : decode cX1_tellAct 4 = .ok (.getfield 135, 3) := by decide +kernel
theorem dX1_tellAct_7 : decode cX1_tellAct 7 = .ok (.bipush 6, 2) := by decide +kernel
theorem dX1_tellAct_9 : decode cX1_tellAct 9 = .ok (.if_icmp .lt 9, 3) := by decide +kernel
theorem dX1_tellAct_12 : decode cX1_tellAct 12 = .ok (.aload_n 0, 1) := by decide +kernel
theorem dX1_tellAct_13 : decode cX1_tellAct 13 = .ok (.iconst 2, 1) := by decide +kernel
theorem dX1_tellAct_14 : decode cX1_tellAct 14 = .ok (.invokevirtual 72, 3) := by decide +kernel
theorem dX1_tellAct_17 : decode cX1_tellAct 17 = .ok (.ireturn, 1) := by decide +kernel
theorem dX1_tellAct_18 : decode cX1_tellAct 18 = .ok (.aload_n 0, 1) := by decide +kernel
theorem dX1_tellAct_19 : decode cX1_tellAct 19 = .ok (.invokevirtual 88, 3) := by decide +kernel
theorem dX1_tellAct_22 : decode cX1_tellAct 22 = .ok (.ifCond .ne 5, 3) := by decide +kernel
theorem dX1_tellAct_25 : decode cX1_tellAct 25 = .ok (.iconst 0, 1) := by decide +kernel
theorem dX1_tellAct_26 : decode cX1_tellAct 26 = .ok (.ireturn, 1) := by decide +kernel
theorem dX1_tellAct_27 : decode cX1_tellAct 27 = .ok (.aload_n 0, 1) := by decide +kernel
theorem dX1_tellAct_28 : decode cX1_tellAct 28 = .ok (.invokevirtual 110, 3) := by decide +kernel
theorem dX1_tellAct_31 : decode cX1_tellAct 31 = .ok (.lstore_n 1, 1) := by decide +kernel
theorem dX1_tellAct_32 : decode cX1_tellAct 32 = .ok (.aload_n 0, 1) := by decide +kernel
theorem dX1_tellAct_33 : decode cX1_tellAct 33 = .ok (.invokevirtual 51, 3) := by decide +kernel
theorem dX1_tellAct_36 : decode cX1_tellAct 36 = .ok (.bipush 17, 2) := by decide +kernel
theorem dX1_tellAct_38 : decode cX1_tellAct 38 = .ok (.if_icmp .ne 20, 3) := by decide +kernel
theorem dX1_tellAct_41 : decode cX1_tellAct 41 = .ok (.aload_n 0, 1) := by decide +kernel
theorem dX1_tellAct_42 : decode cX1_tellAct 42 = .ok (.getfield 22, 3) := by decide +kernel
theorem dX1_tellAct_45 : decode cX1_tellAct 45 = .ok (.lload_n 1, 1) := by decide +kernel
theorem dX1_tellAct_46 : decode cX1_tellAct 46 = .ok (.invokevirtual 138, 3) := by decide +kernel
theorem dX1_tellAct_49 : decode cX1_tellAct 49 = .ok (.iconst (-1), 1) := by decide +kernel
theorem dX1_tellAct_50 : decode cX1_tellAct 50 = .ok (.if_icmp .eq 8, 3) := by decide +kernel
theorem dX1_tellAct_53 : decode cX1_tellAct 53 = .ok (.aload_n 0, 1) := by decide +kernel
theorem dX1_tellAct_54 : decode cX1_tellAct 54 = .ok (.iconst 3, 1) := by decide +kernel
theorem dX1_tellAct_55 : decode cX1_tellAct 55 = .ok (.invokevirtual 114, 3) := by decide +kernel
theorem dX1_tellAct_58 : decode cX1_tellAct 58 = .ok (.aload_n 0, 1) := by decide +kernel
theorem dX1_tellAct_59 : decode cX1_tellAct 59 = .ok (.bipush 17, 2) := by decide +kernel
theorem dX1_tellAct_61 : decode cX1_tellAct 61 = .ok (.invokevirtual 107, 3) := by decide +kernel
theorem dX1_tellAct_64 : decode cX1_tellAct 64 = .ok (.ifCond .eq 14, 3) := by decide +kernel
theorem dX1_tellAct_67 : decode cX1_tellAct 67 = .ok (.aload_n 0, 1) := by decide +kernel
theorem dX1_tellAct_68 : decode cX1_tellAct 68 = .ok (.bipush (-9), 2) := by decide +kernel
theorem dX1_tellAct_70 : decode cX1_tellAct 70 = .ok (.bipush 9, 2) := by decide +kernel
theorem dX1_tellAct_72 : decode cX1_tellAct 72 = .ok (.invokevirtual 142, 3) := by decide +kernel
theorem dX1_tellAct_75 : decode cX1_tellAct 75 = .ok (.ifCond .ne 5, 3) := by decide +kernel
theorem dX1_tellAct_78 : decode cX1_tellAct 78 = .ok (.iconst 0, 1) := by decide +kernel
theorem dX1_tellAct_79 : decode cX1_tellAct 79 = .ok (.ireturn, 1) := by decide +kernel
theorem dX1_tellAct_80 : decode cX1_tellAct 80 = .ok (.aload_n 0, 1) := by decide +kernel
theorem dX1_tellAct_81 : decode cX1_tellAct 81 = .ok (.getfield 95, 3) := by decide +kernel
theorem dX1_tellAct_84 : decode cX1_tellAct 84 = .ok (.istore_n 3, 1) := by decide +kernel
theorem dX1_tellAct_85 : decode cX1_tellAct 85 = .ok (.aload_n 0, 1) := by decide +kernel
theorem dX1_tellAct_86 : decode cX1_tellAct 86 = .ok (.iconst (-1), 1) := by decide +kernel
theorem dX1_tellAct_87 : decode cX1_tellAct 87 = .ok (.iconst 1, 1) := by decide +kernel
theorem dX1_tellAct_88 : decode cX1_tellAct 88 = .ok (.invokevirtual 142, 3) := by decide +kernel
theorem dX1_tellAct_91 : decode cX1_tellAct 91 = .ok (.ifCond .ne 5, 3) := by decide +kernel
theorem dX1_tellAct_94 : decode cX1_tellAct 94 = .ok (.iconst 0, 1) := by decide +kernel
theorem dX1_tellAct_95 : decode cX1_tellAct 95 = .ok (.ireturn, 1) := by decide +kernel
theorem dX1_tellAct_96 : decode cX1_tellAct 96 = .ok (.aload_n 0, 1) := by decide +kernel
theorem dX1_tellAct_97 : decode cX1_tellAct 97 = .ok (.getfield 95, 3) := by decide +kernel
theorem dX1_tellAct_100 : decode cX1_tellAct 100 = .ok (.istore 4, 2) := by decide +kernel
theorem dX1_tellAct_102 : decode cX1_tellAct 102 = .ok (.aload_n 0, 1) := by decide +kernel
theorem dX1_tellAct_103 : decode cX1_tellAct 103 = .ok (.getfield 22, 3) := by decide +kernel
theorem dX1_tellAct_106 : decode cX1_tellAct 106 = .ok (.getfield 118, 3) := by decide +kernel
theorem dX1_tellAct_109 : decode cX1_tellAct 109 = .ok (.istore 5, 2) := by decide +kernel
theorem dX1_tellAct_111 : decode cX1_tellAct 111 = .ok (.aload_n 0, 1) := by decide +kernel
theorem dX1_tellAct_112 : decode cX1_tellAct 112 = .ok (.invokevirtual 51, 3) := by decide +kernel
theorem dX1_tellAct_115 : decode cX1_tellAct 115 = .ok (.bipush 12, 2) := by decide +kernel
theorem dX1_tellAct_117 : decode cX1_tellAct 117 = .ok (.if_icmp .eq 9, 3) := by decide +kernel
theorem dX1_tellAct_120 : decode cX1_tellAct 120 = .ok (.iconst (-1), 1) := by decide +kernel
theorem dX1_tellAct_121 : decode cX1_tellAct 121 = .ok (.istore 5, 2) := by decide +kernel
theorem dX1_tellAct_123 : decode cX1_tellAct 123 = .ok (.goto 19, 3) := by decide +kernel
theorem dX1_tellAct_126 : decode cX1_tellAct 126 = .ok (.aload_n 0, 1) := by decide +kernel
theorem dX1_tellAct_127 : decode cX1_tellAct 127 = .ok (.invokevirtual 88, 3) := by decide +kernel
theorem dX1_tellAct_130 : decode cX1_tellAct 130 = .ok (.ifCond .eq 10, 3) := by decide +kernel
theorem dX1_tellAct_133 : decode cX1_tellAct 133 = .ok (.aload_n 0, 1) := by decide +kernel
theorem dX1_tellAct_134 : decode cX1_tellAct 134 = .ok (.invokevirtual 145, 3) := by decide +kernel
theorem dX1_tellAct_137 : decode cX1_tellAct 137 = .ok (.ifCond .ne 5, 3) := by decide +kernel
theorem dX1_tellAct_140 : decode cX1_tellAct 140 = .ok (.iconst 0, 1) := by decide +kernel
theorem dX1_tellAct_141 : decode cX1_tellAct 141 = .ok (.ireturn, 1) := by decide +kernel
theorem dX1_tellAct_142 : decode cX1_tellAct 142 = .ok (.aload_n 0, 1) := by decide +kernel
theorem dX1_tellAct_143 : decode cX1_tellAct 143 = .ok (.getfield 22, 3) := by decide +kernel
theorem dX1_tellAct_146 : decode cX1_tellAct 146 = .ok (.lload_n 1, 1) := by decide +kernel
theorem dX1_tellAct_147 : decode cX1_tellAct 147 = .ok (.iload_n 3, 1) := by decide +kernel
theorem dX1_tellAct_148 : decode cX1_tellAct 148 = .ok (.iload 4, 2) := by decide +kernel
theorem dX1_tellAct_150 : decode cX1_tellAct 150 = .ok (.iload 5, 2) := by decide +kernel
theorem dX1_tellAct_152 : decode cX1_tellAct 152 = .ok (.invokevirtual 148, 3) := by decide +kernel
theorem dX1_tellAct_155 : decode cX1_tellAct 155 = .ok (.aload_n 0, 1) := by decide +kernel
theorem dX1_tellAct_156 : decode cX1_tellAct 156 = .ok (.bipush 19, 2) := by decide +kernel
theorem dX1_tellAct_158 : decode cX1_tellAct 158 = .ok (.invokevirtual 107, 3) := by decide +kernel
theorem dX1_tellAct_161 : decode cX1_tellAct 161 = .ok (.ireturn, 1) := by decide +kernel
theorem dX1_tellGusts_0 : decode cX1_tellGusts 0 = .ok (.aload_n 0, 1) := by decide +kernel
theorem dX1_tellGusts_1 : decode cX1_tellGusts 1 = .ok (.getfield 22, 3) := by decide +kernel
theorem dX1_tellGusts_4 : decode cX1_tellGusts 4 = .ok (.getfield 152, 3) := by decide +kernel
theorem dX1_tellGusts_7 : decode cX1_tellGusts 7 = .ok (.bipush 8, 2) := by decide +kernel
theorem dX1_tellGusts_9 : decode cX1_tellGusts 9 = .ok (.if_icmp .lt 9, 3) := by decide +kernel
theorem dX1_tellGusts_12 : decode cX1_tellGusts 12 = .ok (.aload_n 0, 1) := by decide +kernel
theorem dX1_tellGusts_13 : decode cX1_tellGusts 13 = .ok (.iconst 2, 1) := by decide +kernel
theorem dX1_tellGusts_14 : decode cX1_tellGusts 14 = .ok (.invokevirtual 72, 3) := by decide +kernel
theorem dX1_tellGusts_17 : decode cX1_tellGusts 17 = .ok (.ireturn, 1) := by decide +kernel
theorem dX1_tellGusts_18 : decode cX1_tellGusts 18 = .ok (.aload_n 0, 1) := by decide +kernel
theorem dX1_tellGusts_19 : decode cX1_tellGusts 19 = .ok (.invokevirtual 88, 3) := by decide +kernel
theorem dX1_tellGusts_22 : decode cX1_tellGusts 22 = .ok (.ifCond .eq 13, 3) := by decide +kernel
theorem dX1_tellGusts_25 : decode cX1_tellGusts 25 = .ok (.aload_n 0, 1) := by decide +kernel
theorem dX1_tellGusts_26 : decode cX1_tellGusts 26 = .ok (.iconst 0, 1) := by decide +kernel
theorem dX1_tellGusts_27 : decode cX1_tellGusts 27 = .ok (.bipush 8, 2) := by decide +kernel
theorem dX1_tellGusts_29 : decode cX1_tellGusts 29 = .ok (.invokevirtual 91, 3) := by decide +kernel
theorem dX1_tellGusts_32 : decode cX1_tellGusts 32 = .ok (.ifCond .ne 5, 3) := by decide +kernel
theorem dX1_tellGusts_35 : decode cX1_tellGusts 35 = .ok (.iconst 0, 1) := by decide +kernel
theorem dX1_tellGusts_36 : decode cX1_tellGusts 36 = .ok (.ireturn, 1) := by decide +kernel
theorem dX1_tellGusts_37 : decode cX1_tellGusts 37 = .ok (.aload_n 0, 1) := by decide +kernel
theorem dX1_tellGusts_38 : decode cX1_tellGusts 38 = .ok (.getfield 95, 3) := by decide +kernel
theorem dX1_tellGusts_41 : decode cX1_tellGusts 41 = .ok (.istore_n 1, 1) := by decide +kernel
theorem dX1_tellGusts_42 : decode cX1_tellGusts 42 = .ok (.aload_n 0, 1) := by decide +kernel
theorem dX1_tellGusts_43 : decode cX1_tellGusts 43 = .ok (.iload_n 1, 1) := by decide +kernel
theorem dX1_tellGusts_44 : decode cX1_tellGusts 44 = .ok (.bipush 8, 2) := by decide +kernel
theorem dX1_tellGusts_46 : decode cX1_tellGusts 46 = .ok (.invokevirtual 91, 3) := by decide +kernel
theorem dX1_tellGusts_49 : decode cX1_tellGusts 49 = .ok (.ifCond .ne 5, 3) := by decide +kernel
theorem dX1_tellGusts_52 : decode cX1_tellGusts 52 = .ok (.iconst 0, 1) := by decide +kernel
theorem dX1_tellGusts_53 : decode cX1_tellGusts 53 = .ok (.ireturn, 1) := by decide +kernel
theorem dX1_tellGusts_54 : decode cX1_tellGusts 54 = .ok (.aload_n 0, 1) := by decide +kernel
theorem dX1_tellGusts_55 : decode cX1_tellGusts 55 = .ok (.getfield 95, 3) := by decide +kernel
theorem dX1_tellGusts_58 : decode cX1_tellGusts 58 = .ok (.istore_n 2, 1) := by decide +kernel
theorem dX1_tellGusts_59 : decode cX1_tellGusts 59 = .ok (.aload_n 0, 1) := by decide +kernel
theorem dX1_tellGusts_60 : decode cX1_tellGusts 60 = .ok (.bipush (-6), 2) := by decide +kernel
theorem dX1_tellGusts_62 : decode cX1_tellGusts 62 = .ok (.bipush 6, 2) := by decide +kernel
theorem dX1_tellGusts_64 : decode cX1_tellGusts 64 = .ok (.invokevirtual 142, 3) := by decide +kernel
theorem dX1_tellGusts_67 : decode cX1_tellGusts 67 = .ok (.ifCond .ne 5, 3) := by decide +kernel
theorem dX1_tellGusts_70 : decode cX1_tellGusts 70 = .ok (.iconst 0, 1) := by decide +kernel
theorem dX1_tellGusts_71 : decode cX1_tellGusts 71 = .ok (.ireturn, 1) := by decide +kernel
theorem dX1_tellGusts_72 : decode cX1_tellGusts 72 = .ok (.aload_n 0, 1) := by decide +kernel
theorem dX1_tellGusts_73 : decode cX1_tellGusts 73 = .ok (.getfield 95, 3) := by decide +kernel
theorem dX1_tellGusts_76 : decode cX1_tellGusts 76 = .ok (.istore_n 3, 1) := by decide +kernel
theorem dX1_tellGusts_77 : decode cX1_tellGusts 77 = .ok (.aload_n 0, 1) := by decide +kernel
theorem dX1_tellGusts_78 : decode cX1_tellGusts 78 = .ok (.iload_n 3, 1) := by decide +kernel
theorem dX1_tellGusts_79 : decode cX1_tellGusts 79 = .ok (.bipush 6, 2) := by decide +kernel
theorem dX1_tellGusts_81 : decode cX1_tellGusts 81 = .ok (.invokevirtual 142, 3) := by decide +kernel
theorem dX1_tellGusts_84 : decode cX1_tellGusts 84 = .ok (.ifCond .ne 5, 3) := by decide +kernel
theorem dX1_tellGusts_87 : decode cX1_tellGusts 87 = .ok (.iconst 0, 1) := by decide +kernel
theorem dX1_tellGusts_88 : decode cX1_tellGusts 88 = .ok (.ireturn, 1) := by decide +kernel
theorem dX1_tellGusts_89 : decode cX1_tellGusts 89 = .ok (.aload_n 0, 1) := by decide +kernel
theorem dX1_tellGusts_90 : decode cX1_tellGusts 90 = .ok (.getfield 95, 3) := by decide +kernel
theorem dX1_tellGusts_93 : decode cX1_tellGusts 93 = .ok (.istore 4, 2) := by decide +kernel
theorem dX1_tellGusts_95 : decode cX1_tellGusts 95 = .ok (.aload_n 0, 1) := by decide +kernel
theorem dX1_tellGusts_96 : decode cX1_tellGusts 96 = .ok (.getfield 22, 3) := by decide +kernel
theorem dX1_tellGusts_99 : decode cX1_tellGusts 99 = .ok (.getfield 118, 3) := by decide +kernel
theorem dX1_tellGusts_102 : decode cX1_tellGusts 102 = .ok (.istore 5, 2) := by decide +kernel
theorem dX1_tellGusts_104 : decode cX1_tellGusts 104 = .ok (.aload_n 0, 1) := by decide +kernel
theorem dX1_tellGusts_105 : decode cX1_tellGusts 105 = .ok (.invokevirtual 51, 3) := by decide +kernel
theorem dX1_tellGusts_108 : decode cX1_tellGusts 108 = .ok (.bipush 12, 2) := by decide +kernel
theorem dX1_tellGusts_110 : decode cX1_tellGusts 110 = .ok (.if_icmp .eq 9, 3) := by decide +kernel
theorem dX1_tellGusts_113 : decode cX1_tellGusts 113 = .ok (.iconst (-1), 1) := by decide +kernel
theorem dX1_tellGusts_114 : decode cX1_tellGusts 114 = .ok (.istore 5, 2) := by decide +kernel
theorem dX1_tellGusts_116 : decode cX1_tellGusts 116 = .ok (.goto 19, 3) := by decide +kernel
theorem dX1_tellGusts_119 : decode cX1_tellGusts 119 = .ok (.aload_n 0, 1) := by decide +kernel
theorem dX1_tellGusts_120 : decode cX1_tellGusts 120 = .ok (.invokevirtual 88, 3) := by decide +kernel
theorem dX1_tellGusts_123 : decode cX1_tellGusts 123 = .ok (.ifCond .eq 10, 3) := by decide +kernel
theorem dX1_tellGusts_126 : decode cX1_tellGusts 126 = .ok (.aload_n 0, 1) := by decide +kernel
theorem dX1_tellGusts_127 : decode cX1_tellGusts 127 = .ok (.invokevirtual 145, 3) := by decide +kernel
theorem dX1_tellGusts_130 : decode cX1_tellGusts 130 = .ok (.ifCond .ne 5, 3) := by decide +kernel
theorem dX1_tellGusts_133 : decode cX1_tellGusts 133 = .ok (.iconst 0, 1) := by decide +kernel
theorem dX1_tellGusts_134 : decode cX1_tellGusts 134 = .ok (.ireturn, 1) := by decide +kernel
theorem dX1_tellGusts_135 : decode cX1_tellGusts 135 = .ok (.aload_n 0, 1) := by decide +kernel
theorem dX1_tellGusts_136 : decode cX1_tellGusts 136 = .ok (.getfield 22, 3) := by decide +kernel
theorem dX1_tellGusts_139 : decode cX1_tellGusts 139 = .ok (.iload_n 1, 1) := by decide +kernel
theorem dX1_tellGusts_140 : decode cX1_tellGusts 140 = .ok (.iload_n 2, 1) := by decide +kernel
theorem dX1_tellGusts_141 : decode cX1_tellGusts 141 = .ok (.iload_n 3, 1) := by decide +kernel
theorem dX1_tellGusts_142 : decode cX1_tellGusts 142 = .ok (.iload 4, 2) := by decide +kernel
theorem dX1_tellGusts_144 : decode cX1_tellGusts 144 = .ok (.iload 5, 2) := by decide +kernel
theorem dX1_tellGusts_146 : decode cX1_tellGusts 146 = .ok (.invokevirtual 155, 3) := by decide +kernel
theorem dX1_tellGusts_149 : decode cX1_tellGusts 149 = .ok (.aload_n 0, 1) := by decide +kernel
theorem dX1_tellGusts_150 : decode cX1_tellGusts 150 = .ok (.bipush 19, 2) := by decide +kernel
theorem dX1_tellGusts_152 : decode cX1_tellGusts 152 = .ok (.invokevirtual 107, 3) := by decide +kernel
theorem dX1_tellGusts_155 : decode cX1_tellGusts 155 = .ok (.ireturn, 1) := by decide +kernel
theorem dX1_tellReflex_0 : decode cX1_tellReflex 0 = .ok (.aload_n 0, 1) := by decide +kernel
theorem dX1_tellReflex_1 : decode cX1_tellReflex 1 = .ok (.getfield 22, 3) := by decide +kernel
theorem dX1_tellReflex_4 : decode cX1_tellReflex 4 = .ok (.getfield 159, 3) := by decide +kernel
theorem dX1_tellReflex_7 : decode cX1_tellReflex 7 = .ok (.bipush 12, 2) := by decide +kernel
theorem dX1_tellReflex_9 : decode cX1_tellReflex 9 = .ok (.if_icmp .lt 9, 3) := by decide +kernel
theorem dX1_tellReflex_12 : decode cX1_tellReflex 12 = .ok (.aload_n 0, 1) := by decide +kernel
theorem dX1_tellReflex_13 : decode cX1_tellReflex 13 = .ok (.iconst 2, 1) := by decide +kernel
theorem dX1_tellReflex_14 : decode cX1_tellReflex 14 = .ok (.invokevirtual 72, 3) := by decide +kernel
theorem dX1_tellReflex_17 : decode cX1_tellReflex 17 = .ok (.ireturn, 1) := by decide +kernel
theorem dX1_tellReflex_18 : decode cX1_tellReflex 18 = .ok (.aload_n 0, 1) := by decide +kernel
theorem dX1_tellReflex_19 : decode cX1_tellReflex 19 = .ok (.invokevirtual 88, 3) := by decide +kernel
theorem dX1_tellReflex_22 : decode cX1_tellReflex 22 = .ok (.ifCond .ne 5, 3) := by decide +kernel
theorem dX1_tellReflex_25 : decode cX1_tellReflex 25 = .ok (.iconst 0, 1) := by decide +kernel
theorem dX1_tellReflex_26 : decode cX1_tellReflex 26 = .ok (.ireturn, 1) := by decide +kernel
theorem dX1_tellReflex_27 : decode cX1_tellReflex 27 = .ok (.aload_n 0, 1) := by decide +kernel
theorem dX1_tellReflex_28 : decode cX1_tellReflex 28 = .ok (.getfield 22, 3) := by decide +kernel
theorem dX1_tellReflex_31 : decode cX1_tellReflex 31 = .ok (.getfield 118, 3) := by decide +kernel
theorem dX1_tellReflex_34 : decode cX1_tellReflex 34 = .ok (.istore_n 1, 1) := by decide +kernel
theorem dX1_tellReflex_35 : decode cX1_tellReflex 35 = .ok (.aload_n 0, 1) := by decide +kernel
theorem dX1_tellReflex_36 : decode cX1_tellReflex 36 = .ok (.invokevirtual 145, 3) := by decide +kernel
theorem dX1_tellReflex_39 : decode cX1_tellReflex 39 = .ok (.ifCond .eq 12, 3) := by decide +kernel
theorem dX1_tellReflex_42 : decode cX1_tellReflex 42 = .ok (.aload_n 0, 1) := by decide +kernel
theorem dX1_tellReflex_43 : decode cX1_tellReflex 43 = .ok (.bipush 13, 2) := by decide +kernel
theorem dX1_tellReflex_45 : decode cX1_tellReflex 45 = .ok (.invokevirtual 107, 3) := by decide +kernel
theorem dX1_tellReflex_48 : decode cX1_tellReflex 48 = .ok (.ifCond .ne 5, 3) := by decide +kernel
theorem dX1_tellReflex_51 : decode cX1_tellReflex 51 = .ok (.iconst 0, 1) := by decide +kernel
theorem dX1_tellReflex_52 : decode cX1_tellReflex 52 = .ok (.ireturn, 1) := by decide +kernel
theorem dX1_tellReflex_53 : decode cX1_tellReflex 53 = .ok (.aload_n 0, 1) := by decide +kernel
theorem dX1_tellReflex_54 : decode cX1_tellReflex 54 = .ok (.getfield 22, 3) := by decide +kernel
theorem dX1_tellReflex_57 : decode cX1_tellReflex 57 = .ok (.aload_n 0, 1) := by decide +kernel
theorem dX1_tellReflex_58 : decode cX1_tellReflex 58 = .ok (.invokevirtual 110, 3) := by decide +kernel
theorem dX1_tellReflex_61 : decode cX1_tellReflex 61 = .ok (.invokevirtual 138, 3) := by decide +kernel
theorem dX1_tellReflex_64 : decode cX1_tellReflex 64 = .ok (.istore_n 2, 1) := by decide +kernel
theorem dX1_tellReflex_65 : decode cX1_tellReflex 65 = .ok (.aload_n 0, 1) := by decide +kernel
theorem dX1_tellReflex_66 : decode cX1_tellReflex 66 = .ok (.invokevirtual 51, 3) := by decide +kernel
theorem dX1_tellReflex_69 : decode cX1_tellReflex 69 = .ok (.bipush 17, 2) := by decide +kernel
theorem dX1_tellReflex_71 : decode cX1_tellReflex 71 = .ok (.if_icmp .ne 13, 3) := by decide +kernel
theorem dX1_tellReflex_74 : decode cX1_tellReflex 74 = .ok (.iload_n 2, 1) := by decide +kernel
theorem dX1_tellReflex_75 : decode cX1_tellReflex 75 = .ok (.iconst (-1), 1) := by decide +kernel
theorem dX1_tellReflex_76 : decode cX1_tellReflex 76 = .ok (.if_icmp .ne 8, 3) := by decide +kernel
theorem dX1_tellReflex_79 : decode cX1_tellReflex 79 = .ok (.aload_n 0, 1) := by decide +kernel
theorem dX1_tellReflex_80 : decode cX1_tellReflex 80 = .ok (.iconst 4, 1) := by decide +kernel
theorem dX1_tellReflex_81 : decode cX1_tellReflex 81 = .ok (.invokevirtual 114, 3) := by decide +kernel
theorem dX1_tellReflex_84 : decode cX1_tellReflex 84 = .ok (.aload_n 0, 1) := by decide +kernel
theorem dX1_tellReflex_85 : decode cX1_tellReflex 85 = .ok (.bipush 17, 2) := by decide +kernel
theorem dX1_tellReflex_87 : decode cX1_tellReflex 87 = .ok (.invokevirtual 107, 3) := by decide +kernel
theorem dX1_tellReflex_90 : decode cX1_tellReflex 90 = .ok (.ifCond .ne 5, 3) := by decide +kernel
theorem dX1_tellReflex_93 : decode cX1_tellReflex 93 = .ok (.iconst 0, 1) := by decide +kernel
theorem dX1_tellReflex_94 : decode cX1_tellReflex 94 = .ok (.ireturn, 1) := by decide +kernel
theorem dX1_tellReflex_95 : decode cX1_tellReflex 95 = .ok (.aload_n 0, 1) := by decide +kernel
theorem dX1_tellReflex_96 : decode cX1_tellReflex 96 = .ok (.getfield 22, 3) := by decide +kernel
theorem dX1_tellReflex_99 : decode cX1_tellReflex 99 = .ok (.iload_n 1, 1) := by decide +kernel
theorem dX1_tellReflex_100 : decode cX1_tellReflex 100 = .ok (.iload_n 2, 1) := by decide +kernel
theorem dX1_tellReflex_101 : decode cX1_tellReflex 101 = .ok (.invokevirtual 162, 3) := by decide +kernel
theorem dX1_tellReflex_104 : decode cX1_tellReflex 104 = .ok (.aload_n 0, 1) := by decide +kernel
theorem dX1_tellReflex_105 : decode cX1_tellReflex 105 = .ok (.bipush 19, 2) := by decide +kernel
theorem dX1_tellReflex_107 : decode cX1_tellReflex 107 = .ok (.invokevirtual 107, 3) := by decide +kernel
theorem dX1_tellReflex_110 : decode cX1_tellReflex 110 = .ok (.ireturn, 1) := by decide +kernel
theorem dX1_condition_0 : decode cX1_condition 0 = .ok (.iconst 1, 1) := by decide +kernel
theorem dX1_condition_1 : decode cX1_condition 1 = .ok (.istore_n 1, 1) := by decide +kernel
theorem dX1_condition_2 : decode cX1_condition 2 = .ok (.iconst 0, 1) := by decide +kernel
theorem dX1_condition_3 : decode cX1_condition 3 = .ok (.istore_n 2, 1) := by decide +kernel
theorem dX1_condition_4 : decode cX1_condition 4 = .ok (.iload_n 2, 1) := by decide +kernel
theorem dX1_condition_5 : decode cX1_condition 5 = .ok (.sipush 400, 3) := by decide +kernel
theorem dX1_condition_8 : decode cX1_condition 8 = .ok (.if_icmp .gt 77, 3) := by decide +kernel
theorem dX1_condition_11 : decode cX1_condition 11 = .ok (.iload_n 1, 1) := by decide +kernel
theorem dX1_condition_12 : decode cX1_condition 12 = .ok (.ifCond .eq 73, 3) := by decide +kernel
theorem dX1_condition_15 : decode cX1_condition 15 = .ok (.aload_n 0, 1) := by decide +kernel
theorem dX1_condition_16 : decode cX1_condition 16 = .ok (.invokevirtual 166, 3) := by decide +kernel
theorem dX1_condition_19 : decode cX1_condition 19 = .ok (.ifCond .ne 5, 3) := by decide +kernel
theorem dX1_condition_22 : decode cX1_condition 22 = .ok (.iconst 0, 1) := by decide +kernel
theorem dX1_condition_23 : decode cX1_condition 23 = .ok (.ireturn, 1) := by decide +kernel
theorem dX1_condition_24 : decode cX1_condition 24 = .ok (.aload_n 0, 1) := by decide +kernel
theorem dX1_condition_25 : decode cX1_condition 25 = .ok (.invokevirtual 51, 3) := by decide +kernel
theorem dX1_condition_28 : decode cX1_condition 28 = .ok (.bipush 15, 2) := by decide +kernel
theorem dX1_condition_30 : decode cX1_condition 30 = .ok (.if_icmp .eq 12, 3) := by decide +kernel
theorem dX1_condition_33 : decode cX1_condition 33 = .ok (.aload_n 0, 1) := by decide +kernel
theorem dX1_condition_34 : decode cX1_condition 34 = .ok (.invokevirtual 51, 3) := by decide +kernel
theorem dX1_condition_37 : decode cX1_condition 37 = .ok (.bipush 14, 2) := by decide +kernel
theorem dX1_condition_39 : decode cX1_condition 39 = .ok (.if_icmp .ne 7, 3) := by decide +kernel
theorem dX1_condition_42 : decode cX1_condition 42 = .ok (.iconst 1, 1) := by decide +kernel
theorem dX1_condition_43 : decode cX1_condition 43 = .ok (.goto 4, 3) := by decide +kernel
theorem dX1_condition_46 : decode cX1_condition 46 = .ok (.iconst 0, 1) := by decide +kernel
theorem dX1_condition_47 : decode cX1_condition 47 = .ok (.istore_n 1, 1) := by decide +kernel
theorem dX1_condition_48 : decode cX1_condition 48 = .ok (.aload_n 0, 1) := by decide +kernel
theorem dX1_condition_49 : decode cX1_condition 49 = .ok (.invokevirtual 51, 3) := by decide +kernel
theorem dX1_condition_52 : decode cX1_condition 52 = .ok (.bipush 14, 2) := by decide +kernel
theorem dX1_condition_54 : decode cX1_condition 54 = .ok (.if_icmp .ne 12, 3) := by decide +kernel
theorem dX1_condition_57 : decode cX1_condition 57 = .ok (.aload_n 0, 1) := by decide +kernel
theorem dX1_condition_58 : decode cX1_condition 58 = .ok (.getfield 22, 3) := by decide +kernel
theorem dX1_condition_61 : decode cX1_condition 61 = .ok (.bipush 8, 2) := by decide +kernel
theorem dX1_condition_63 : decode cX1_condition 63 = .ok (.invokevirtual 126, 3) := by decide +kernel
theorem dX1_condition_66 : decode cX1_condition 66 = .ok (.iload_n 1, 1) := by decide +kernel
theorem dX1_condition_67 : decode cX1_condition 67 = .ok (.ifCond .eq 12, 3) := by decide +kernel
theorem dX1_condition_70 : decode cX1_condition 70 = .ok (.aload_n 0, 1) := by decide +kernel
theorem dX1_condition_71 : decode cX1_condition 71 = .ok (.invokevirtual 88, 3) := by decide +kernel
theorem dX1_condition_74 : decode cX1_condition 74 = .ok (.ifCond .ne 5, 3) := by decide +kernel
theorem dX1_condition_77 : decode cX1_condition 77 = .ok (.iconst 0, 1) := by decide +kernel
theorem dX1_condition_78 : decode cX1_condition 78 = .ok (.ireturn, 1) := by decide +kernel
theorem dX1_condition_79 : decode cX1_condition 79 = .ok (.iinc 2 1, 3) := by decide +kernel
theorem dX1_condition_82 : decode cX1_condition 82 = .ok (.goto (-78), 3) := by decide +kernel
theorem dX1_condition_85 : decode cX1_condition 85 = .ok (.aload_n 0, 1) := by decide +kernel
theorem dX1_condition_86 : decode cX1_condition 86 = .ok (.getfield 22, 3) := by decide +kernel
theorem dX1_condition_89 : decode cX1_condition 89 = .ok (.bipush 9, 2) := by decide +kernel
theorem dX1_condition_91 : decode cX1_condition 91 = .ok (.invokevirtual 126, 3) := by decide +kernel
theorem dX1_condition_94 : decode cX1_condition 94 = .ok (.iconst 1, 1) := by decide +kernel
theorem dX1_condition_95 : decode cX1_condition 95 = .ok (.ireturn, 1) := by decide +kernel
theorem dX1_literal_0 : decode cX1_literal 0 = .ok (.iconst 0, 1) := by decide +kernel
theorem dX1_literal_1 : decode cX1_literal 1 = .ok (.istore_n 1, 1) := by decide +kernel
theorem dX1_literal_2 : decode cX1_literal 2 = .ok (.iconst 0, 1) := by decide +kernel
theorem dX1_literal_3 : decode cX1_literal 3 = .ok (.istore_n 2, 1) := by decide +kernel
theorem dX1_literal_4 : decode cX1_literal 4 = .ok (.iload_n 2, 1) := by decide +kernel
theorem dX1_literal_5 : decode cX1_literal 5 = .ok (.sipush 400, 3) := by decide +kernel
theorem dX1_literal_8 : decode cX1_literal 8 = .ok (.if_icmp .gt 31, 3) := by decide +kernel
theorem dX1_literal_11 : decode cX1_literal 11 = .ok (.aload_n 0, 1) := by decide +kernel
theorem dX1_literal_12 : decode cX1_literal 12 = .ok (.invokevirtual 51, 3) := by decide +kernel
theorem dX1_literal_15 : decode cX1_literal 15 = .ok (.bipush 16, 2) := by decide +kernel
theorem dX1_literal_17 : decode cX1_literal 17 = .ok (.if_icmp .ne 22, 3) := by decide +kernel
theorem dX1_literal_20 : decode cX1_literal 20 = .ok (.iconst 1, 1) := by decide +kernel
theorem dX1_literal_21 : decode cX1_literal 21 = .ok (.iload_n 1, 1) := by decide +kernel
theorem dX1_literal_22 : decode cX1_literal 22 = .ok (.isub, 1) := by decide +kernel
theorem dX1_literal_23 : decode cX1_literal 23 = .ok (.istore_n 1, 1) := by decide +kernel
theorem dX1_literal_24 : decode cX1_literal 24 = .ok (.aload_n 0, 1) := by decide +kernel
theorem dX1_literal_25 : decode cX1_literal 25 = .ok (.invokevirtual 88, 3) := by decide +kernel
theorem dX1_literal_28 : decode cX1_literal 28 = .ok (.ifCond .ne 5, 3) := by decide +kernel
theorem dX1_literal_31 : decode cX1_literal 31 = .ok (.iconst 0, 1) := by decide +kernel
theorem dX1_literal_32 : decode cX1_literal 32 = .ok (.ireturn, 1) := by decide +kernel
theorem dX1_literal_33 : decode cX1_literal 33 = .ok (.iinc 2 1, 3) := by decide +kernel
theorem dX1_literal_36 : decode cX1_literal 36 = .ok (.goto (-32), 3) := by decide +kernel
theorem dX1_literal_39 : decode cX1_literal 39 = .ok (.aload_n 0, 1) := by decide +kernel
theorem dX1_literal_40 : decode cX1_literal 40 = .ok (.invokevirtual 121, 3) := by decide +kernel
theorem dX1_literal_43 : decode cX1_literal 43 = .ok (.ifCond .ne 5, 3) := by decide +kernel
theorem dX1_literal_46 : decode cX1_literal 46 = .ok (.iconst 0, 1) := by decide +kernel
theorem dX1_literal_47 : decode cX1_literal 47 = .ok (.ireturn, 1) := by decide +kernel
theorem dX1_literal_48 : decode cX1_literal 48 = .ok (.aload_n 0, 1) := by decide +kernel
theorem dX1_literal_49 : decode cX1_literal 49 = .ok (.invokevirtual 51, 3) := by decide +kernel
theorem dX1_literal_52 : decode cX1_literal 52 = .ok (.bipush 24, 2) := by decide +kernel
theorem dX1_literal_54 : decode cX1_literal 54 = .ok (.isub, 1) := by decide +kernel
theorem dX1_literal_55 : decode cX1_literal 55 = .ok (.istore_n 2, 1) := by decide +kernel
theorem dX1_literal_56 : decode cX1_literal 56 = .ok (.iload_n 2, 1) := by decide +kernel
theorem dX1_literal_57 : decode cX1_literal 57 = .ok (.ifCond .lt 8, 3) := by decide +kernel
theorem dX1_literal_60 : decode cX1_literal 60 = .ok (.iload_n 2, 1) := by decide +kernel
theorem dX1_literal_61 : decode cX1_literal 61 = .ok (.iconst 3, 1) := by decide +kernel
theorem dX1_literal_62 : decode cX1_literal 62 = .ok (.if_icmp .le 9, 3) := by decide +kernel
theorem dX1_literal_65 : decode cX1_literal 65 = .ok (.aload_n 0, 1) := by decide +kernel
theorem dX1_literal_66 : decode cX1_literal 66 = .ok (.iconst 1, 1) := by decide +kernel
theorem dX1_literal_67 : decode cX1_literal 67 = .ok (.invokevirtual 72, 3) := by decide +kernel
theorem dX1_literal_70 : decode cX1_literal 70 = .ok (.ireturn, 1) := by decide +kernel
theorem dX1_literal_71 : decode cX1_literal 71 = .ok (.aload_n 0, 1) := by decide +kernel
theorem dX1_literal_72 : decode cX1_literal 72 = .ok (.invokevirtual 88, 3) := by decide +kernel
theorem dX1_literal_75 : decode cX1_literal 75 = .ok (.ifCond .eq 10, 3) := by decide +kernel
theorem dX1_literal_78 : decode cX1_literal 78 = .ok (.aload_n 0, 1) := by decide +kernel
theorem dX1_literal_79 : decode cX1_literal 79 = .ok (.invokevirtual 121, 3) := by decide +kernel
theorem dX1_literal_82 : decode cX1_literal 82 = .ok (.ifCond .ne 5, 3) := by decide +kernel
theorem dX1_literal_85 : decode cX1_literal 85 = .ok (.iconst 0, 1) := by decide +kernel
theorem dX1_literal_86 : decode cX1_literal 86 = .ok (.ireturn, 1) := by decide +kernel
theorem dX1_literal_87 : decode cX1_literal 87 = .ok (.aload_n 0, 1) := by decide +kernel
theorem dX1_literal_88 : decode cX1_literal 88 = .ok (.getfield 22, 3) := by decide +kernel
theorem dX1_literal_91 : decode cX1_literal 91 = .ok (.iload_n 2, 1) := by decide +kernel
theorem dX1_literal_92 : decode cX1_literal 92 = .ok (.iconst 2, 1) := by decide +kernel
theorem dX1_literal_93 : decode cX1_literal 93 = .ok (.imul, 1) := by decide +kernel
theorem dX1_literal_94 : decode cX1_literal 94 = .ok (.iload_n 1, 1) := by decide +kernel
theorem dX1_literal_95 : decode cX1_literal 95 = .ok (.iadd, 1) := by decide +kernel
theorem dX1_literal_96 : decode cX1_literal 96 = .ok (.bipush 16, 2) := by decide +kernel
theorem dX1_literal_98 : decode cX1_literal 98 = .ok (.imul, 1) := by decide +kernel
theorem dX1_literal_99 : decode cX1_literal 99 = .ok (.bipush 7, 2) := by decide +kernel
theorem dX1_literal_101 : decode cX1_literal 101 = .ok (.iadd, 1) := by decide +kernel
theorem dX1_literal_102 : decode cX1_literal 102 = .ok (.invokevirtual 126, 3) := by decide +kernel
theorem dX1_literal_105 : decode cX1_literal 105 = .ok (.iconst 1, 1) := by decide +kernel
theorem dX1_literal_106 : decode cX1_literal 106 = .ok (.ireturn, 1) := by decide +kernel
theorem dX1_expression_0 : decode cX1_expression 0 = .ok (.aload_n 0, 1) := by decide +kernel
theorem dX1_expression_1 : decode cX1_expression 1 = .ok (.iconst 0, 1) := by decide +kernel
theorem dX1_expression_2 : decode cX1_expression 2 = .ok (.putfield 169, 3) := by decide +kernel
theorem dX1_expression_5 : decode cX1_expression 5 = .ok (.iconst 0, 1) := by decide +kernel
theorem dX1_expression_6 : decode cX1_expression 6 = .ok (.istore_n 1, 1) := by decide +kernel
theorem dX1_expression_7 : decode cX1_expression 7 = .ok (.iconst 1, 1) := by decide +kernel
theorem dX1_expression_8 : decode cX1_expression 8 = .ok (.istore_n 2, 1) := by decide +kernel
theorem dX1_expression_9 : decode cX1_expression 9 = .ok (.iconst 0, 1) := by decide +kernel
theorem dX1_expression_10 : decode cX1_expression 10 = .ok (.istore_n 3, 1) := by decide +kernel
theorem dX1_expression_11 : decode cX1_expression 11 = .ok (.iload_n 3, 1) := by decide +kernel
theorem dX1_expression_12 : decode cX1_expression 12 = .ok (.sipush 400, 3) := by decide +kernel
theorem dX1_expression_15 : decode cX1_expression 15 = .ok (.if_icmp .gt 208, 3) := by decide +kernel
theorem dX1_expression_18 : decode cX1_expression 18 = .ok (.aload_n 0, 1) := by decide +kernel
theorem dX1_expression_19 : decode cX1_expression 19 = .ok (.invokevirtual 51, 3) := by decide +kernel
theorem dX1_expression_22 : decode cX1_expression 22 = .ok (.istore 4, 2) := by decide +kernel
theorem dX1_expression_24 : decode cX1_expression 24 = .ok (.iload_n 2, 1) := by decide +kernel
theorem dX1_expression_25 : decode cX1_expression 25 = .ok (.ifCond .eq 28, 3) := by decide +kernel
theorem dX1_expression_28 : decode cX1_expression 28 = .ok (.iload 4, 2) := by decide +kernel
theorem dX1_expression_30 : decode cX1_expression 30 = .ok (.bipush 18, 2) := by decide +kernel
theorem dX1_expression_32 : decode cX1_expression 32 = .ok (.if_icmp .eq 10, 3) := by decide +kernel
theorem dX1_expression_35 : decode cX1_expression 35 = .ok (.iload 4, 2) := by decide +kernel
theorem dX1_expression_37 : decode cX1_expression 37 = .ok (.bipush 6, 2) := by decide +kernel
theorem dX1_expression_39 : decode cX1_expression 39 = .ok (.if_icmp .ge 14, 3) := by decide +kernel
theorem dX1_expression_42 : decode cX1_expression 42 = .ok (.aload_n 0, 1) := by decide +kernel
theorem dX1_expression_43 : decode cX1_expression 43 = .ok (.iload 4, 2) := by decide +kernel
theorem dX1_expression_45 : decode cX1_expression 45 = .ok (.invokevirtual 172, 3) := by decide +kernel
theorem dX1_expression_48 : decode cX1_expression 48 = .ok (.iconst 0, 1) := by decide +kernel
theorem dX1_expression_49 : decode cX1_expression 49 = .ok (.istore_n 2, 1) := by decide +kernel
theorem dX1_expression_50 : decode cX1_expression 50 = .ok (.goto 158, 3) := by decide +kernel
theorem dX1_expression_53 : decode cX1_expression 53 = .ok (.iload_n 2, 1) := by decide +kernel
theorem dX1_expression_54 : decode cX1_expression 54 = .ok (.ifCond .eq 18, 3) := by decide +kernel
theorem dX1_expression_57 : decode cX1_expression 57 = .ok (.iload 4, 2) := by decide +kernel
theorem dX1_expression_59 : decode cX1_expression 59 = .ok (.bipush 21, 2) := by decide +kernel
theorem dX1_expression_61 : decode cX1_expression 61 = .ok (.if_icmp .ne 11, 3) := by decide +kernel
theorem dX1_expression_64 : decode cX1_expression 64 = .ok (.aload_n 0, 1) := by decide +kernel
theorem dX1_expression_65 : decode cX1_expression 65 = .ok (.iconst 2, 1) := by decide +kernel
theorem dX1_expression_66 : decode cX1_expression 66 = .ok (.invokevirtual 175, 3) := by decide +kernel
theorem dX1_expression_69 : decode cX1_expression 69 = .ok (.goto 139, 3) := by decide +kernel
theorem dX1_expression_72 : decode cX1_expression 72 = .ok (.iload_n 2, 1) := by decide +kernel
theorem dX1_expression_73 : decode cX1_expression 73 = .ok (.ifCond .eq 34, 3) := by decide +kernel
theorem dX1_expression_76 : decode cX1_expression 76 = .ok (.iload 4, 2) := by decide +kernel
theorem dX1_expression_78 : decode cX1_expression 78 = .ok (.bipush 28, 2) := by decide +kernel
theorem dX1_expression_80 : decode cX1_expression 80 = .ok (.if_icmp .ne 27, 3) := by decide +kernel
theorem dX1_expression_83 : decode cX1_expression 83 = .ok (.iload_n 1, 1) := by decide +kernel
theorem dX1_expression_84 : decode cX1_expression 84 = .ok (.bipush 6, 2) := by decide +kernel
theorem dX1_expression_86 : decode cX1_expression 86 = .ok (.if_icmp .lt 9, 3) := by decide +kernel
theorem dX1_expression_89 : decode cX1_expression 89 = .ok (.aload_n 0, 1) := by decide +kernel
theorem dX1_expression_90 : decode cX1_expression 90 = .ok (.iconst 2, 1) := by decide +kernel
theorem dX1_expression_91 : decode cX1_expression 91 = .ok (.invokevirtual 72, 3) := by decide +kernel
theorem dX1_expression_94 : decode cX1_expression 94 = .ok (.ireturn, 1) := by decide +kernel
theorem dX1_expression_95 : decode cX1_expression 95 = .ok (.iinc 1 1, 3) := by decide +kernel
theorem dX1_expression_98 : decode cX1_expression 98 = .ok (.aload_n 0, 1) := by decide +kernel
theorem dX1_expression_99 : decode cX1_expression 99 = .ok (.bipush 10, 2) := by decide +kernel
theorem dX1_expression_101 : decode cX1_expression 101 = .ok (.invokevirtual 175, 3) := by decide +kernel
theorem dX1_expression_104 : decode cX1_expression 104 = .ok (.goto 104, 3) := by decide +kernel
theorem dX1_expression_107 : decode cX1_expression 107 = .ok (.iload_n 2, 1) := by decide +kernel
theorem dX1_expression_108 : decode cX1_expression 108 = .ok (.ifCond .eq 9, 3) := by decide +kernel
theorem dX1_expression_111 : decode cX1_expression 111 = .ok (.aload_n 0, 1) := by decide +kernel
theorem dX1_expression_112 : decode cX1_expression 112 = .ok (.iconst 1, 1) := by decide +kernel
theorem dX1_expression_113 : decode cX1_expression 113 = .ok (.invokevirtual 72, 3) := by decide +kernel
theorem dX1_expression_116 : decode cX1_expression 116 = .ok (.ireturn, 1) := by decide +kernel
theorem dX1_expression_117 : decode cX1_expression 117 = .ok (.iload 4, 2) := by decide +kernel
theorem dX1_expression_119 : decode cX1_expression 119 = .ok (.bipush 20, 2) := by decide +kernel
theorem dX1_expression_121 : decode cX1_expression 121 = .ok (.if_icmp .lt 36, 3) := by decide +kernel
theorem dX1_expression_124 : decode cX1_expression 124 = .ok (.iload 4, 2) := by decide +kernel
theorem dX1_expression_126 : decode cX1_expression 126 = .ok (.bipush 23, 2) := by decide +kernel
theorem dX1_expression_128 : decode cX1_expression 128 = .ok (.if_icmp .gt 29, 3) := by decide +kernel
theorem dX1_expression_131 : decode cX1_expression 131 = .ok (.iload 4, 2) := by decide +kernel
theorem dX1_expression_133 : decode cX1_expression 133 = .ok (.bipush 20, 2) := by decide +kernel
theorem dX1_expression_135 : decode cX1_expression 135 = .ok (.isub, 1) := by decide +kernel
theorem dX1_expression_136 : decode cX1_expression 136 = .ok (.iconst 3, 1) := by decide +kernel
theorem dX1_expression_137 : decode cX1_expression 137 = .ok (.iadd, 1) := by decide +kernel
theorem dX1_expression_138 : decode cX1_expression 138 = .ok (.istore 5, 2) := by decide +kernel
theorem dX1_expression_140 : decode cX1_expression 140 = .ok (.aload_n 0, 1) := by decide +kernel
theorem dX1_expression_141 : decode cX1_expression 141 = .ok (.iload 5, 2) := by decide +kernel
theorem dX1_expression_143 : decode cX1_expression 143 = .ok (.invokevirtual 178, 3) := by decide +kernel
theorem dX1_expression_146 : decode cX1_expression 146 = .ok (.aload_n 0, 1) := by decide +kernel
theorem dX1_expression_147 : decode cX1_expression 147 = .ok (.iload 5, 2) := by decide +kernel
theorem dX1_expression_149 : decode cX1_expression 149 = .ok (.invokevirtual 175, 3) := by decide +kernel
theorem dX1_expression_152 : decode cX1_expression 152 = .ok (.iconst 1, 1) := by decide +kernel
theorem dX1_expression_153 : decode cX1_expression 153 = .ok (.istore_n 2, 1) := by decide +kernel
theorem dX1_expression_154 : decode cX1_expression 154 = .ok (.goto 54, 3) := by decide +kernel
theorem dX1_expression_157 : decode cX1_expression 157 = .ok (.iload 4, 2) := by decide +kernel
theorem dX1_expression_159 : decode cX1_expression 159 = .ok (.bipush 29, 2) := by decide +kernel
theorem dX1_expression_161 : decode cX1_expression 161 = .ok (.if_icmp .ne 29, 3) := by decide +kernel
theorem dX1_expression_164 : decode cX1_expression 164 = .ok (.iload_n 1, 1) := by decide +kernel
theorem dX1_expression_165 : decode cX1_expression 165 = .ok (.ifCond .le 25, 3) := by decide +kernel
theorem dX1_expression_168 : decode cX1_expression 168 = .ok (.aload_n 0, 1) := by decide +kernel
theorem dX1_expression_169 : decode cX1_expression 169 = .ok (.bipush 10, 2) := by decide +kernel
theorem dX1_expression_171 : decode cX1_expression 171 = .ok (.invokevirtual 178, 3) := by decide +kernel
theorem dX1_expression_174 : decode cX1_expression 174 = .ok (.aload_n 0, 1) := by decide +kernel
theorem dX1_expression_175 : decode cX1_expression 175 = .ok (.dup, 1) := by decide +kernel
theorem dX1_expression_176 : decode cX1_expression 176 = .ok (.getfield 169, 3) := by decide +kernel
theorem dX1_expression_179 : decode cX1_expression 179 = .ok (.iconst 1, 1) := by decide +kernel
theorem dX1_expression_180 : decode cX1_expression 180 = .ok (.isub, 1) := by decide +kernel
theorem dX1_expression_181 : decode cX1_expression 181 = .ok (.putfield 169, 3) := by decide +kernel
theorem dX1_expression_184 : decode cX1_expression 184 = .ok (.iinc 1 (-1), 3) := by decide +kernel
theorem dX1_expression_187 : decode cX1_expression 187 = .ok (.goto 21, 3) := by decide +kernel
theorem dX1_expression_190 : decode cX1_expression 190 = .ok (.iload_n 1, 1) := by decide +kernel
theorem dX1_expression_191 : decode cX1_expression 191 = .ok (.ifCond .le 9, 3) := by decide +kernel
theorem dX1_expression_194 : decode cX1_expression 194 = .ok (.aload_n 0, 1) := by decide +kernel
theorem dX1_expression_195 : decode cX1_expression 195 = .ok (.iconst 1, 1) := by decide +kernel
theorem dX1_expression_196 : decode cX1_expression 196 = .ok (.invokevirtual 72, 3) := by decide +kernel
theorem dX1_expression_199 : decode cX1_expression 199 = .ok (.ireturn, 1) := by decide +kernel
theorem dX1_expression_200 : decode cX1_expression 200 = .ok (.aload_n 0, 1) := by decide +kernel
theorem dX1_expression_201 : decode cX1_expression 201 = .ok (.bipush 10, 2) := by decide +kernel
theorem dX1_expression_203 : decode cX1_expression 203 = .ok (.invokevirtual 178, 3) := by decide +kernel
theorem dX1_expression_206 : decode cX1_expression 206 = .ok (.iconst 1, 1) := by decide +kernel
theorem dX1_expression_207 : decode cX1_expression 207 = .ok (.ireturn, 1) := by decide +kernel
theorem dX1_expression_208 : decode cX1_expression 208 = .ok (.aload_n 0, 1) := by decide +kernel
theorem dX1_expression_209 : decode cX1_expression 209 = .ok (.invokevirtual 88, 3) := by decide +kernel
theorem dX1_expression_212 : decode cX1_expression 212 = .ok (.ifCond .ne 5, 3) := by decide +kernel
theorem dX1_expression_215 : decode cX1_expression 215 = .ok (.iconst 0, 1) := by decide +kernel
theorem dX1_expression_216 : decode cX1_expression 216 = .ok (.ireturn, 1) := by decide +kernel
theorem dX1_expression_217 : decode cX1_expression 217 = .ok (.iinc 3 1, 3) := by decide +kernel
theorem dX1_expression_220 : decode cX1_expression 220 = .ok (.goto (-209), 3) := by decide +kernel
theorem dX1_expression_223 : decode cX1_expression 223 = .ok (.aload_n 0, 1) := by decide +kernel
theorem dX1_expression_224 : decode cX1_expression 224 = .ok (.iconst 2, 1) := by decide +kernel
theorem dX1_expression_225 : decode cX1_expression 225 = .ok (.invokevirtual 72, 3) := by decide +kernel
theorem dX1_expression_228 : decode cX1_expression 228 = .ok (.ireturn, 1) := by decide +kernel
theorem dX1_emitUnit_0 : decode cX1_emitUnit 0 = .ok (.iload_n 1, 1) := by decide +kernel
theorem dX1_emitUnit_1 : decode cX1_emitUnit 1 = .ok (.bipush 18, 2) := by decide +kernel
theorem dX1_emitUnit_3 : decode cX1_emitUnit 3 = .ok (.if_icmp .ne 23, 3) := by decide +kernel
theorem dX1_emitUnit_6 : decode cX1_emitUnit 6 = .ok (.aload_n 0, 1) := by decide +kernel
theorem dX1_emitUnit_7 : decode cX1_emitUnit 7 = .ok (.getfield 22, 3) := by decide +kernel
theorem dX1_emitUnit_10 : decode cX1_emitUnit 10 = .ok (.aload_n 0, 1) := by decide +kernel
theorem dX1_emitUnit_11 : decode cX1_emitUnit 11 = .ok (.invokevirtual 110, 3) := by decide +kernel
theorem dX1_emitUnit_14 : decode cX1_emitUnit 14 = .ok (.l2i, 1) := by decide +kernel
theorem dX1_emitUnit_15 : decode cX1_emitUnit 15 = .ok (.bipush 16, 2) := by decide +kernel
theorem dX1_emitUnit_17 : decode cX1_emitUnit 17 = .ok (.imul, 1) := by decide +kernel
theorem dX1_emitUnit_18 : decode cX1_emitUnit 18 = .ok (.iconst 0, 1) := by decide +kernel
theorem dX1_emitUnit_19 : decode cX1_emitUnit 19 = .ok (.iadd, 1) := by decide +kernel
theorem dX1_emitUnit_20 : decode cX1_emitUnit 20 = .ok (.invokevirtual 126, 3) := by decide +kernel
theorem dX1_emitUnit_23 : decode cX1_emitUnit 23 = .ok (.goto 16, 3) := by decide +kernel
theorem dX1_emitUnit_26 : decode cX1_emitUnit 26 = .ok (.aload_n 0, 1) := by decide +kernel
theorem dX1_emitUnit_27 : decode cX1_emitUnit 27 = .ok (.getfield 22, 3) := by decide +kernel
theorem dX1_emitUnit_30 : decode cX1_emitUnit 30 = .ok (.iload_n 1, 1) := by decide +kernel
theorem dX1_emitUnit_31 : decode cX1_emitUnit 31 = .ok (.bipush 16, 2) := by decide +kernel
theorem dX1_emitUnit_33 : decode cX1_emitUnit 33 = .ok (.imul, 1) := by decide +kernel
theorem dX1_emitUnit_34 : decode cX1_emitUnit 34 = .ok (.iconst 1, 1) := by decide +kernel
theorem dX1_emitUnit_35 : decode cX1_emitUnit 35 = .ok (.iadd, 1) := by decide +kernel
theorem dX1_emitUnit_36 : decode cX1_emitUnit 36 = .ok (.invokevirtual 126, 3) := by decide +kernel
theorem dX1_emitUnit_39 : decode cX1_emitUnit 39 = .ok (.return_, 1) := by decide +kernel
theorem dX1_defer_0 : decode cX1_defer 0 = .ok (.aload_n 0, 1) := by decide +kernel
theorem dX1_defer_1 : decode cX1_defer 1 = .ok (.getfield 169, 3) := by decide +kernel
theorem dX1_defer_4 : decode cX1_defer 4 = .ok (.aload_n 0, 1) := by decide +kernel
theorem dX1_defer_5 : decode cX1_defer 5 = .ok (.getfield 9, 3) := by decide +kernel
theorem dX1_defer_8 : decode cX1_defer 8 = .ok (.arraylength, 1) := by decide +kernel
theorem dX1_defer_9 : decode cX1_defer 9 = .ok (.if_icmp .ge 23, 3) := by decide +kernel
theorem dX1_defer_12 : decode cX1_defer 12 = .ok (.aload_n 0, 1) := by decide +kernel
theorem dX1_defer_13 : decode cX1_defer 13 = .ok (.getfield 9, 3) := by decide +kernel
theorem dX1_defer_16 : decode cX1_defer 16 = .ok (.aload_n 0, 1) := by decide +kernel
theorem dX1_defer_17 : decode cX1_defer 17 = .ok (.getfield 169, 3) := by decide +kernel
theorem dX1_defer_20 : decode cX1_defer 20 = .ok (.iload_n 1, 1) := by decide +kernel
theorem dX1_defer_21 : decode cX1_defer 21 = .ok (.iastore, 1) := by decide +kernel
theorem dX1_defer_22 : decode cX1_defer 22 = .ok (.aload_n 0, 1) := by decide +kernel
theorem dX1_defer_23 : decode cX1_defer 23 = .ok (.dup, 1) := by decide +kernel
theorem dX1_defer_24 : decode cX1_defer 24 = .ok (.getfield 169, 3) := by decide +kernel
theorem dX1_defer_27 : decode cX1_defer 27 = .ok (.iconst 1, 1) := by decide +kernel
theorem dX1_defer_28 : decode cX1_defer 28 = .ok (.iadd, 1) := by decide +kernel
theorem dX1_defer_29 : decode cX1_defer 29 = .ok (.putfield 169, 3) := by decide +kernel
theorem dX1_defer_32 : decode cX1_defer 32 = .ok (.return_, 1) := by decide +kernel
theorem dX1_unwind_0 : decode cX1_unwind 0 = .ok (.aload_n 0, 1) := by decide +kernel
theorem dX1_unwind_1 : decode cX1_unwind 1 = .ok (.getfield 169, 3) := by decide +kernel
theorem dX1_unwind_4 : decode cX1_unwind 4 = .ok (.iconst 1, 1) := by decide +kernel
theorem dX1_unwind_5 : decode cX1_unwind 5 = .ok (.isub, 1) := by decide +kernel
theorem dX1_unwind_6 : decode cX1_unwind 6 = .ok (.istore_n 2, 1) := by decide +kernel
theorem dX1_unwind_7 : decode cX1_unwind 7 = .ok (.iload_n 2, 1) := by decide +kernel
theorem dX1_unwind_8 : decode cX1_unwind 8 = .ok (.ifCond .lt 56, 3) := by decide +kernel
theorem dX1_unwind_11 : decode cX1_unwind 11 = .ok (.iload_n 2, 1) := by decide +kernel
theorem dX1_unwind_12 : decode cX1_unwind 12 = .ok (.aload_n 0, 1) := by decide +kernel
theorem dX1_unwind_13 : decode cX1_unwind 13 = .ok (.getfield 9, 3) := by decide +kernel
theorem dX1_unwind_16 : decode cX1_unwind 16 = .ok (.arraylength, 1) := by decide +kernel
theorem dX1_unwind_17 : decode cX1_unwind 17 = .ok (.if_icmp .ge 47, 3) := by decide +kernel
theorem dX1_unwind_20 : decode cX1_unwind 20 = .ok (.aload_n 0, 1) := by decide +kernel
theorem dX1_unwind_21 : decode cX1_unwind 21 = .ok (.getfield 9, 3) := by decide +kernel
theorem dX1_unwind_24 : decode cX1_unwind 24 = .ok (.iload_n 2, 1) := by decide +kernel
theorem dX1_unwind_25 : decode cX1_unwind 25 = .ok (.iaload, 1) := by decide +kernel
theorem dX1_unwind_26 : decode cX1_unwind 26 = .ok (.istore_n 3, 1) := by decide +kernel
theorem dX1_unwind_27 : decode cX1_unwind 27 = .ok (.iload_n 3, 1) := by decide +kernel
theorem dX1_unwind_28 : decode cX1_unwind 28 = .ok (.bipush 10, 2) := by decide +kernel
theorem dX1_unwind_30 : decode cX1_unwind 30 = .ok (.if_icmp .eq 14, 3) := by decide +kernel
theorem dX1_unwind_33 : decode cX1_unwind 33 = .ok (.iload_n 3, 1) := by decide +kernel
theorem dX1_unwind_34 : decode cX1_unwind 34 = .ok (.invokestatic 181, 3) := by decide +kernel
theorem dX1_unwind_37 : decode cX1_unwind 37 = .ok (.iload_n 1, 1) := by decide +kernel
theorem dX1_unwind_38 : decode cX1_unwind 38 = .ok (.invokestatic 181, 3) := by decide +kernel
theorem dX1_unwind_41 : decode cX1_unwind 41 = .ok (.if_icmp .ge 4, 3) := by decide +kernel
theorem dX1_unwind_44 : decode cX1_unwind 44 = .ok (.return_, 1) := by decide +kernel
theorem dX1_unwind_45 : decode cX1_unwind 45 = .ok (.aload_n 0, 1) := by decide +kernel
theorem dX1_unwind_46 : decode cX1_unwind 46 = .ok (.getfield 22, 3) := by decide +kernel
theorem dX1_unwind_49 : decode cX1_unwind 49 = .ok (.iload_n 3, 1) := by decide +kernel
theorem dX1_unwind_50 : decode cX1_unwind 50 = .ok (.invokevirtual 126, 3) := by decide +kernel
theorem dX1_unwind_53 : decode cX1_unwind 53 = .ok (.aload_n 0, 1) := by decide +kernel
theorem dX1_unwind_54 : decode cX1_unwind 54 = .ok (.iload_n 2, 1) := by decide +kernel
theorem dX1_unwind_55 : decode cX1_unwind 55 = .ok (.putfield 169, 3) := by decide +kernel
theorem dX1_unwind_58 : decode cX1_unwind 58 = .ok (.iinc 2 (-1), 3) := by decide +kernel
theorem dX1_unwind_61 : decode cX1_unwind 61 = .ok (.goto (-54), 3) := by decide +kernel
theorem dX1_unwind_64 : decode cX1_unwind 64 = .ok (.return_, 1) := by decide +kernel
theorem dX1_binding_0 : decode cX1_binding 0 = .ok (.iload_n 0, 1) := by decide +kernel
theorem dX1_binding_1 : decode cX1_binding 1 = .ok (.iconst 2, 1) := by decide +kernel
theorem dX1_binding_2 : decode cX1_binding 2 = .ok (.if_icmp .ne 5, 3) := by decide +kernel
theorem dX1_binding_5 : decode cX1_binding 5 = .ok (.iconst 3, 1) := by decide +kernel
theorem dX1_binding_6 : decode cX1_binding 6 = .ok (.ireturn, 1) := by decide +kernel
theorem dX1_binding_7 : decode cX1_binding 7 = .ok (.iload_n 0, 1) := by decide +kernel
theorem dX1_binding_8 : decode cX1_binding 8 = .ok (.iconst 5, 1) := by decide +kernel
theorem dX1_binding_9 : decode cX1_binding 9 = .ok (.if_icmp .eq 9, 3) := by decide +kernel
theorem dX1_binding_12 : decode cX1_binding 12 = .ok (.iload_n 0, 1) := by decide +kernel
theorem dX1_binding_13 : decode cX1_binding 13 = .ok (.bipush 6, 2) := by decide +kernel
theorem dX1_binding_15 : decode cX1_binding 15 = .ok (.if_icmp .ne 5, 3) := by decide +kernel
theorem dX1_binding_18 : decode cX1_binding 18 = .ok (.iconst 2, 1) := by decide +kernel
theorem dX1_binding_19 : decode cX1_binding 19 = .ok (.ireturn, 1) := by decide +kernel
