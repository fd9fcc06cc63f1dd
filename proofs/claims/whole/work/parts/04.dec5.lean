theorem dX10_cond_238 : decode cX10_cond 238 = .ok (.ifCond .ne 12, 3) := by decide +kernel
theorem dX10_cond_241 : decode cX10_cond 241 = .ok (.aload_n 0, 1) := by decide +kernel
theorem dX10_cond_242 : decode cX10_cond 242 = .ok (.bipush 12, 2) := by decide +kernel
theorem dX10_cond_244 : decode cX10_cond 244 = .ok (.invokevirtual 345, 3) := by decide +kernel
theorem dX10_cond_247 : decode cX10_cond 247 = .ok (.ifCond .eq 7, 3) := by decide +kernel
theorem dX10_cond_250 : decode cX10_cond 250 = .ok (.iconst 1, 1) := by decide +kernel
theorem dX10_cond_251 : decode cX10_cond 251 = .ok (.goto 4, 3) := by decide +kernel
theorem dX10_cond_254 : decode cX10_cond 254 = .ok (.iconst 0, 1) := by decide +kernel
theorem dX10_cond_255 : decode cX10_cond 255 = .ok (.istore_n 2, 1) := by decide +kernel
theorem dX10_cond_256 : decode cX10_cond 256 = .ok (.aload_n 0, 1) := by decide +kernel
theorem dX10_cond_257 : decode cX10_cond 257 = .ok (.bipush 12, 2) := by decide +kernel
theorem dX10_cond_259 : decode cX10_cond 259 = .ok (.invokevirtual 345, 3) := by decide +kernel
theorem dX10_cond_262 : decode cX10_cond 262 = .ok (.ifCond .eq 6, 3) := by decide +kernel
theorem dX10_cond_265 : decode cX10_cond 265 = .ok (.iinc 1 1, 3) := by decide +kernel
theorem dX10_cond_268 : decode cX10_cond 268 = .ok (.iload_n 2, 1) := by decide +kernel
theorem dX10_cond_269 : decode cX10_cond 269 = .ok (.ifCond .eq 12, 3) := by decide +kernel
theorem dX10_cond_272 : decode cX10_cond 272 = .ok (.aload_n 0, 1) := by decide +kernel
theorem dX10_cond_273 : decode cX10_cond 273 = .ok (.invokevirtual 301, 3) := by decide +kernel
theorem dX10_cond_276 : decode cX10_cond 276 = .ok (.ifCond .ne 5, 3) := by decide +kernel
theorem dX10_cond_279 : decode cX10_cond 279 = .ok (.iconst 0, 1) := by decide +kernel
theorem dX10_cond_280 : decode cX10_cond 280 = .ok (.ireturn, 1) := by decide +kernel
theorem dX10_cond_281 : decode cX10_cond 281 = .ok (.goto (-264), 3) := by decide +kernel
theorem dX10_cond_284 : decode cX10_cond 284 = .ok (.iconst 1, 1) := by decide +kernel
theorem dX10_cond_285 : decode cX10_cond 285 = .ok (.ireturn, 1) := by decide +kernel
theorem dX10_mayCond_0 : decode cX10_mayCond 0 = .ok (.aload_n 0, 1) := by decide +kernel
theorem dX10_mayCond_1 : decode cX10_mayCond 1 = .ok (.aload_n 0, 1) := by decide +kernel
theorem dX10_mayCond_2 : decode cX10_mayCond 2 = .ok (.getfield 105, 3) := by decide +kernel
theorem dX10_mayCond_5 : decode cX10_mayCond 5 = .ok (.aload_n 0, 1) := by decide +kernel
theorem dX10_mayCond_6 : decode cX10_mayCond 6 = .ok (.getfield 318, 3) := by decide +kernel
theorem dX10_mayCond_9 : decode cX10_mayCond 9 = .ok (.iaload, 1) := by decide +kernel
theorem dX10_mayCond_10 : decode cX10_mayCond 10 = .ok (.putfield 342, 3) := by decide +kernel
theorem dX10_mayCond_13 : decode cX10_mayCond 13 = .ok (.aload_n 0, 1) := by decide +kernel
theorem dX10_mayCond_14 : decode cX10_mayCond 14 = .ok (.bipush 8, 2) := by decide +kernel
theorem dX10_mayCond_16 : decode cX10_mayCond 16 = .ok (.invokevirtual 345, 3) := by decide +kernel
theorem dX10_mayCond_19 : decode cX10_mayCond 19 = .ok (.ifCond .ne 5, 3) := by decide +kernel
theorem dX10_mayCond_22 : decode cX10_mayCond 22 = .ok (.iconst 1, 1) := by decide +kernel
theorem dX10_mayCond_23 : decode cX10_mayCond 23 = .ok (.ireturn, 1) := by decide +kernel
theorem dX10_mayCond_24 : decode cX10_mayCond 24 = .ok (.aload_n 0, 1) := by decide +kernel
theorem dX10_mayCond_25 : decode cX10_mayCond 25 = .ok (.invokevirtual 301, 3) := by decide +kernel
theorem dX10_mayCond_28 : decode cX10_mayCond 28 = .ok (.ifCond .eq 14, 3) := by decide +kernel
theorem dX10_mayCond_31 : decode cX10_mayCond 31 = .ok (.aload_n 0, 1) := by decide +kernel
theorem dX10_mayCond_32 : decode cX10_mayCond 32 = .ok (.invokevirtual 351, 3) := by decide +kernel
theorem dX10_mayCond_35 : decode cX10_mayCond 35 = .ok (.ifCond .eq 7, 3) := by decide +kernel
theorem dX10_mayCond_38 : decode cX10_mayCond 38 = .ok (.iconst 1, 1) := by decide +kernel
theorem dX10_mayCond_39 : decode cX10_mayCond 39 = .ok (.goto 4, 3) := by decide +kernel
theorem dX10_mayCond_42 : decode cX10_mayCond 42 = .ok (.iconst 0, 1) := by decide +kernel
theorem dX10_mayCond_43 : decode cX10_mayCond 43 = .ok (.ireturn, 1) := by decide +kernel
theorem dX10_tellAct_0 : decode cX10_tellAct 0 = .ok (.aload_n 0, 1) := by decide +kernel
theorem dX10_tellAct_1 : decode cX10_tellAct 1 = .ok (.getfield 45, 3) := by decide +kernel
theorem dX10_tellAct_4 : decode cX10_tellAct 4 = .ok (.aload_n 0, 1) := by decide +kernel
theorem dX10_tellAct_5 : decode cX10_tellAct 5 = .ok (.getfield 318, 3) := by decide +kernel
theorem dX10_tellAct_8 : decode cX10_tellAct 8 = .ok (.iaload, 1) := by decide +kernel
theorem dX10_tellAct_9 : decode cX10_tellAct 9 = .ok (.bipush 6, 2) := by decide +kernel
theorem dX10_tellAct_11 : decode cX10_tellAct 11 = .ok (.if_icmp .ne 9, 3) := by decide +kernel
theorem dX10_tellAct_14 : decode cX10_tellAct 14 = .ok (.aload_n 0, 1) := by decide +kernel
theorem dX10_tellAct_15 : decode cX10_tellAct 15 = .ok (.iconst 2, 1) := by decide +kernel
theorem dX10_tellAct_16 : decode cX10_tellAct 16 = .ok (.invokevirtual 298, 3) := by decide +kernel
theorem dX10_tellAct_19 : decode cX10_tellAct 19 = .ok (.ireturn, 1) := by decide +kernel
theorem dX10_tellAct_20 : decode cX10_tellAct 20 = .ok (.aload_n 0, 1) := by decide +kernel
theorem dX10_tellAct_21 : decode cX10_tellAct 21 = .ok (.invokevirtual 301, 3) := by decide +kernel
theorem dX10_tellAct_24 : decode cX10_tellAct 24 = .ok (.ifCond .ne 5, 3) := by decide +kernel
theorem dX10_tellAct_27 : decode cX10_tellAct 27 = .ok (.iconst 0, 1) := by decide +kernel
theorem dX10_tellAct_28 : decode cX10_tellAct 28 = .ok (.ireturn, 1) := by decide +kernel
theorem dX10_tellAct_29 : decode cX10_tellAct 29 = .ok (.bipush 6, 2) := by decide +kernel
theorem dX10_tellAct_31 : decode cX10_tellAct 31 = .ok (.aload_n 0, 1) := by decide +kernel
theorem dX10_tellAct_32 : decode cX10_tellAct 32 = .ok (.getfield 318, 3) := by decide +kernel
theorem dX10_tellAct_35 : decode cX10_tellAct 35 = .ok (.imul, 1) := by decide +kernel
theorem dX10_tellAct_36 : decode cX10_tellAct 36 = .ok (.aload_n 0, 1) := by decide +kernel
theorem dX10_tellAct_37 : decode cX10_tellAct 37 = .ok (.getfield 45, 3) := by decide +kernel
theorem dX10_tellAct_40 : decode cX10_tellAct 40 = .ok (.aload_n 0, 1) := by decide +kernel
theorem dX10_tellAct_41 : decode cX10_tellAct 41 = .ok (.getfield 318, 3) := by decide +kernel
theorem dX10_tellAct_44 : decode cX10_tellAct 44 = .ok (.iaload, 1) := by decide +kernel
theorem dX10_tellAct_45 : decode cX10_tellAct 45 = .ok (.iadd, 1) := by decide +kernel
theorem dX10_tellAct_46 : decode cX10_tellAct 46 = .ok (.istore_n 1, 1) := by decide +kernel
theorem dX10_tellAct_47 : decode cX10_tellAct 47 = .ok (.aload_n 0, 1) := by decide +kernel
theorem dX10_tellAct_48 : decode cX10_tellAct 48 = .ok (.getfield 289, 3) := by decide +kernel
theorem dX10_tellAct_51 : decode cX10_tellAct 51 = .ok (.istore_n 2, 1) := by decide +kernel
theorem dX10_tellAct_52 : decode cX10_tellAct 52 = .ok (.aload_n 0, 1) := by decide +kernel
theorem dX10_tellAct_53 : decode cX10_tellAct 53 = .ok (.iconst 0, 1) := by decide +kernel
theorem dX10_tellAct_54 : decode cX10_tellAct 54 = .ok (.invokevirtual 308, 3) := by decide +kernel
theorem dX10_tellAct_57 : decode cX10_tellAct 57 = .ok (.ifCond .ne 5, 3) := by decide +kernel
theorem dX10_tellAct_60 : decode cX10_tellAct 60 = .ok (.iconst 0, 1) := by decide +kernel
theorem dX10_tellAct_61 : decode cX10_tellAct 61 = .ok (.ireturn, 1) := by decide +kernel
theorem dX10_tellAct_62 : decode cX10_tellAct 62 = .ok (.aload_n 0, 1) := by decide +kernel
theorem dX10_tellAct_63 : decode cX10_tellAct 63 = .ok (.aload_n 0, 1) := by decide +kernel
theorem dX10_tellAct_64 : decode cX10_tellAct 64 = .ok (.getfield 22, 3) := by decide +kernel
theorem dX10_tellAct_67 : decode cX10_tellAct 67 = .ok (.iload_n 2, 1) := by decide +kernel
theorem dX10_tellAct_68 : decode cX10_tellAct 68 = .ok (.laload, 1) := by decide +kernel
theorem dX10_tellAct_69 : decode cX10_tellAct 69 = .ok (.invokevirtual 354, 3) := by decide +kernel
theorem dX10_tellAct_72 : decode cX10_tellAct 72 = .ok (.ifCond .lt 9, 3) := by decide +kernel
theorem dX10_tellAct_75 : decode cX10_tellAct 75 = .ok (.aload_n 0, 1) := by decide +kernel
theorem dX10_tellAct_76 : decode cX10_tellAct 76 = .ok (.iconst 3, 1) := by decide +kernel
theorem dX10_tellAct_77 : decode cX10_tellAct 77 = .ok (.iload_n 2, 1) := by decide +kernel
theorem dX10_tellAct_78 : decode cX10_tellAct 78 = .ok (.invokevirtual 311, 3) := by decide +kernel
theorem dX10_tellAct_81 : decode cX10_tellAct 81 = .ok (.aload_n 0, 1) := by decide +kernel
theorem dX10_tellAct_82 : decode cX10_tellAct 82 = .ok (.getfield 22, 3) := by decide +kernel
theorem dX10_tellAct_85 : decode cX10_tellAct 85 = .ok (.iload_n 2, 1) := by decide +kernel
theorem dX10_tellAct_86 : decode cX10_tellAct 86 = .ok (.laload, 1) := by decide +kernel
theorem dX10_tellAct_87 : decode cX10_tellAct 87 = .ok (.lstore_n 3, 1) := by decide +kernel
theorem dX10_tellAct_88 : decode cX10_tellAct 88 = .ok (.aload_n 0, 1) := by decide +kernel
theorem dX10_tellAct_89 : decode cX10_tellAct 89 = .ok (.bipush 9, 2) := by decide +kernel
theorem dX10_tellAct_91 : decode cX10_tellAct 91 = .ok (.invokevirtual 357, 3) := by decide +kernel
theorem dX10_tellAct_94 : decode cX10_tellAct 94 = .ok (.ifCond .ne 5, 3) := by decide +kernel
theorem dX10_tellAct_97 : decode cX10_tellAct 97 = .ok (.iconst 0, 1) := by decide +kernel
theorem dX10_tellAct_98 : decode cX10_tellAct 98 = .ok (.ireturn, 1) := by decide +kernel
theorem dX10_tellAct_99 : decode cX10_tellAct 99 = .ok (.aload_n 0, 1) := by decide +kernel
theorem dX10_tellAct_100 : decode cX10_tellAct 100 = .ok (.getfield 51, 3) := by decide +kernel
theorem dX10_tellAct_103 : decode cX10_tellAct 103 = .ok (.iload_n 1, 1) := by decide +kernel
theorem dX10_tellAct_104 : decode cX10_tellAct 104 = .ok (.aload_n 0, 1) := by decide +kernel
theorem dX10_tellAct_105 : decode cX10_tellAct 105 = .ok (.getfield 315, 3) := by decide +kernel
theorem dX10_tellAct_108 : decode cX10_tellAct 108 = .ok (.iastore, 1) := by decide +kernel
theorem dX10_tellAct_109 : decode cX10_tellAct 109 = .ok (.aload_n 0, 1) := by decide +kernel
theorem dX10_tellAct_110 : decode cX10_tellAct 110 = .ok (.iconst 1, 1) := by decide +kernel
theorem dX10_tellAct_111 : decode cX10_tellAct 111 = .ok (.invokevirtual 357, 3) := by decide +kernel
theorem dX10_tellAct_114 : decode cX10_tellAct 114 = .ok (.ifCond .ne 5, 3) := by decide +kernel
theorem dX10_tellAct_117 : decode cX10_tellAct 117 = .ok (.iconst 0, 1) := by decide +kernel
theorem dX10_tellAct_118 : decode cX10_tellAct 118 = .ok (.ireturn, 1) := by decide +kernel
theorem dX10_tellAct_119 : decode cX10_tellAct 119 = .ok (.aload_n 0, 1) := by decide +kernel
theorem dX10_tellAct_120 : decode cX10_tellAct 120 = .ok (.getfield 54, 3) := by decide +kernel
theorem dX10_tellAct_123 : decode cX10_tellAct 123 = .ok (.iload_n 1, 1) := by decide +kernel
theorem dX10_tellAct_124 : decode cX10_tellAct 124 = .ok (.aload_n 0, 1) := by decide +kernel
theorem dX10_tellAct_125 : decode cX10_tellAct 125 = .ok (.getfield 315, 3) := by decide +kernel
theorem dX10_tellAct_128 : decode cX10_tellAct 128 = .ok (.iastore, 1) := by decide +kernel
theorem dX10_tellAct_129 : decode cX10_tellAct 129 = .ok (.aload_n 0, 1) := by decide +kernel
theorem dX10_tellAct_130 : decode cX10_tellAct 130 = .ok (.invokevirtual 360, 3) := by decide +kernel
theorem dX10_tellAct_133 : decode cX10_tellAct 133 = .ok (.ifCond .ne 5, 3) := by decide +kernel
theorem dX10_tellAct_136 : decode cX10_tellAct 136 = .ok (.iconst 0, 1) := by decide +kernel
theorem dX10_tellAct_137 : decode cX10_tellAct 137 = .ok (.ireturn, 1) := by decide +kernel
theorem dX10_tellAct_138 : decode cX10_tellAct 138 = .ok (.aload_n 0, 1) := by decide +kernel
theorem dX10_tellAct_139 : decode cX10_tellAct 139 = .ok (.getfield 57, 3) := by decide +kernel
theorem dX10_tellAct_142 : decode cX10_tellAct 142 = .ok (.iload_n 1, 1) := by decide +kernel
theorem dX10_tellAct_143 : decode cX10_tellAct 143 = .ok (.aload_n 0, 1) := by decide +kernel
theorem dX10_tellAct_144 : decode cX10_tellAct 144 = .ok (.getfield 342, 3) := by decide +kernel
theorem dX10_tellAct_147 : decode cX10_tellAct 147 = .ok (.iastore, 1) := by decide +kernel
theorem dX10_tellAct_148 : decode cX10_tellAct 148 = .ok (.aload_n 0, 1) := by decide +kernel
theorem dX10_tellAct_149 : decode cX10_tellAct 149 = .ok (.getfield 60, 3) := by decide +kernel
theorem dX10_tellAct_152 : decode cX10_tellAct 152 = .ok (.iload_n 1, 1) := by decide +kernel
theorem dX10_tellAct_153 : decode cX10_tellAct 153 = .ok (.aload_n 0, 1) := by decide +kernel
theorem dX10_tellAct_154 : decode cX10_tellAct 154 = .ok (.getfield 105, 3) := by decide +kernel
theorem dX10_tellAct_157 : decode cX10_tellAct 157 = .ok (.aload_n 0, 1) := by decide +kernel
theorem dX10_tellAct_158 : decode cX10_tellAct 158 = .ok (.getfield 318, 3) := by decide +kernel
theorem dX10_tellAct_161 : decode cX10_tellAct 161 = .ok (.iaload, 1) := by decide +kernel
theorem dX10_tellAct_162 : decode cX10_tellAct 162 = .ok (.iastore, 1) := by decide +kernel
theorem dX10_tellAct_163 : decode cX10_tellAct 163 = .ok (.aload_n 0, 1) := by decide +kernel
theorem dX10_tellAct_164 : decode cX10_tellAct 164 = .ok (.getfield 48, 3) := by decide +kernel
theorem dX10_tellAct_167 : decode cX10_tellAct 167 = .ok (.iload_n 1, 1) := by decide +kernel
theorem dX10_tellAct_168 : decode cX10_tellAct 168 = .ok (.lload_n 3, 1) := by decide +kernel
theorem dX10_tellAct_169 : decode cX10_tellAct 169 = .ok (.lastore, 1) := by decide +kernel
theorem dX10_tellAct_170 : decode cX10_tellAct 170 = .ok (.aload_n 0, 1) := by decide +kernel
theorem dX10_tellAct_171 : decode cX10_tellAct 171 = .ok (.getfield 45, 3) := by decide +kernel
theorem dX10_tellAct_174 : decode cX10_tellAct 174 = .ok (.aload_n 0, 1) := by decide +kernel
theorem dX10_tellAct_175 : decode cX10_tellAct 175 = .ok (.getfield 318, 3) := by decide +kernel
theorem dX10_tellAct_178 : decode cX10_tellAct 178 = .ok (.dup2, 1) := by decide +kernel
theorem dX10_tellAct_179 : decode cX10_tellAct 179 = .ok (.iaload, 1) := by decide +kernel
theorem dX10_tellAct_180 : decode cX10_tellAct 180 = .ok (.iconst 1, 1) := by decide +kernel
theorem dX10_tellAct_181 : decode cX10_tellAct 181 = .ok (.iadd, 1) := by decide +kernel
theorem dX10_tellAct_182 : decode cX10_tellAct 182 = .ok (.iastore, 1) := by decide +kernel
theorem dX10_tellAct_183 : decode cX10_tellAct 183 = .ok (.iconst 1, 1) := by decide +kernel
theorem dX10_tellAct_184 : decode cX10_tellAct 184 = .ok (.ireturn, 1) := by decide +kernel
theorem dX10_actOf_0 : decode cX10_actOf 0 = .ok (.iconst 0, 1) := by decide +kernel
theorem dX10_actOf_1 : decode cX10_actOf 1 = .ok (.istore_n 3, 1) := by decide +kernel
theorem dX10_actOf_2 : decode cX10_actOf 2 = .ok (.iload_n 3, 1) := by decide +kernel
theorem dX10_actOf_3 : decode cX10_actOf 3 = .ok (.aload_n 0, 1) := by decide +kernel
theorem dX10_actOf_4 : decode cX10_actOf 4 = .ok (.getfield 45, 3) := by decide +kernel
theorem dX10_actOf_7 : decode cX10_actOf 7 = .ok (.aload_n 0, 1) := by decide +kernel
theorem dX10_actOf_8 : decode cX10_actOf 8 = .ok (.getfield 318, 3) := by decide +kernel
theorem dX10_actOf_11 : decode cX10_actOf 11 = .ok (.iaload, 1) := by decide +kernel
theorem dX10_actOf_12 : decode cX10_actOf 12 = .ok (.if_icmp .ge 30, 3) := by decide +kernel
theorem dX10_actOf_15 : decode cX10_actOf 15 = .ok (.aload_n 0, 1) := by decide +kernel
theorem dX10_actOf_16 : decode cX10_actOf 16 = .ok (.getfield 48, 3) := by decide +kernel
theorem dX10_actOf_19 : decode cX10_actOf 19 = .ok (.bipush 6, 2) := by decide +kernel
theorem dX10_actOf_21 : decode cX10_actOf 21 = .ok (.aload_n 0, 1) := by decide +kernel
theorem dX10_actOf_22 : decode cX10_actOf 22 = .ok (.getfield 318, 3) := by decide +kernel
theorem dX10_actOf_25 : decode cX10_actOf 25 = .ok (.imul, 1) := by decide +kernel
theorem dX10_actOf_26 : decode cX10_actOf 26 = .ok (.iload_n 3, 1) := by decide +kernel
theorem dX10_actOf_27 : decode cX10_actOf 27 = .ok (.iadd, 1) := by decide +kernel
theorem dX10_actOf_28 : decode cX10_actOf 28 = .ok (.laload, 1) := by decide +kernel
theorem dX10_actOf_29 : decode cX10_actOf 29 = .ok (.lload_n 1, 1) := by decide +kernel
theorem dX10_actOf_30 : decode cX10_actOf 30 = .ok (.lcmp, 1) := by decide +kernel
theorem dX10_actOf_31 : decode cX10_actOf 31 = .ok (.ifCond .ne 5, 3) := by decide +kernel
theorem dX10_actOf_34 : decode cX10_actOf 34 = .ok (.iload_n 3, 1) := by decide +kernel
theorem dX10_actOf_35 : decode cX10_actOf 35 = .ok (.ireturn, 1) := by decide +kernel
theorem dX10_actOf_36 : decode cX10_actOf 36 = .ok (.iinc 3 1, 3) := by decide +kernel
theorem dX10_actOf_39 : decode cX10_actOf 39 = .ok (.goto (-37), 3) := by decide +kernel
theorem dX10_actOf_42 : decode cX10_actOf 42 = .ok (.iconst (-1), 1) := by decide +kernel
theorem dX10_actOf_43 : decode cX10_actOf 43 = .ok (.ireturn, 1) := by decide +kernel
theorem dX10_tellGusts_0 : decode cX10_tellGusts 0 = .ok (.aload_n 0, 1) := by decide +kernel
theorem dX10_tellGusts_1 : decode cX10_tellGusts 1 = .ok (.getfield 63, 3) := by decide +kernel
theorem dX10_tellGusts_4 : decode cX10_tellGusts 4 = .ok (.aload_n 0, 1) := by decide +kernel
theorem dX10_tellGusts_5 : decode cX10_tellGusts 5 = .ok (.getfield 318, 3) := by decide +kernel
theorem dX10_tellGusts_8 : decode cX10_tellGusts 8 = .ok (.iaload, 1) := by decide +kernel
theorem dX10_tellGusts_9 : decode cX10_tellGusts 9 = .ok (.bipush 8, 2) := by decide +kernel
theorem dX10_tellGusts_11 : decode cX10_tellGusts 11 = .ok (.if_icmp .ne 9, 3) := by decide +kernel
theorem dX10_tellGusts_14 : decode cX10_tellGusts 14 = .ok (.aload_n 0, 1) := by decide +kernel
theorem dX10_tellGusts_15 : decode cX10_tellGusts 15 = .ok (.iconst 2, 1) := by decide +kernel
theorem dX10_tellGusts_16 : decode cX10_tellGusts 16 = .ok (.invokevirtual 298, 3) := by decide +kernel
theorem dX10_tellGusts_19 : decode cX10_tellGusts 19 = .ok (.ireturn, 1) := by decide +kernel
theorem dX10_tellGusts_20 : decode cX10_tellGusts 20 = .ok (.aload_n 0, 1) := by decide +kernel
theorem dX10_tellGusts_21 : decode cX10_tellGusts 21 = .ok (.invokevirtual 301, 3) := by decide +kernel
theorem dX10_tellGusts_24 : decode cX10_tellGusts 24 = .ok (.ifCond .ne 5, 3) := by decide +kernel
theorem dX10_tellGusts_27 : decode cX10_tellGusts 27 = .ok (.iconst 0, 1) := by decide +kernel
theorem dX10_tellGusts_28 : decode cX10_tellGusts 28 = .ok (.ireturn, 1) := by decide +kernel
theorem dX10_tellGusts_29 : decode cX10_tellGusts 29 = .ok (.bipush 8, 2) := by decide +kernel
theorem dX10_tellGusts_31 : decode cX10_tellGusts 31 = .ok (.aload_n 0, 1) := by decide +kernel
theorem dX10_tellGusts_32 : decode cX10_tellGusts 32 = .ok (.getfield 318, 3) := by decide +kernel
theorem dX10_tellGusts_35 : decode cX10_tellGusts 35 = .ok (.imul, 1) := by decide +kernel
theorem dX10_tellGusts_36 : decode cX10_tellGusts 36 = .ok (.aload_n 0, 1) := by decide +kernel
theorem dX10_tellGusts_37 : decode cX10_tellGusts 37 = .ok (.getfield 63, 3) := by decide +kernel
theorem dX10_tellGusts_40 : decode cX10_tellGusts 40 = .ok (.aload_n 0, 1) := by decide +kernel
theorem dX10_tellGusts_41 : decode cX10_tellGusts 41 = .ok (.getfield 318, 3) := by decide +kernel
theorem dX10_tellGusts_44 : decode cX10_tellGusts 44 = .ok (.iaload, 1) := by decide +kernel
theorem dX10_tellGusts_45 : decode cX10_tellGusts 45 = .ok (.iadd, 1) := by decide +kernel
theorem dX10_tellGusts_46 : decode cX10_tellGusts 46 = .ok (.istore_n 1, 1) := by decide +kernel
theorem dX10_tellGusts_47 : decode cX10_tellGusts 47 = .ok (.aload_n 0, 1) := by decide +kernel
theorem dX10_tellGusts_48 : decode cX10_tellGusts 48 = .ok (.iconst 0, 1) := by decide +kernel
theorem dX10_tellGusts_49 : decode cX10_tellGusts 49 = .ok (.bipush 8, 2) := by decide +kernel
theorem dX10_tellGusts_51 : decode cX10_tellGusts 51 = .ok (.invokevirtual 363, 3) := by decide +kernel
theorem dX10_tellGusts_54 : decode cX10_tellGusts 54 = .ok (.ifCond .ne 5, 3) := by decide +kernel
theorem dX10_tellGusts_57 : decode cX10_tellGusts 57 = .ok (.iconst 0, 1) := by decide +kernel
theorem dX10_tellGusts_58 : decode cX10_tellGusts 58 = .ok (.ireturn, 1) := by decide +kernel
theorem dX10_tellGusts_59 : decode cX10_tellGusts 59 = .ok (.aload_n 0, 1) := by decide +kernel
theorem dX10_tellGusts_60 : decode cX10_tellGusts 60 = .ok (.getfield 66, 3) := by decide +kernel
theorem dX10_tellGusts_63 : decode cX10_tellGusts 63 = .ok (.iload_n 1, 1) := by decide +kernel
theorem dX10_tellGusts_64 : decode cX10_tellGusts 64 = .ok (.aload_n 0, 1) := by decide +kernel
theorem dX10_tellGusts_65 : decode cX10_tellGusts 65 = .ok (.getfield 315, 3) := by decide +kernel
theorem dX10_tellGusts_68 : decode cX10_tellGusts 68 = .ok (.iastore, 1) := by decide +kernel
theorem dX10_tellGusts_69 : decode cX10_tellGusts 69 = .ok (.aload_n 0, 1) := by decide +kernel
theorem dX10_tellGusts_70 : decode cX10_tellGusts 70 = .ok (.iconst 0, 1) := by decide +kernel
theorem dX10_tellGusts_71 : decode cX10_tellGusts 71 = .ok (.bipush 8, 2) := by decide +kernel
theorem dX10_tellGusts_73 : decode cX10_tellGusts 73 = .ok (.invokevirtual 363, 3) := by decide +kernel
theorem dX10_tellGusts_76 : decode cX10_tellGusts 76 = .ok (.ifCond .ne 5, 3) := by decide +kernel
theorem dX10_tellGusts_79 : decode cX10_tellGusts 79 = .ok (.iconst 0, 1) := by decide +kernel
theorem dX10_tellGusts_80 : decode cX10_tellGusts 80 = .ok (.ireturn, 1) := by decide +kernel
theorem dX10_tellGusts_81 : decode cX10_tellGusts 81 = .ok (.aload_n 0, 1) := by decide +kernel
theorem dX10_tellGusts_82 : decode cX10_tellGusts 82 = .ok (.getfield 69, 3) := by decide +kernel
theorem dX10_tellGusts_85 : decode cX10_tellGusts 85 = .ok (.iload_n 1, 1) := by decide +kernel
theorem dX10_tellGusts_86 : decode cX10_tellGusts 86 = .ok (.aload_n 0, 1) := by decide +kernel
theorem dX10_tellGusts_87 : decode cX10_tellGusts 87 = .ok (.getfield 315, 3) := by decide +kernel
theorem dX10_tellGusts_90 : decode cX10_tellGusts 90 = .ok (.iastore, 1) := by decide +kernel
theorem dX10_tellGusts_91 : decode cX10_tellGusts 91 = .ok (.aload_n 0, 1) := by decide +kernel
theorem dX10_tellGusts_92 : decode cX10_tellGusts 92 = .ok (.getfield 69, 3) := by decide +kernel
theorem dX10_tellGusts_95 : decode cX10_tellGusts 95 = .ok (.iload_n 1, 1) := by decide +kernel
theorem dX10_tellGusts_96 : decode cX10_tellGusts 96 = .ok (.iaload, 1) := by decide +kernel
theorem dX10_tellGusts_97 : decode cX10_tellGusts 97 = .ok (.aload_n 0, 1) := by decide +kernel
theorem dX10_tellGusts_98 : decode cX10_tellGusts 98 = .ok (.getfield 66, 3) := by decide +kernel
theorem dX10_tellGusts_101 : decode cX10_tellGusts 101 = .ok (.iload_n 1, 1) := by decide +kernel
theorem dX10_tellGusts_102 : decode cX10_tellGusts 102 = .ok (.iaload, 1) := by decide +kernel
theorem dX10_tellGusts_103 : decode cX10_tellGusts 103 = .ok (.if_icmp .ge 14, 3) := by decide +kernel
theorem dX10_tellGusts_106 : decode cX10_tellGusts 106 = .ok (.aload_n 0, 1) := by decide +kernel
theorem dX10_tellGusts_107 : decode cX10_tellGusts 107 = .ok (.iconst 5, 1) := by decide +kernel
theorem dX10_tellGusts_108 : decode cX10_tellGusts 108 = .ok (.aload_n 0, 1) := by decide +kernel
theorem dX10_tellGusts_109 : decode cX10_tellGusts 109 = .ok (.getfield 289, 3) := by decide +kernel
theorem dX10_tellGusts_112 : decode cX10_tellGusts 112 = .ok (.iconst 1, 1) := by decide +kernel
theorem dX10_tellGusts_113 : decode cX10_tellGusts 113 = .ok (.isub, 1) := by decide +kernel
theorem dX10_tellGusts_114 : decode cX10_tellGusts 114 = .ok (.invokevirtual 311, 3) := by decide +kernel
theorem dX10_tellGusts_117 : decode cX10_tellGusts 117 = .ok (.aload_n 0, 1) := by decide +kernel
theorem dX10_tellGusts_118 : decode cX10_tellGusts 118 = .ok (.bipush 6, 2) := by decide +kernel
theorem dX10_tellGusts_120 : decode cX10_tellGusts 120 = .ok (.invokevirtual 357, 3) := by decide +kernel
theorem dX10_tellGusts_123 : decode cX10_tellGusts 123 = .ok (.ifCond .ne 5, 3) := by decide +kernel
theorem dX10_tellGusts_126 : decode cX10_tellGusts 126 = .ok (.iconst 0, 1) := by decide +kernel
theorem dX10_tellGusts_127 : decode cX10_tellGusts 127 = .ok (.ireturn, 1) := by decide +kernel
theorem dX10_tellGusts_128 : decode cX10_tellGusts 128 = .ok (.aload_n 0, 1) := by decide +kernel
theorem dX10_tellGusts_129 : decode cX10_tellGusts 129 = .ok (.getfield 72, 3) := by decide +kernel
theorem dX10_tellGusts_132 : decode cX10_tellGusts 132 = .ok (.iload_n 1, 1) := by decide +kernel
theorem dX10_tellGusts_133 : decode cX10_tellGusts 133 = .ok (.aload_n 0, 1) := by decide +kernel
theorem dX10_tellGusts_134 : decode cX10_tellGusts 134 = .ok (.getfield 315, 3) := by decide +kernel
theorem dX10_tellGusts_137 : decode cX10_tellGusts 137 = .ok (.iastore, 1) := by decide +kernel
theorem dX10_tellGusts_138 : decode cX10_tellGusts 138 = .ok (.aload_n 0, 1) := by decide +kernel
theorem dX10_tellGusts_139 : decode cX10_tellGusts 139 = .ok (.bipush 6, 2) := by decide +kernel
theorem dX10_tellGusts_141 : decode cX10_tellGusts 141 = .ok (.invokevirtual 357, 3) := by decide +kernel
theorem dX10_tellGusts_144 : decode cX10_tellGusts 144 = .ok (.ifCond .ne 5, 3) := by decide +kernel
theorem dX10_tellGusts_147 : decode cX10_tellGusts 147 = .ok (.iconst 0, 1) := by decide +kernel
theorem dX10_tellGusts_148 : decode cX10_tellGusts 148 = .ok (.ireturn, 1) := by decide +kernel
theorem dX10_tellGusts_149 : decode cX10_tellGusts 149 = .ok (.aload_n 0, 1) := by decide +kernel
theorem dX10_tellGusts_150 : decode cX10_tellGusts 150 = .ok (.getfield 75, 3) := by decide +kernel
theorem dX10_tellGusts_153 : decode cX10_tellGusts 153 = .ok (.iload_n 1, 1) := by decide +kernel
theorem dX10_tellGusts_154 : decode cX10_tellGusts 154 = .ok (.aload_n 0, 1) := by decide +kernel
theorem dX10_tellGusts_155 : decode cX10_tellGusts 155 = .ok (.getfield 315, 3) := by decide +kernel
theorem dX10_tellGusts_158 : decode cX10_tellGusts 158 = .ok (.iastore, 1) := by decide +kernel
theorem dX10_tellGusts_159 : decode cX10_tellGusts 159 = .ok (.aload_n 0, 1) := by decide +kernel
theorem dX10_tellGusts_160 : decode cX10_tellGusts 160 = .ok (.getfield 75, 3) := by decide +kernel
theorem dX10_tellGusts_163 : decode cX10_tellGusts 163 = .ok (.iload_n 1, 1) := by decide +kernel
theorem dX10_tellGusts_164 : decode cX10_tellGusts 164 = .ok (.iaload, 1) := by decide +kernel
theorem dX10_tellGusts_165 : decode cX10_tellGusts 165 = .ok (.aload_n 0, 1) := by decide +kernel
theorem dX10_tellGusts_166 : decode cX10_tellGusts 166 = .ok (.getfield 72, 3) := by decide +kernel
theorem dX10_tellGusts_169 : decode cX10_tellGusts 169 = .ok (.iload_n 1, 1) := by decide +kernel
theorem dX10_tellGusts_170 : decode cX10_tellGusts 170 = .ok (.iaload, 1) := by decide +kernel
theorem dX10_tellGusts_171 : decode cX10_tellGusts 171 = .ok (.if_icmp .ge 14, 3) := by decide +kernel
theorem dX10_tellGusts_174 : decode cX10_tellGusts 174 = .ok (.aload_n 0, 1) := by decide +kernel
theorem dX10_tellGusts_175 : decode cX10_tellGusts 175 = .ok (.iconst 5, 1) := by decide +kernel
theorem dX10_tellGusts_176 : decode cX10_tellGusts 176 = .ok (.aload_n 0, 1) := by decide +kernel
theorem dX10_tellGusts_177 : decode cX10_tellGusts 177 = .ok (.getfield 289, 3) := by decide +kernel
theorem dX10_tellGusts_180 : decode cX10_tellGusts 180 = .ok (.iconst 1, 1) := by decide +kernel
theorem dX10_tellGusts_181 : decode cX10_tellGusts 181 = .ok (.isub, 1) := by decide +kernel
theorem dX10_tellGusts_182 : decode cX10_tellGusts 182 = .ok (.invokevirtual 311, 3) := by decide +kernel
theorem dX10_tellGusts_185 : decode cX10_tellGusts 185 = .ok (.aload_n 0, 1) := by decide +kernel
theorem dX10_tellGusts_186 : decode cX10_tellGusts 186 = .ok (.invokevirtual 360, 3) := by decide +kernel
theorem dX10_tellGusts_189 : decode cX10_tellGusts 189 = .ok (.ifCond .ne 5, 3) := by decide +kernel
theorem dX10_tellGusts_192 : decode cX10_tellGusts 192 = .ok (.iconst 0, 1) := by decide +kernel
theorem dX10_tellGusts_193 : decode cX10_tellGusts 193 = .ok (.ireturn, 1) := by decide +kernel
theorem dX10_tellGusts_194 : decode cX10_tellGusts 194 = .ok (.aload_n 0, 1) := by decide +kernel
theorem dX10_tellGusts_195 : decode cX10_tellGusts 195 = .ok (.getfield 78, 3) := by decide +kernel
theorem dX10_tellGusts_198 : decode cX10_tellGusts 198 = .ok (.iload_n 1, 1) := by decide +kernel
theorem dX10_tellGusts_199 : decode cX10_tellGusts 199 = .ok (.aload_n 0, 1) := by decide +kernel
theorem dX10_tellGusts_200 : decode cX10_tellGusts 200 = .ok (.getfield 342, 3) := by decide +kernel
theorem dX10_tellGusts_203 : decode cX10_tellGusts 203 = .ok (.iastore, 1) := by decide +kernel
theorem dX10_tellGusts_204 : decode cX10_tellGusts 204 = .ok (.aload_n 0, 1) := by decide +kernel
theorem dX10_tellGusts_205 : decode cX10_tellGusts 205 = .ok (.getfield 81, 3) := by decide +kernel
theorem dX10_tellGusts_208 : decode cX10_tellGusts 208 = .ok (.iload_n 1, 1) := by decide +kernel
theorem dX10_tellGusts_209 : decode cX10_tellGusts 209 = .ok (.aload_n 0, 1) := by decide +kernel
theorem dX10_tellGusts_210 : decode cX10_tellGusts 210 = .ok (.getfield 105, 3) := by decide +kernel
theorem dX10_tellGusts_213 : decode cX10_tellGusts 213 = .ok (.aload_n 0, 1) := by decide +kernel
theorem dX10_tellGusts_214 : decode cX10_tellGusts 214 = .ok (.getfield 318, 3) := by decide +kernel
theorem dX10_tellGusts_217 : decode cX10_tellGusts 217 = .ok (.iaload, 1) := by decide +kernel
theorem dX10_tellGusts_218 : decode cX10_tellGusts 218 = .ok (.iastore, 1) := by decide +kernel
theorem dX10_tellGusts_219 : decode cX10_tellGusts 219 = .ok (.aload_n 0, 1) := by decide +kernel
theorem dX10_tellGusts_220 : decode cX10_tellGusts 220 = .ok (.getfield 63, 3) := by decide +kernel
theorem dX10_tellGusts_223 : decode cX10_tellGusts 223 = .ok (.aload_n 0, 1) := by decide +kernel
theorem dX10_tellGusts_224 : decode cX10_tellGusts 224 = .ok (.getfield 318, 3) := by decide +kernel
theorem dX10_tellGusts_227 : decode cX10_tellGusts 227 = .ok (.dup2, 1) := by decide +kernel
theorem dX10_tellGusts_228 : decode cX10_tellGusts 228 = .ok (.iaload, 1) := by decide +kernel
theorem dX10_tellGusts_229 : decode cX10_tellGusts 229 = .ok (.iconst 1, 1) := by decide +kernel
theorem dX10_tellGusts_230 : decode cX10_tellGusts 230 = .ok (.iadd, 1) := by decide +kernel
theorem dX10_tellGusts_231 : decode cX10_tellGusts 231 = .ok (.iastore, 1) := by decide +kernel
theorem dX10_tellGusts_232 : decode cX10_tellGusts 232 = .ok (.iconst 1, 1) := by decide +kernel
theorem dX10_tellGusts_233 : decode cX10_tellGusts 233 = .ok (.ireturn, 1) := by decide +kernel
theorem dX10_tellReflex_0 : decode cX10_tellReflex 0 = .ok (.aload_n 0, 1) := by decide +kernel
theorem dX10_tellReflex_1 : decode cX10_tellReflex 1 = .ok (.getfield 84, 3) := by decide +kernel
theorem dX10_tellReflex_4 : decode cX10_tellReflex 4 = .ok (.aload_n 0, 1) := by decide +kernel
theorem dX10_tellReflex_5 : decode cX10_tellReflex 5 = .ok (.getfield 318, 3) := by decide +kernel
theorem dX10_tellReflex_8 : decode cX10_tellReflex 8 = .ok (.iaload, 1) := by decide +kernel
theorem dX10_tellReflex_9 : decode cX10_tellReflex 9 = .ok (.bipush 12, 2) := by decide +kernel
theorem dX10_tellReflex_11 : decode cX10_tellReflex 11 = .ok (.if_icmp .ne 9, 3) := by decide +kernel
theorem dX10_tellReflex_14 : decode cX10_tellReflex 14 = .ok (.aload_n 0, 1) := by decide +kernel
theorem dX10_tellReflex_15 : decode cX10_tellReflex 15 = .ok (.iconst 2, 1) := by decide +kernel
theorem dX10_tellReflex_16 : decode cX10_tellReflex 16 = .ok (.invokevirtual 298, 3) := by decide +kernel
theorem dX10_tellReflex_19 : decode cX10_tellReflex 19 = .ok (.ireturn, 1) := by decide +kernel
theorem dX10_tellReflex_20 : decode cX10_tellReflex 20 = .ok (.aload_n 0, 1) := by decide +kernel
theorem dX10_tellReflex_21 : decode cX10_tellReflex 21 = .ok (.invokevirtual 301, 3) := by decide +kernel
theorem dX10_tellReflex_24 : decode cX10_tellReflex 24 = .ok (.ifCond .eq 10, 3) := by decide +kernel
theorem dX10_tellReflex_27 : decode cX10_tellReflex 27 = .ok (.aload_n 0, 1) := by decide +kernel
theorem dX10_tellReflex_28 : decode cX10_tellReflex 28 = .ok (.invokevirtual 351, 3) := by decide +kernel
theorem dX10_tellReflex_31 : decode cX10_tellReflex 31 = .ok (.ifCond .ne 5, 3) := by decide +kernel
theorem dX10_tellReflex_34 : decode cX10_tellReflex 34 = .ok (.iconst 0, 1) := by decide +kernel
theorem dX10_tellReflex_35 : decode cX10_tellReflex 35 = .ok (.ireturn, 1) := by decide +kernel
theorem dX10_tellReflex_36 : decode cX10_tellReflex 36 = .ok (.bipush 12, 2) := by decide +kernel
theorem dX10_tellReflex_38 : decode cX10_tellReflex 38 = .ok (.aload_n 0, 1) := by decide +kernel
theorem dX10_tellReflex_39 : decode cX10_tellReflex 39 = .ok (.getfield 318, 3) := by decide +kernel
theorem dX10_tellReflex_42 : decode cX10_tellReflex 42 = .ok (.imul, 1) := by decide +kernel
theorem dX10_tellReflex_43 : decode cX10_tellReflex 43 = .ok (.aload_n 0, 1) := by decide +kernel
theorem dX10_tellReflex_44 : decode cX10_tellReflex 44 = .ok (.getfield 84, 3) := by decide +kernel
theorem dX10_tellReflex_47 : decode cX10_tellReflex 47 = .ok (.aload_n 0, 1) := by decide +kernel
theorem dX10_tellReflex_48 : decode cX10_tellReflex 48 = .ok (.getfield 318, 3) := by decide +kernel
theorem dX10_tellReflex_51 : decode cX10_tellReflex 51 = .ok (.iaload, 1) := by decide +kernel
theorem dX10_tellReflex_52 : decode cX10_tellReflex 52 = .ok (.iadd, 1) := by decide +kernel
theorem dX10_tellReflex_53 : decode cX10_tellReflex 53 = .ok (.istore_n 1, 1) := by decide +kernel
theorem dX10_tellReflex_54 : decode cX10_tellReflex 54 = .ok (.aload_n 0, 1) := by decide +kernel
theorem dX10_tellReflex_55 : decode cX10_tellReflex 55 = .ok (.getfield 90, 3) := by decide +kernel
theorem dX10_tellReflex_58 : decode cX10_tellReflex 58 = .ok (.iload_n 1, 1) := by decide +kernel
theorem dX10_tellReflex_59 : decode cX10_tellReflex 59 = .ok (.aload_n 0, 1) := by decide +kernel
theorem dX10_tellReflex_60 : decode cX10_tellReflex 60 = .ok (.getfield 342, 3) := by decide +kernel
theorem dX10_tellReflex_63 : decode cX10_tellReflex 63 = .ok (.iastore, 1) := by decide +kernel
theorem dX10_tellReflex_64 : decode cX10_tellReflex 64 = .ok (.aload_n 0, 1) := by decide +kernel
theorem dX10_tellReflex_65 : decode cX10_tellReflex 65 = .ok (.getfield 93, 3) := by decide +kernel
theorem dX10_tellReflex_68 : decode cX10_tellReflex 68 = .ok (.iload_n 1, 1) := by decide +kernel
theorem dX10_tellReflex_69 : decode cX10_tellReflex 69 = .ok (.aload_n 0, 1) := by decide +kernel
theorem dX10_tellReflex_70 : decode cX10_tellReflex 70 = .ok (.getfield 105, 3) := by decide +kernel
theorem dX10_tellReflex_73 : decode cX10_tellReflex 73 = .ok (.aload_n 0, 1) := by decide +kernel
theorem dX10_tellReflex_74 : decode cX10_tellReflex 74 = .ok (.getfield 318, 3) := by decide +kernel
theorem dX10_tellReflex_77 : decode cX10_tellReflex 77 = .ok (.iaload, 1) := by decide +kernel
theorem dX10_tellReflex_78 : decode cX10_tellReflex 78 = .ok (.iastore, 1) := by decide +kernel
theorem dX10_tellReflex_79 : decode cX10_tellReflex 79 = .ok (.aload_n 0, 1) := by decide +kernel
theorem dX10_tellReflex_80 : decode cX10_tellReflex 80 = .ok (.bipush 9, 2) := by decide +kernel
theorem dX10_tellReflex_82 : decode cX10_tellReflex 82 = .ok (.invokevirtual 345, 3) := by decide +kernel
theorem dX10_tellReflex_85 : decode cX10_tellReflex 85 = .ok (.ifCond .ne 9, 3) := by decide +kernel
theorem dX10_tellReflex_88 : decode cX10_tellReflex 88 = .ok (.aload_n 0, 1) := by decide +kernel
theorem dX10_tellReflex_89 : decode cX10_tellReflex 89 = .ok (.iconst 1, 1) := by decide +kernel
theorem dX10_tellReflex_90 : decode cX10_tellReflex 90 = .ok (.invokevirtual 298, 3) := by decide +kernel
theorem dX10_tellReflex_93 : decode cX10_tellReflex 93 = .ok (.ireturn, 1) := by decide +kernel
theorem dX10_tellReflex_94 : decode cX10_tellReflex 94 = .ok (.aload_n 0, 1) := by decide +kernel
theorem dX10_tellReflex_95 : decode cX10_tellReflex 95 = .ok (.invokevirtual 301, 3) := by decide +kernel
theorem dX10_tellReflex_98 : decode cX10_tellReflex 98 = .ok (.ifCond .ne 5, 3) := by decide +kernel
theorem dX10_tellReflex_101 : decode cX10_tellReflex 101 = .ok (.iconst 0, 1) := by decide +kernel
theorem dX10_tellReflex_102 : decode cX10_tellReflex 102 = .ok (.ireturn, 1) := by decide +kernel
theorem dX10_tellReflex_103 : decode cX10_tellReflex 103 = .ok (.aload_n 0, 1) := by decide +kernel
theorem dX10_tellReflex_104 : decode cX10_tellReflex 104 = .ok (.getfield 289, 3) := by decide +kernel
theorem dX10_tellReflex_107 : decode cX10_tellReflex 107 = .ok (.istore_n 2, 1) := by decide +kernel
theorem dX10_tellReflex_108 : decode cX10_tellReflex 108 = .ok (.aload_n 0, 1) := by decide +kernel
theorem dX10_tellReflex_109 : decode cX10_tellReflex 109 = .ok (.iconst 0, 1) := by decide +kernel
theorem dX10_tellReflex_110 : decode cX10_tellReflex 110 = .ok (.invokevirtual 308, 3) := by decide +kernel
theorem dX10_tellReflex_113 : decode cX10_tellReflex 113 = .ok (.ifCond .ne 5, 3) := by decide +kernel
theorem dX10_tellReflex_116 : decode cX10_tellReflex 116 = .ok (.iconst 0, 1) := by decide +kernel
theorem dX10_tellReflex_117 : decode cX10_tellReflex 117 = .ok (.ireturn, 1) := by decide +kernel
theorem dX10_tellReflex_118 : decode cX10_tellReflex 118 = .ok (.aload_n 0, 1) := by decide +kernel
theorem dX10_tellReflex_119 : decode cX10_tellReflex 119 = .ok (.getfield 87, 3) := by decide +kernel
theorem dX10_tellReflex_122 : decode cX10_tellReflex 122 = .ok (.iload_n 1, 1) := by decide +kernel
theorem dX10_tellReflex_123 : decode cX10_tellReflex 123 = .ok (.aload_n 0, 1) := by decide +kernel
theorem dX10_tellReflex_124 : decode cX10_tellReflex 124 = .ok (.aload_n 0, 1) := by decide +kernel
theorem dX10_tellReflex_125 : decode cX10_tellReflex 125 = .ok (.getfield 22, 3) := by decide +kernel
theorem dX10_tellReflex_128 : decode cX10_tellReflex 128 = .ok (.iload_n 2, 1) := by decide +kernel
theorem dX10_tellReflex_129 : decode cX10_tellReflex 129 = .ok (.laload, 1) := by decide +kernel
theorem dX10_tellReflex_130 : decode cX10_tellReflex 130 = .ok (.invokevirtual 354, 3) := by decide +kernel
theorem dX10_tellReflex_133 : decode cX10_tellReflex 133 = .ok (.iastore, 1) := by decide +kernel
theorem dX10_tellReflex_134 : decode cX10_tellReflex 134 = .ok (.aload_n 0, 1) := by decide +kernel
theorem dX10_tellReflex_135 : decode cX10_tellReflex 135 = .ok (.getfield 87, 3) := by decide +kernel
theorem dX10_tellReflex_138 : decode cX10_tellReflex 138 = .ok (.iload_n 1, 1) := by decide +kernel
theorem dX10_tellReflex_139 : decode cX10_tellReflex 139 = .ok (.iaload, 1) := by decide +kernel
theorem dX10_tellReflex_140 : decode cX10_tellReflex 140 = .ok (.ifCond .ge 9, 3) := by decide +kernel
theorem dX10_tellReflex_143 : decode cX10_tellReflex 143 = .ok (.aload_n 0, 1) := by decide +kernel
theorem dX10_tellReflex_144 : decode cX10_tellReflex 144 = .ok (.iconst 4, 1) := by decide +kernel
theorem dX10_tellReflex_145 : decode cX10_tellReflex 145 = .ok (.iload_n 2, 1) := by decide +kernel
theorem dX10_tellReflex_146 : decode cX10_tellReflex 146 = .ok (.invokevirtual 311, 3) := by decide +kernel
theorem dX10_tellReflex_149 : decode cX10_tellReflex 149 = .ok (.aload_n 0, 1) := by decide +kernel
theorem dX10_tellReflex_150 : decode cX10_tellReflex 150 = .ok (.getfield 84, 3) := by decide +kernel
theorem dX10_tellReflex_153 : decode cX10_tellReflex 153 = .ok (.aload_n 0, 1) := by decide +kernel
theorem dX10_tellReflex_154 : decode cX10_tellReflex 154 = .ok (.getfield 318, 3) := by decide +kernel
theorem dX10_tellReflex_157 : decode cX10_tellReflex 157 = .ok (.dup2, 1) := by decide +kernel
theorem dX10_tellReflex_158 : decode cX10_tellReflex 158 = .ok (.iaload, 1) := by decide +kernel
theorem dX10_tellReflex_159 : decode cX10_tellReflex 159 = .ok (.iconst 1, 1) := by decide +kernel
theorem dX10_tellReflex_160 : decode cX10_tellReflex 160 = .ok (.iadd, 1) := by decide +kernel
theorem dX10_tellReflex_161 : decode cX10_tellReflex 161 = .ok (.iastore, 1) := by decide +kernel
theorem dX10_tellReflex_162 : decode cX10_tellReflex 162 = .ok (.iconst 1, 1) := by decide +kernel
theorem dX10_tellReflex_163 : decode cX10_tellReflex 163 = .ok (.ireturn, 1) := by decide +kernel
theorem dX10_tellLaw_0 : decode cX10_tellLaw 0 = .ok (.aload_n 0, 1) := by decide +kernel
theorem dX10_tellLaw_1 : decode cX10_tellLaw 1 = .ok (.invokevirtual 301, 3) := by decide +kernel
theorem dX10_tellLaw_4 : decode cX10_tellLaw 4 = .ok (.ifCond .eq 10, 3) := by decide +kernel
theorem dX10_tellLaw_7 : decode cX10_tellLaw 7 = .ok (.aload_n 0, 1) := by decide +kernel
theorem dX10_tellLaw_8 : decode cX10_tellLaw 8 = .ok (.invokevirtual 348, 3) := by decide +kernel
theorem dX10_tellLaw_11 : decode cX10_tellLaw 11 = .ok (.ifCond .ne 5, 3) := by decide +kernel
theorem dX10_tellLaw_14 : decode cX10_tellLaw 14 = .ok (.iconst 0, 1) := by decide +kernel
theorem dX10_tellLaw_15 : decode cX10_tellLaw 15 = .ok (.ireturn, 1) := by decide +kernel
theorem dX10_tellLaw_16 : decode cX10_tellLaw 16 = .ok (.aload_n 0, 1) := by decide +kernel
theorem dX10_tellLaw_17 : decode cX10_tellLaw 17 = .ok (.getfield 39, 3) := by decide +kernel
theorem dX10_tellLaw_20 : decode cX10_tellLaw 20 = .ok (.iconst 2, 1) := by decide +kernel
theorem dX10_tellLaw_21 : decode cX10_tellLaw 21 = .ok (.aload_n 0, 1) := by decide +kernel
theorem dX10_tellLaw_22 : decode cX10_tellLaw 22 = .ok (.getfield 318, 3) := by decide +kernel
theorem dX10_tellLaw_25 : decode cX10_tellLaw 25 = .ok (.imul, 1) := by decide +kernel
theorem dX10_tellLaw_26 : decode cX10_tellLaw 26 = .ok (.iload_n 1, 1) := by decide +kernel
theorem dX10_tellLaw_27 : decode cX10_tellLaw 27 = .ok (.iadd, 1) := by decide +kernel
theorem dX10_tellLaw_28 : decode cX10_tellLaw 28 = .ok (.aload_n 0, 1) := by decide +kernel
theorem dX10_tellLaw_29 : decode cX10_tellLaw 29 = .ok (.getfield 330, 3) := by decide +kernel
theorem dX10_tellLaw_32 : decode cX10_tellLaw 32 = .ok (.iastore, 1) := by decide +kernel
theorem dX10_tellLaw_33 : decode cX10_tellLaw 33 = .ok (.aload_n 0, 1) := by decide +kernel
theorem dX10_tellLaw_34 : decode cX10_tellLaw 34 = .ok (.getfield 42, 3) := by decide +kernel
theorem dX10_tellLaw_37 : decode cX10_tellLaw 37 = .ok (.iconst 2, 1) := by decide +kernel
theorem dX10_tellLaw_38 : decode cX10_tellLaw 38 = .ok (.aload_n 0, 1) := by decide +kernel
theorem dX10_tellLaw_39 : decode cX10_tellLaw 39 = .ok (.getfield 318, 3) := by decide +kernel
theorem dX10_tellLaw_42 : decode cX10_tellLaw 42 = .ok (.imul, 1) := by decide +kernel
theorem dX10_tellLaw_43 : decode cX10_tellLaw 43 = .ok (.iload_n 1, 1) := by decide +kernel
theorem dX10_tellLaw_44 : decode cX10_tellLaw 44 = .ok (.iadd, 1) := by decide +kernel
theorem dX10_tellLaw_45 : decode cX10_tellLaw 45 = .ok (.aload_n 0, 1) := by decide +kernel
theorem dX10_tellLaw_46 : decode cX10_tellLaw 46 = .ok (.getfield 96, 3) := by decide +kernel
theorem dX10_tellLaw_49 : decode cX10_tellLaw 49 = .ok (.aload_n 0, 1) := by decide +kernel
theorem dX10_tellLaw_50 : decode cX10_tellLaw 50 = .ok (.getfield 318, 3) := by decide +kernel
theorem dX10_tellLaw_53 : decode cX10_tellLaw 53 = .ok (.iaload, 1) := by decide +kernel
theorem dX10_tellLaw_54 : decode cX10_tellLaw 54 = .ok (.iastore, 1) := by decide +kernel
theorem dX10_tellLaw_55 : decode cX10_tellLaw 55 = .ok (.iconst 1, 1) := by decide +kernel
theorem dX10_tellLaw_56 : decode cX10_tellLaw 56 = .ok (.ireturn, 1) := by decide +kernel
theorem dX10_tellNumber_0 : decode cX10_tellNumber 0 = .ok (.aload_n 0, 1) := by decide +kernel
theorem dX10_tellNumber_1 : decode cX10_tellNumber 1 = .ok (.invokevirtual 301, 3) := by decide +kernel
theorem dX10_tellNumber_4 : decode cX10_tellNumber 4 = .ok (.ifCond .eq 31, 3) := by decide +kernel
theorem dX10_tellNumber_7 : decode cX10_tellNumber 7 = .ok (.aload_n 0, 1) := by decide +kernel
theorem dX10_tellNumber_8 : decode cX10_tellNumber 8 = .ok (.iconst 1, 1) := by decide +kernel
theorem dX10_tellNumber_9 : decode cX10_tellNumber 9 = .ok (.iload_n 1, 1) := by decide +kernel
theorem dX10_tellNumber_10 : decode cX10_tellNumber 10 = .ok (.ifCond .ne 8, 3) := by decide +kernel
theorem dX10_tellNumber_13 : decode cX10_tellNumber 13 = .ok (.bipush 8, 2) := by decide +kernel
theorem dX10_tellNumber_15 : decode cX10_tellNumber 15 = .ok (.goto 14, 3) := by decide +kernel
theorem dX10_tellNumber_18 : decode cX10_tellNumber 18 = .ok (.iload_n 1, 1) := by decide +kernel
theorem dX10_tellNumber_19 : decode cX10_tellNumber 19 = .ok (.iconst 1, 1) := by decide +kernel
theorem dX10_tellNumber_20 : decode cX10_tellNumber 20 = .ok (.if_icmp .ne 8, 3) := by decide +kernel
theorem dX10_tellNumber_23 : decode cX10_tellNumber 23 = .ok (.bipush 10, 2) := by decide +kernel
theorem dX10_tellNumber_25 : decode cX10_tellNumber 25 = .ok (.goto 4, 3) := by decide +kernel
theorem dX10_tellNumber_28 : decode cX10_tellNumber 28 = .ok (.iconst 5, 1) := by decide +kernel
theorem dX10_tellNumber_29 : decode cX10_tellNumber 29 = .ok (.invokevirtual 363, 3) := by decide +kernel
theorem dX10_tellNumber_32 : decode cX10_tellNumber 32 = .ok (.ifCond .ne 5, 3) := by decide +kernel
theorem dX10_tellNumber_35 : decode cX10_tellNumber 35 = .ok (.iconst 0, 1) := by decide +kernel
theorem dX10_tellNumber_36 : decode cX10_tellNumber 36 = .ok (.ireturn, 1) := by decide +kernel
theorem dX10_tellNumber_37 : decode cX10_tellNumber 37 = .ok (.iload_n 1, 1) := by decide +kernel
theorem dX10_tellNumber_38 : decode cX10_tellNumber 38 = .ok (.ifCond .ne 16, 3) := by decide +kernel
theorem dX10_tellNumber_41 : decode cX10_tellNumber 41 = .ok (.aload_n 0, 1) := by decide +kernel
theorem dX10_tellNumber_42 : decode cX10_tellNumber 42 = .ok (.getfield 30, 3) := by decide +kernel
theorem dX10_tellNumber_45 : decode cX10_tellNumber 45 = .ok (.aload_n 0, 1) := by decide +kernel
theorem dX10_tellNumber_46 : decode cX10_tellNumber 46 = .ok (.getfield 318, 3) := by decide +kernel
theorem dX10_tellNumber_49 : decode cX10_tellNumber 49 = .ok (.aload_n 0, 1) := by decide +kernel
theorem dX10_tellNumber_50 : decode cX10_tellNumber 50 = .ok (.getfield 315, 3) := by decide +kernel
theorem dX10_tellNumber_53 : decode cX10_tellNumber 53 = .ok (.iastore, 1) := by decide +kernel
theorem dX10_tellNumber_54 : decode cX10_tellNumber 54 = .ok (.iload_n 1, 1) := by decide +kernel
theorem dX10_tellNumber_55 : decode cX10_tellNumber 55 = .ok (.iconst 1, 1) := by decide +kernel
theorem dX10_tellNumber_56 : decode cX10_tellNumber 56 = .ok (.if_icmp .ne 16, 3) := by decide +kernel
theorem dX10_tellNumber_59 : decode cX10_tellNumber 59 = .ok (.aload_n 0, 1) := by decide +kernel
theorem dX10_tellNumber_60 : decode cX10_tellNumber 60 = .ok (.getfield 33, 3) := by decide +kernel
theorem dX10_tellNumber_63 : decode cX10_tellNumber 63 = .ok (.aload_n 0, 1) := by decide +kernel
theorem dX10_tellNumber_64 : decode cX10_tellNumber 64 = .ok (.getfield 318, 3) := by decide +kernel
theorem dX10_tellNumber_67 : decode cX10_tellNumber 67 = .ok (.aload_n 0, 1) := by decide +kernel
theorem dX10_tellNumber_68 : decode cX10_tellNumber 68 = .ok (.getfield 315, 3) := by decide +kernel
theorem dX10_tellNumber_71 : decode cX10_tellNumber 71 = .ok (.iastore, 1) := by decide +kernel
theorem dX10_tellNumber_72 : decode cX10_tellNumber 72 = .ok (.iload_n 1, 1) := by decide +kernel
theorem dX10_tellNumber_73 : decode cX10_tellNumber 73 = .ok (.iconst 2, 1) := by decide +kernel
theorem dX10_tellNumber_74 : decode cX10_tellNumber 74 = .ok (.if_icmp .ne 16, 3) := by decide +kernel
theorem dX10_tellNumber_77 : decode cX10_tellNumber 77 = .ok (.aload_n 0, 1) := by decide +kernel
theorem dX10_tellNumber_78 : decode cX10_tellNumber 78 = .ok (.getfield 36, 3) := by decide +kernel
theorem dX10_tellNumber_81 : decode cX10_tellNumber 81 = .ok (.aload_n 0, 1) := by decide +kernel
theorem dX10_tellNumber_82 : decode cX10_tellNumber 82 = .ok (.getfield 318, 3) := by decide +kernel
theorem dX10_tellNumber_85 : decode cX10_tellNumber 85 = .ok (.aload_n 0, 1) := by decide +kernel
theorem dX10_tellNumber_86 : decode cX10_tellNumber 86 = .ok (.getfield 315, 3) := by decide +kernel
theorem dX10_tellNumber_89 : decode cX10_tellNumber 89 = .ok (.iastore, 1) := by decide +kernel
theorem dX10_tellNumber_90 : decode cX10_tellNumber 90 = .ok (.iconst 1, 1) := by decide +kernel
theorem dX10_tellNumber_91 : decode cX10_tellNumber 91 = .ok (.ireturn, 1) := by decide +kernel
theorem dX10_tell_0 : decode cX10_tell 0 = .ok (.aload_n 0, 1) := by decide +kernel
theorem dX10_tell_1 : decode cX10_tell 1 = .ok (.getfield 13, 3) := by decide +kernel
theorem dX10_tell_4 : decode cX10_tell 4 = .ok (.aload_n 0, 1) := by decide +kernel
theorem dX10_tell_5 : decode cX10_tell 5 = .ok (.getfield 289, 3) := by decide +kernel
theorem dX10_tell_8 : decode cX10_tell 8 = .ok (.iaload, 1) := by decide +kernel
theorem dX10_tell_9 : decode cX10_tell 9 = .ok (.iconst 3, 1) := by decide +kernel
theorem dX10_tell_10 : decode cX10_tell 10 = .ok (.if_icmp .ne 15, 3) := by decide +kernel
theorem dX10_tell_13 : decode cX10_tell 13 = .ok (.aload_n 0, 1) := by decide +kernel
theorem dX10_tell_14 : decode cX10_tell 14 = .ok (.getfield 19, 3) := by decide +kernel
theorem dX10_tell_17 : decode cX10_tell 17 = .ok (.aload_n 0, 1) := by decide +kernel
theorem dX10_tell_18 : decode cX10_tell 18 = .ok (.getfield 289, 3) := by decide +kernel
theorem dX10_tell_21 : decode cX10_tell 21 = .ok (.iaload, 1) := by decide +kernel
theorem dX10_tell_22 : decode cX10_tell 22 = .ok (.goto 4, 3) := by decide +kernel
theorem dX10_tell_25 : decode cX10_tell 25 = .ok (.iconst (-1), 1) := by decide +kernel
theorem dX10_tell_26 : decode cX10_tell 26 = .ok (.istore_n 1, 1) := by decide +kernel
theorem dX10_tell_27 : decode cX10_tell 27 = .ok (.iload_n 1, 1) := by decide +kernel
theorem dX10_tell_28 : decode cX10_tell 28 = .ok (.ifCond .lt 14, 3) := by decide +kernel
theorem dX10_tell_31 : decode cX10_tell 31 = .ok (.iload_n 1, 1) := by decide +kernel
theorem dX10_tell_32 : decode cX10_tell 32 = .ok (.iconst 3, 1) := by decide +kernel
theorem dX10_tell_33 : decode cX10_tell 33 = .ok (.if_icmp .ge 9, 3) := by decide +kernel
theorem dX10_tell_36 : decode cX10_tell 36 = .ok (.aload_n 0, 1) := by decide +kernel
theorem dX10_tell_37 : decode cX10_tell 37 = .ok (.iload_n 1, 1) := by decide +kernel
theorem dX10_tell_38 : decode cX10_tell 38 = .ok (.invokevirtual 367, 3) := by decide +kernel
theorem dX10_tell_41 : decode cX10_tell 41 = .ok (.ireturn, 1) := by decide +kernel
theorem dX10_tell_42 : decode cX10_tell 42 = .ok (.iload_n 1, 1) := by decide +kernel
theorem dX10_tell_43 : decode cX10_tell 43 = .ok (.iconst 3, 1) := by decide +kernel
theorem dX10_tell_44 : decode cX10_tell 44 = .ok (.if_icmp .eq 8, 3) := by decide +kernel
theorem dX10_tell_47 : decode cX10_tell 47 = .ok (.iload_n 1, 1) := by decide +kernel
theorem dX10_tell_48 : decode cX10_tell 48 = .ok (.iconst 4, 1) := by decide +kernel
theorem dX10_tell_49 : decode cX10_tell 49 = .ok (.if_icmp .ne 11, 3) := by decide +kernel
theorem dX10_tell_52 : decode cX10_tell 52 = .ok (.aload_n 0, 1) := by decide +kernel
theorem dX10_tell_53 : decode cX10_tell 53 = .ok (.iload_n 1, 1) := by decide +kernel
theorem dX10_tell_54 : decode cX10_tell 54 = .ok (.iconst 3, 1) := by decide +kernel
theorem dX10_tell_55 : decode cX10_tell 55 = .ok (.isub, 1) := by decide +kernel
theorem dX10_tell_56 : decode cX10_tell 56 = .ok (.invokevirtual 370, 3) := by decide +kernel
theorem dX10_tell_59 : decode cX10_tell 59 = .ok (.ireturn, 1) := by decide +kernel
theorem dX10_tell_60 : decode cX10_tell 60 = .ok (.iload_n 1, 1) := by decide +kernel
theorem dX10_tell_61 : decode cX10_tell 61 = .ok (.iconst 5, 1) := by decide +kernel
theorem dX10_tell_62 : decode cX10_tell 62 = .ok (.if_icmp .ne 8, 3) := by decide +kernel
theorem dX10_tell_65 : decode cX10_tell 65 = .ok (.aload_n 0, 1) := by decide +kernel
theorem dX10_tell_66 : decode cX10_tell 66 = .ok (.invokevirtual 373, 3) := by decide +kernel
theorem dX10_tell_69 : decode cX10_tell 69 = .ok (.ireturn, 1) := by decide +kernel
theorem dX10_tell_70 : decode cX10_tell 70 = .ok (.iload_n 1, 1) := by decide +kernel
theorem dX10_tell_71 : decode cX10_tell 71 = .ok (.bipush 6, 2) := by decide +kernel
theorem dX10_tell_73 : decode cX10_tell 73 = .ok (.if_icmp .ne 8, 3) := by decide +kernel
theorem dX10_tell_76 : decode cX10_tell 76 = .ok (.aload_n 0, 1) := by decide +kernel
theorem dX10_tell_77 : decode cX10_tell 77 = .ok (.invokevirtual 376, 3) := by decide +kernel
theorem dX10_tell_80 : decode cX10_tell 80 = .ok (.ireturn, 1) := by decide +kernel
theorem dX10_tell_81 : decode cX10_tell 81 = .ok (.iload_n 1, 1) := by decide +kernel
theorem dX10_tell_82 : decode cX10_tell 82 = .ok (.bipush 7, 2) := by decide +kernel
theorem dX10_tell_84 : decode cX10_tell 84 = .ok (.if_icmp .ne 10, 3) := by decide +kernel
theorem dX10_tell_87 : decode cX10_tell 87 = .ok (.aload_n 0, 1) := by decide +kernel
theorem dX10_tell_88 : decode cX10_tell 88 = .ok (.invokevirtual 379, 3) := by decide +kernel
theorem dX10_tell_91 : decode cX10_tell 91 = .ok (.goto 8, 3) := by decide +kernel
theorem dX10_tell_94 : decode cX10_tell 94 = .ok (.aload_n 0, 1) := by decide +kernel
theorem dX10_tell_95 : decode cX10_tell 95 = .ok (.iconst 1, 1) := by decide +kernel
theorem dX10_tell_96 : decode cX10_tell 96 = .ok (.invokevirtual 298, 3) := by decide +kernel
theorem dX10_tell_99 : decode cX10_tell 99 = .ok (.ireturn, 1) := by decide +kernel
theorem dX10_parses_0 : decode cX10_parses 0 = .ok (.aload_n 0, 1) := by decide +kernel
theorem dX10_parses_1 : decode cX10_parses 1 = .ok (.iconst 0, 1) := by decide +kernel
theorem dX10_parses_2 : decode cX10_parses 2 = .ok (.putfield 289, 3) := by decide +kernel
theorem dX10_parses_5 : decode cX10_parses 5 = .ok (.aload_n 0, 1) := by decide +kernel
theorem dX10_parses_6 : decode cX10_parses 6 = .ok (.getfield 13, 3) := by decide +kernel
theorem dX10_parses_9 : decode cX10_parses 9 = .ok (.aload_n 0, 1) := by decide +kernel
theorem dX10_parses_10 : decode cX10_parses 10 = .ok (.getfield 289, 3) := by decide +kernel
theorem dX10_parses_13 : decode cX10_parses 13 = .ok (.iaload, 1) := by decide +kernel
theorem dX10_parses_14 : decode cX10_parses 14 = .ok (.iconst 4, 1) := by decide +kernel
theorem dX10_parses_15 : decode cX10_parses 15 = .ok (.if_icmp .eq 36, 3) := by decide +kernel
theorem dX10_parses_18 : decode cX10_parses 18 = .ok (.aload_n 0, 1) := by decide +kernel
theorem dX10_parses_19 : decode cX10_parses 19 = .ok (.invokevirtual 382, 3) := by decide +kernel
theorem dX10_parses_22 : decode cX10_parses 22 = .ok (.ifCond .ne 5, 3) := by decide +kernel
theorem dX10_parses_25 : decode cX10_parses 25 = .ok (.iconst 0, 1) := by decide +kernel
theorem dX10_parses_26 : decode cX10_parses 26 = .ok (.ireturn, 1) := by decide +kernel
theorem dX10_parses_27 : decode cX10_parses 27 = .ok (.aload_n 0, 1) := by decide +kernel
theorem dX10_parses_28 : decode cX10_parses 28 = .ok (.bipush 59, 2) := by decide +kernel
theorem dX10_parses_30 : decode cX10_parses 30 = .ok (.invokevirtual 305, 3) := by decide +kernel
theorem dX10_parses_33 : decode cX10_parses 33 = .ok (.ifCond .ne 9, 3) := by decide +kernel
theorem dX10_parses_36 : decode cX10_parses 36 = .ok (.aload_n 0, 1) := by decide +kernel
theorem dX10_parses_37 : decode cX10_parses 37 = .ok (.iconst 1, 1) := by decide +kernel
theorem dX10_parses_38 : decode cX10_parses 38 = .ok (.invokevirtual 298, 3) := by decide +kernel
theorem dX10_parses_41 : decode cX10_parses 41 = .ok (.ireturn, 1) := by decide +kernel
theorem dX10_parses_42 : decode cX10_parses 42 = .ok (.aload_n 0, 1) := by decide +kernel
theorem dX10_parses_43 : decode cX10_parses 43 = .ok (.invokevirtual 301, 3) := by decide +kernel
theorem dX10_parses_46 : decode cX10_parses 46 = .ok (.ifCond .ne (-41), 3) := by decide +kernel
theorem dX10_parses_49 : decode cX10_parses 49 = .ok (.iconst 0, 1) := by decide +kernel
theorem dX10_parses_50 : decode cX10_parses 50 = .ok (.ireturn, 1) := by decide +kernel
theorem dX10_parses_51 : decode cX10_parses 51 = .ok (.iconst 1, 1) := by decide +kernel
theorem dX10_parses_52 : decode cX10_parses 52 = .ok (.ireturn, 1) := by decide +kernel
theorem dX10_read_0 : decode cX10_read 0 = .ok (.aload_n 0, 1) := by decide +kernel
theorem dX10_read_1 : decode cX10_read 1 = .ok (.invokevirtual 385, 3) := by decide +kernel
theorem dX10_read_4 : decode cX10_read 4 = .ok (.aload_n 0, 1) := by decide +kernel
theorem dX10_read_5 : decode cX10_read 5 = .ok (.iconst 0, 1) := by decide +kernel
theorem dX10_read_6 : decode cX10_read 6 = .ok (.putfield 286, 3) := by decide +kernel
theorem dX10_read_9 : decode cX10_read 9 = .ok (.aload_n 0, 1) := by decide +kernel
theorem dX10_read_10 : decode cX10_read 10 = .ok (.iconst (-1), 1) := by decide +kernel
theorem dX10_read_11 : decode cX10_read 11 = .ok (.putfield 26, 3) := by decide +kernel
theorem dX10_read_14 : decode cX10_read 14 = .ok (.aload_n 0, 1) := by decide +kernel
theorem dX10_read_15 : decode cX10_read 15 = .ok (.iconst 0, 1) := by decide +kernel
theorem dX10_read_16 : decode cX10_read 16 = .ok (.putfield 292, 3) := by decide +kernel
theorem dX10_read_19 : decode cX10_read 19 = .ok (.aload_n 0, 1) := by decide +kernel
theorem dX10_read_20 : decode cX10_read 20 = .ok (.iconst 1, 1) := by decide +kernel
theorem dX10_read_21 : decode cX10_read 21 = .ok (.aload_n 0, 1) := by decide +kernel
theorem dX10_read_22 : decode cX10_read 22 = .ok (.getfield 388, 3) := by decide +kernel
theorem dX10_read_25 : decode cX10_read 25 = .ok (.isub, 1) := by decide +kernel
theorem dX10_read_26 : decode cX10_read 26 = .ok (.putfield 318, 3) := by decide +kernel
theorem dX10_read_29 : decode cX10_read 29 = .ok (.aload_n 0, 1) := by decide +kernel
theorem dX10_read_30 : decode cX10_read 30 = .ok (.aload_n 0, 1) := by decide +kernel
theorem dX10_read_31 : decode cX10_read 31 = .ok (.getfield 318, 3) := by decide +kernel
theorem dX10_read_34 : decode cX10_read 34 = .ok (.invokevirtual 207, 3) := by decide +kernel
theorem dX10_read_37 : decode cX10_read 37 = .ok (.aload_n 0, 1) := by decide +kernel
theorem dX10_read_38 : decode cX10_read 38 = .ok (.invokevirtual 391, 3) := by decide +kernel
theorem dX10_read_41 : decode cX10_read 41 = .ok (.ifCond .eq 26, 3) := by decide +kernel
theorem dX10_read_44 : decode cX10_read 44 = .ok (.aload_n 0, 1) := by decide +kernel
theorem dX10_read_45 : decode cX10_read 45 = .ok (.getfield 292, 3) := by decide +kernel
theorem dX10_read_48 : decode cX10_read 48 = .ok (.ifCond .eq 19, 3) := by decide +kernel
theorem dX10_read_51 : decode cX10_read 51 = .ok (.aload_n 0, 1) := by decide +kernel
theorem dX10_read_52 : decode cX10_read 52 = .ok (.aload_n 0, 1) := by decide +kernel
theorem dX10_read_53 : decode cX10_read 53 = .ok (.getfield 292, 3) := by decide +kernel
theorem dX10_read_56 : decode cX10_read 56 = .ok (.putfield 286, 3) := by decide +kernel
theorem dX10_read_59 : decode cX10_read 59 = .ok (.aload_n 0, 1) := by decide +kernel
theorem dX10_read_60 : decode cX10_read 60 = .ok (.aload_n 0, 1) := by decide +kernel
theorem dX10_read_61 : decode cX10_read 61 = .ok (.getfield 295, 3) := by decide +kernel
theorem dX10_read_64 : decode cX10_read 64 = .ok (.putfield 26, 3) := by decide +kernel
theorem dX10_read_67 : decode cX10_read 67 = .ok (.aload_n 0, 1) := by decide +kernel
theorem dX10_read_68 : decode cX10_read 68 = .ok (.iconst 0, 1) := by decide +kernel
theorem dX10_read_69 : decode cX10_read 69 = .ok (.putfield 214, 3) := by decide +kernel
theorem dX10_read_72 : decode cX10_read 72 = .ok (.aload_n 0, 1) := by decide +kernel
theorem dX10_read_73 : decode cX10_read 73 = .ok (.getfield 286, 3) := by decide +kernel
theorem dX10_read_76 : decode cX10_read 76 = .ok (.ifCond .eq 8, 3) := by decide +kernel
theorem dX10_read_79 : decode cX10_read 79 = .ok (.aload_n 0, 1) := by decide +kernel
theorem dX10_read_80 : decode cX10_read 80 = .ok (.getfield 286, 3) := by decide +kernel
theorem dX10_read_83 : decode cX10_read 83 = .ok (.ireturn, 1) := by decide +kernel
theorem dX10_read_84 : decode cX10_read 84 = .ok (.aload_n 0, 1) := by decide +kernel
theorem dX10_read_85 : decode cX10_read 85 = .ok (.aload_n 0, 1) := by decide +kernel
theorem dX10_read_86 : decode cX10_read 86 = .ok (.getfield 318, 3) := by decide +kernel
theorem dX10_read_89 : decode cX10_read 89 = .ok (.putfield 388, 3) := by decide +kernel
theorem dX10_read_92 : decode cX10_read 92 = .ok (.aload_n 0, 1) := by decide +kernel
theorem dX10_read_93 : decode cX10_read 93 = .ok (.iconst 1, 1) := by decide +kernel
theorem dX10_read_94 : decode cX10_read 94 = .ok (.putfield 127, 3) := by decide +kernel
theorem dX10_read_97 : decode cX10_read 97 = .ok (.aload_n 0, 1) := by decide +kernel
theorem dX10_read_98 : decode cX10_read 98 = .ok (.iconst 0, 1) := by decide +kernel
theorem dX10_read_99 : decode cX10_read 99 = .ok (.putfield 394, 3) := by decide +kernel
theorem dX10_read_102 : decode cX10_read 102 = .ok (.aload_n 0, 1) := by decide +kernel
theorem dX10_read_103 : decode cX10_read 103 = .ok (.invokevirtual 397, 3) := by decide +kernel
theorem dX10_read_106 : decode cX10_read 106 = .ok (.iconst 0, 1) := by decide +kernel
theorem dX10_read_107 : decode cX10_read 107 = .ok (.ireturn, 1) := by decide +kernel
theorem dX10_place_0 : decode cX10_place 0 = .ok (.aload_n 0, 1) := by decide +kernel
theorem dX10_place_1 : decode cX10_place 1 = .ok (.getfield 26, 3) := by decide +kernel
theorem dX10_place_4 : decode cX10_place 4 = .ok (.ireturn, 1) := by decide +kernel
theorem dX10_afresh_0 : decode cX10_afresh 0 = .ok (.aload_n 0, 1) := by decide +kernel
theorem dX10_afresh_1 : decode cX10_afresh 1 = .ok (.iconst 0, 1) := by decide +kernel
theorem dX10_afresh_2 : decode cX10_afresh 2 = .ok (.putfield 400, 3) := by decide +kernel
theorem dX10_afresh_5 : decode cX10_afresh 5 = .ok (.aload_n 0, 1) := by decide +kernel
theorem dX10_afresh_6 : decode cX10_afresh 6 = .ok (.iconst 0, 1) := by decide +kernel
theorem dX10_afresh_7 : decode cX10_afresh 7 = .ok (.putfield 403, 3) := by decide +kernel
theorem dX10_afresh_10 : decode cX10_afresh 10 = .ok (.aload_n 0, 1) := by decide +kernel
theorem dX10_afresh_11 : decode cX10_afresh 11 = .ok (.iconst 0, 1) := by decide +kernel
theorem dX10_afresh_12 : decode cX10_afresh 12 = .ok (.putfield 407, 3) := by decide +kernel
theorem dX10_afresh_15 : decode cX10_afresh 15 = .ok (.aload_n 0, 1) := by decide +kernel
theorem dX10_afresh_16 : decode cX10_afresh 16 = .ok (.iconst 0, 1) := by decide +kernel
theorem dX10_afresh_17 : decode cX10_afresh 17 = .ok (.putfield 410, 3) := by decide +kernel
theorem dX10_afresh_20 : decode cX10_afresh 20 = .ok (.aload_n 0, 1) := by decide +kernel
theorem dX10_afresh_21 : decode cX10_afresh 21 = .ok (.iconst 0, 1) := by decide +kernel
theorem dX10_afresh_22 : decode cX10_afresh 22 = .ok (.putfield 413, 3) := by decide +kernel
theorem dX10_afresh_25 : decode cX10_afresh 25 = .ok (.return_, 1) := by decide +kernel
theorem dX10_pole_0 : decode cX10_pole 0 = .ok (.iload_n 1, 1) := by decide +kernel
theorem dX10_pole_1 : decode cX10_pole 1 = .ok (.iconst 1, 1) := by decide +kernel
theorem dX10_pole_2 : decode cX10_pole 2 = .ok (.if_icmp .lt 8, 3) := by decide +kernel
theorem dX10_pole_5 : decode cX10_pole 5 = .ok (.iload_n 1, 1) := by decide +kernel
theorem dX10_pole_6 : decode cX10_pole 6 = .ok (.iconst 4, 1) := by decide +kernel
theorem dX10_pole_7 : decode cX10_pole 7 = .ok (.if_icmp .le 5, 3) := by decide +kernel
theorem dX10_pole_10 : decode cX10_pole 10 = .ok (.iconst 0, 1) := by decide +kernel
theorem dX10_pole_11 : decode cX10_pole 11 = .ok (.ireturn, 1) := by decide +kernel
theorem dX10_pole_12 : decode cX10_pole 12 = .ok (.aload_n 0, 1) := by decide +kernel
theorem dX10_pole_13 : decode cX10_pole 13 = .ok (.iload_n 1, 1) := by decide +kernel
theorem dX10_pole_14 : decode cX10_pole 14 = .ok (.putfield 127, 3) := by decide +kernel
theorem dX10_pole_17 : decode cX10_pole 17 = .ok (.aload_n 0, 1) := by decide +kernel
theorem dX10_pole_18 : decode cX10_pole 18 = .ok (.getfield 413, 3) := by decide +kernel
theorem dX10_pole_21 : decode cX10_pole 21 = .ok (.istore_n 2, 1) := by decide +kernel
theorem dX10_pole_22 : decode cX10_pole 22 = .ok (.aload_n 0, 1) := by decide +kernel
theorem dX10_pole_23 : decode cX10_pole 23 = .ok (.invokevirtual 397, 3) := by decide +kernel
theorem dX10_pole_26 : decode cX10_pole 26 = .ok (.aload_n 0, 1) := by decide +kernel
theorem dX10_pole_27 : decode cX10_pole 27 = .ok (.iload_n 2, 1) := by decide +kernel
theorem dX10_pole_28 : decode cX10_pole 28 = .ok (.putfield 413, 3) := by decide +kernel
theorem dX10_pole_31 : decode cX10_pole 31 = .ok (.iconst 1, 1) := by decide +kernel
theorem dX10_pole_32 : decode cX10_pole 32 = .ok (.ireturn, 1) := by decide +kernel
theorem dX10_variable_0 : decode cX10_variable 0 = .ok (.iload_n 1, 1) := by decide +kernel
theorem dX10_variable_1 : decode cX10_variable 1 = .ok (.ifCond .ne 10, 3) := by decide +kernel
theorem dX10_variable_4 : decode cX10_variable 4 = .ok (.aload_n 0, 1) := by decide +kernel
theorem dX10_variable_5 : decode cX10_variable 5 = .ok (.getfield 416, 3) := by decide +kernel
theorem dX10_variable_8 : decode cX10_variable 8 = .ok (.goto 55, 3) := by decide +kernel
theorem dX10_variable_11 : decode cX10_variable 11 = .ok (.iload_n 1, 1) := by decide +kernel
theorem dX10_variable_12 : decode cX10_variable 12 = .ok (.iconst 1, 1) := by decide +kernel
theorem dX10_variable_13 : decode cX10_variable 13 = .ok (.if_icmp .ne 10, 3) := by decide +kernel
theorem dX10_variable_16 : decode cX10_variable 16 = .ok (.aload_n 0, 1) := by decide +kernel
theorem dX10_variable_17 : decode cX10_variable 17 = .ok (.getfield 419, 3) := by decide +kernel
theorem dX10_variable_20 : decode cX10_variable 20 = .ok (.goto 43, 3) := by decide +kernel
theorem dX10_variable_23 : decode cX10_variable 23 = .ok (.iload_n 1, 1) := by decide +kernel
theorem dX10_variable_24 : decode cX10_variable 24 = .ok (.iconst 2, 1) := by decide +kernel
theorem dX10_variable_25 : decode cX10_variable 25 = .ok (.if_icmp .ne 10, 3) := by decide +kernel
theorem dX10_variable_28 : decode cX10_variable 28 = .ok (.aload_n 0, 1) := by decide +kernel
theorem dX10_variable_29 : decode cX10_variable 29 = .ok (.getfield 422, 3) := by decide +kernel
theorem dX10_variable_32 : decode cX10_variable 32 = .ok (.goto 31, 3) := by decide +kernel
theorem dX10_variable_35 : decode cX10_variable 35 = .ok (.iload_n 1, 1) := by decide +kernel
theorem dX10_variable_36 : decode cX10_variable 36 = .ok (.iconst 3, 1) := by decide +kernel
theorem dX10_variable_37 : decode cX10_variable 37 = .ok (.if_icmp .ne 10, 3) := by decide +kernel
theorem dX10_variable_40 : decode cX10_variable 40 = .ok (.aload_n 0, 1) := by decide +kernel
theorem dX10_variable_41 : decode cX10_variable 41 = .ok (.getfield 425, 3) := by decide +kernel
theorem dX10_variable_44 : decode cX10_variable 44 = .ok (.goto 19, 3) := by decide +kernel
theorem dX10_variable_47 : decode cX10_variable 47 = .ok (.iload_n 1, 1) := by decide +kernel
theorem dX10_variable_48 : decode cX10_variable 48 = .ok (.iconst 4, 1) := by decide +kernel
theorem dX10_variable_49 : decode cX10_variable 49 = .ok (.if_icmp .ne 10, 3) := by decide +kernel
theorem dX10_variable_52 : decode cX10_variable 52 = .ok (.aload_n 0, 1) := by decide +kernel
theorem dX10_variable_53 : decode cX10_variable 53 = .ok (.getfield 428, 3) := by decide +kernel
theorem dX10_variable_56 : decode cX10_variable 56 = .ok (.goto 7, 3) := by decide +kernel
theorem dX10_variable_59 : decode cX10_variable 59 = .ok (.aload_n 0, 1) := by decide +kernel
theorem dX10_variable_60 : decode cX10_variable 60 = .ok (.getfield 431, 3) := by decide +kernel
theorem dX10_variable_63 : decode cX10_variable 63 = .ok (.ireturn, 1) := by decide +kernel
theorem dX10_sum_0 : decode cX10_sum 0 = .ok (.iconst 0, 1) := by decide +kernel
theorem dX10_sum_1 : decode cX10_sum 1 = .ok (.istore_n 3, 1) := by decide +kernel
theorem dX10_sum_2 : decode cX10_sum 2 = .ok (.aload_n 0, 1) := by decide +kernel
theorem dX10_sum_3 : decode cX10_sum 3 = .ok (.iconst 0, 1) := by decide +kernel
theorem dX10_sum_4 : decode cX10_sum 4 = .ok (.putfield 434, 3) := by decide +kernel
theorem dX10_sum_7 : decode cX10_sum 7 = .ok (.iload_n 1, 1) := by decide +kernel
theorem dX10_sum_8 : decode cX10_sum 8 = .ok (.istore 4, 2) := by decide +kernel
theorem dX10_sum_10 : decode cX10_sum 10 = .ok (.iload 4, 2) := by decide +kernel
theorem dX10_sum_12 : decode cX10_sum 12 = .ok (.iload_n 2, 1) := by decide +kernel
theorem dX10_sum_13 : decode cX10_sum 13 = .ok (.if_icmp .ge 185, 3) := by decide +kernel
theorem dX10_sum_16 : decode cX10_sum 16 = .ok (.aload_n 0, 1) := by decide +kernel
theorem dX10_sum_17 : decode cX10_sum 17 = .ok (.getfield 99, 3) := by decide +kernel
theorem dX10_sum_20 : decode cX10_sum 20 = .ok (.iload 4, 2) := by decide +kernel
theorem dX10_sum_22 : decode cX10_sum 22 = .ok (.iaload, 1) := by decide +kernel
theorem dX10_sum_23 : decode cX10_sum 23 = .ok (.istore 5, 2) := by decide +kernel
theorem dX10_sum_25 : decode cX10_sum 25 = .ok (.iload 5, 2) := by decide +kernel
theorem dX10_sum_27 : decode cX10_sum 27 = .ok (.iconst 2, 1) := by decide +kernel
theorem dX10_sum_28 : decode cX10_sum 28 = .ok (.if_icmp .ge 41, 3) := by decide +kernel
theorem dX10_sum_31 : decode cX10_sum 31 = .ok (.aload_n 0, 1) := by decide +kernel
theorem dX10_sum_32 : decode cX10_sum 32 = .ok (.getfield 154, 3) := by decide +kernel
theorem dX10_sum_35 : decode cX10_sum 35 = .ok (.iload_n 3, 1) := by decide +kernel
theorem dX10_sum_36 : decode cX10_sum 36 = .ok (.iload 5, 2) := by decide +kernel
theorem dX10_sum_38 : decode cX10_sum 38 = .ok (.ifCond .ne 13, 3) := by decide +kernel
theorem dX10_sum_41 : decode cX10_sum 41 = .ok (.aload_n 0, 1) := by decide +kernel
theorem dX10_sum_42 : decode cX10_sum 42 = .ok (.getfield 102, 3) := by decide +kernel
theorem dX10_sum_45 : decode cX10_sum 45 = .ok (.iload 4, 2) := by decide +kernel
theorem dX10_sum_47 : decode cX10_sum 47 = .ok (.iaload, 1) := by decide +kernel
theorem dX10_sum_48 : decode cX10_sum 48 = .ok (.goto 14, 3) := by decide +kernel
theorem dX10_sum_51 : decode cX10_sum 51 = .ok (.aload_n 0, 1) := by decide +kernel
theorem dX10_sum_52 : decode cX10_sum 52 = .ok (.aload_n 0, 1) := by decide +kernel
theorem dX10_sum_53 : decode cX10_sum 53 = .ok (.getfield 102, 3) := by decide +kernel
theorem dX10_sum_56 : decode cX10_sum 56 = .ok (.iload 4, 2) := by decide +kernel
theorem dX10_sum_58 : decode cX10_sum 58 = .ok (.iaload, 1) := by decide +kernel
theorem dX10_sum_59 : decode cX10_sum 59 = .ok (.invokevirtual 437, 3) := by decide +kernel
theorem dX10_sum_62 : decode cX10_sum 62 = .ok (.iastore, 1) := by decide +kernel
theorem dX10_sum_63 : decode cX10_sum 63 = .ok (.iinc 3 1, 3) := by decide +kernel
theorem dX10_sum_66 : decode cX10_sum 66 = .ok (.goto 126, 3) := by decide +kernel
theorem dX10_sum_69 : decode cX10_sum 69 = .ok (.iload 5, 2) := by decide +kernel
theorem dX10_sum_71 : decode cX10_sum 71 = .ok (.bipush 6, 2) := by decide +kernel
theorem dX10_sum_73 : decode cX10_sum 73 = .ok (.if_icmp .ne 23, 3) := by decide +kernel
theorem dX10_sum_76 : decode cX10_sum 76 = .ok (.aload_n 0, 1) := by decide +kernel
theorem dX10_sum_77 : decode cX10_sum 77 = .ok (.getfield 154, 3) := by decide +kernel
theorem dX10_sum_80 : decode cX10_sum 80 = .ok (.iload_n 3, 1) := by decide +kernel
theorem dX10_sum_81 : decode cX10_sum 81 = .ok (.iconst 1, 1) := by decide +kernel
theorem dX10_sum_82 : decode cX10_sum 82 = .ok (.isub, 1) := by decide +kernel
theorem dX10_sum_83 : decode cX10_sum 83 = .ok (.aload_n 0, 1) := by decide +kernel
theorem dX10_sum_84 : decode cX10_sum 84 = .ok (.getfield 154, 3) := by decide +kernel
theorem dX10_sum_87 : decode cX10_sum 87 = .ok (.iload_n 3, 1) := by decide +kernel
theorem dX10_sum_88 : decode cX10_sum 88 = .ok (.iconst 1, 1) := by decide +kernel
theorem dX10_sum_89 : decode cX10_sum 89 = .ok (.isub, 1) := by decide +kernel
theorem dX10_sum_90 : decode cX10_sum 90 = .ok (.iaload, 1) := by decide +kernel
theorem dX10_sum_91 : decode cX10_sum 91 = .ok (.ineg, 1) := by decide +kernel
theorem dX10_sum_92 : decode cX10_sum 92 = .ok (.iastore, 1) := by decide +kernel
theorem dX10_sum_93 : decode cX10_sum 93 = .ok (.goto 99, 3) := by decide +kernel
theorem dX10_sum_96 : decode cX10_sum 96 = .ok (.aload_n 0, 1) := by decide +kernel
theorem dX10_sum_97 : decode cX10_sum 97 = .ok (.getfield 154, 3) := by decide +kernel
theorem dX10_sum_100 : decode cX10_sum 100 = .ok (.iload_n 3, 1) := by decide +kernel
theorem dX10_sum_101 : decode cX10_sum 101 = .ok (.iconst 1, 1) := by decide +kernel
theorem dX10_sum_102 : decode cX10_sum 102 = .ok (.isub, 1) := by decide +kernel
theorem dX10_sum_103 : decode cX10_sum 103 = .ok (.iaload, 1) := by decide +kernel
theorem dX10_sum_104 : decode cX10_sum 104 = .ok (.istore 6, 2) := by decide +kernel
theorem dX10_sum_106 : decode cX10_sum 106 = .ok (.aload_n 0, 1) := by decide +kernel
theorem dX10_sum_107 : decode cX10_sum 107 = .ok (.getfield 154, 3) := by decide +kernel
theorem dX10_sum_110 : decode cX10_sum 110 = .ok (.iload_n 3, 1) := by decide +kernel
theorem dX10_sum_111 : decode cX10_sum 111 = .ok (.iconst 2, 1) := by decide +kernel
theorem dX10_sum_112 : decode cX10_sum 112 = .ok (.isub, 1) := by decide +kernel
theorem dX10_sum_113 : decode cX10_sum 113 = .ok (.iaload, 1) := by decide +kernel
theorem dX10_sum_114 : decode cX10_sum 114 = .ok (.istore 7, 2) := by decide +kernel
theorem dX10_sum_116 : decode cX10_sum 116 = .ok (.iinc 3 (-1), 3) := by decide +kernel
theorem dX10_sum_119 : decode cX10_sum 119 = .ok (.iload 5, 2) := by decide +kernel
theorem dX10_sum_121 : decode cX10_sum 121 = .ok (.iconst 5, 1) := by decide +kernel
theorem dX10_sum_122 : decode cX10_sum 122 = .ok (.if_icmp .ne 15, 3) := by decide +kernel
theorem dX10_sum_125 : decode cX10_sum 125 = .ok (.iload 6, 2) := by decide +kernel
theorem dX10_sum_127 : decode cX10_sum 127 = .ok (.ifCond .ne 10, 3) := by decide +kernel
theorem dX10_sum_130 : decode cX10_sum 130 = .ok (.aload_n 0, 1) := by decide +kernel
theorem dX10_sum_131 : decode cX10_sum 131 = .ok (.iconst 1, 1) := by decide +kernel
theorem dX10_sum_132 : decode cX10_sum 132 = .ok (.putfield 434, 3) := by decide +kernel
theorem dX10_sum_135 : decode cX10_sum 135 = .ok (.iconst 0, 1) := by decide +kernel
theorem dX10_sum_136 : decode cX10_sum 136 = .ok (.ireturn, 1) := by decide +kernel
theorem dX10_sum_137 : decode cX10_sum 137 = .ok (.aload_n 0, 1) := by decide +kernel
theorem dX10_sum_138 : decode cX10_sum 138 = .ok (.getfield 154, 3) := by decide +kernel
theorem dX10_sum_141 : decode cX10_sum 141 = .ok (.iload_n 3, 1) := by decide +kernel
theorem dX10_sum_142 : decode cX10_sum 142 = .ok (.iconst 1, 1) := by decide +kernel
theorem dX10_sum_143 : decode cX10_sum 143 = .ok (.isub, 1) := by decide +kernel
theorem dX10_sum_144 : decode cX10_sum 144 = .ok (.iload 5, 2) := by decide +kernel
theorem dX10_sum_146 : decode cX10_sum 146 = .ok (.iconst 2, 1) := by decide +kernel
theorem dX10_sum_147 : decode cX10_sum 147 = .ok (.if_icmp .ne 11, 3) := by decide +kernel
theorem dX10_sum_150 : decode cX10_sum 150 = .ok (.iload 7, 2) := by decide +kernel
theorem dX10_sum_152 : decode cX10_sum 152 = .ok (.iload 6, 2) := by decide +kernel
theorem dX10_sum_154 : decode cX10_sum 154 = .ok (.iadd, 1) := by decide +kernel
theorem dX10_sum_155 : decode cX10_sum 155 = .ok (.goto 36, 3) := by decide +kernel
theorem dX10_sum_158 : decode cX10_sum 158 = .ok (.iload 5, 2) := by decide +kernel
theorem dX10_sum_160 : decode cX10_sum 160 = .ok (.iconst 3, 1) := by decide +kernel
theorem dX10_sum_161 : decode cX10_sum 161 = .ok (.if_icmp .ne 11, 3) := by decide +kernel
theorem dX10_sum_164 : decode cX10_sum 164 = .ok (.iload 7, 2) := by decide +kernel
theorem dX10_sum_166 : decode cX10_sum 166 = .ok (.iload 6, 2) := by decide +kernel
theorem dX10_sum_168 : decode cX10_sum 168 = .ok (.isub, 1) := by decide +kernel
theorem dX10_sum_169 : decode cX10_sum 169 = .ok (.goto 22, 3) := by decide +kernel
theorem dX10_sum_172 : decode cX10_sum 172 = .ok (.iload 5, 2) := by decide +kernel
theorem dX10_sum_174 : decode cX10_sum 174 = .ok (.iconst 4, 1) := by decide +kernel
theorem dX10_sum_175 : decode cX10_sum 175 = .ok (.if_icmp .ne 11, 3) := by decide +kernel
theorem dX10_sum_178 : decode cX10_sum 178 = .ok (.iload 7, 2) := by decide +kernel
theorem dX10_sum_180 : decode cX10_sum 180 = .ok (.iload 6, 2) := by decide +kernel
theorem dX10_sum_182 : decode cX10_sum 182 = .ok (.imul, 1) := by decide +kernel
theorem dX10_sum_183 : decode cX10_sum 183 = .ok (.goto 8, 3) := by decide +kernel
theorem dX10_sum_186 : decode cX10_sum 186 = .ok (.iload 7, 2) := by decide +kernel
theorem dX10_sum_188 : decode cX10_sum 188 = .ok (.iload 6, 2) := by decide +kernel
theorem dX10_sum_190 : decode cX10_sum 190 = .ok (.idiv, 1) := by decide +kernel
theorem dX10_sum_191 : decode cX10_sum 191 = .ok (.iastore, 1) := by decide +kernel
theorem dX10_sum_192 : decode cX10_sum 192 = .ok (.iinc 4 1, 3) := by decide +kernel
theorem dX10_sum_195 : decode cX10_sum 195 = .ok (.goto (-185), 3) := by decide +kernel
theorem dX10_sum_198 : decode cX10_sum 198 = .ok (.aload_n 0, 1) := by decide +kernel
theorem dX10_sum_199 : decode cX10_sum 199 = .ok (.getfield 154, 3) := by decide +kernel
theorem dX10_sum_202 : decode cX10_sum 202 = .ok (.iconst 0, 1) := by decide +kernel
theorem dX10_sum_203 : decode cX10_sum 203 = .ok (.iaload, 1) := by decide +kernel
theorem dX10_sum_204 : decode cX10_sum 204 = .ok (.ireturn, 1) := by decide +kernel
theorem dX10_isLit_0 : decode cX10_isLit 0 = .ok (.aload_n 0, 1) := by decide +kernel
theorem dX10_isLit_1 : decode cX10_isLit 1 = .ok (.aload_n 0, 1) := by decide +kernel
theorem dX10_isLit_2 : decode cX10_isLit 2 = .ok (.getfield 115, 3) := by decide +kernel
theorem dX10_isLit_5 : decode cX10_isLit 5 = .ok (.iload_n 1, 1) := by decide +kernel
theorem dX10_isLit_6 : decode cX10_isLit 6 = .ok (.iaload, 1) := by decide +kernel
theorem dX10_isLit_7 : decode cX10_isLit 7 = .ok (.aload_n 0, 1) := by decide +kernel
theorem dX10_isLit_8 : decode cX10_isLit 8 = .ok (.getfield 118, 3) := by decide +kernel
theorem dX10_isLit_11 : decode cX10_isLit 11 = .ok (.iload_n 1, 1) := by decide +kernel
theorem dX10_isLit_12 : decode cX10_isLit 12 = .ok (.iaload, 1) := by decide +kernel
theorem dX10_isLit_13 : decode cX10_isLit 13 = .ok (.invokevirtual 440, 3) := by decide +kernel
theorem dX10_isLit_16 : decode cX10_isLit 16 = .ok (.istore_n 2, 1) := by decide +kernel
theorem dX10_isLit_17 : decode cX10_isLit 17 = .ok (.aload_n 0, 1) := by decide +kernel
theorem dX10_isLit_18 : decode cX10_isLit 18 = .ok (.getfield 434, 3) := by decide +kernel
theorem dX10_isLit_21 : decode cX10_isLit 21 = .ok (.ifCond .eq 10, 3) := by decide +kernel
theorem dX10_isLit_24 : decode cX10_isLit 24 = .ok (.aload_n 0, 1) := by decide +kernel
theorem dX10_isLit_25 : decode cX10_isLit 25 = .ok (.getfield 108, 3) := by decide +kernel
theorem dX10_isLit_28 : decode cX10_isLit 28 = .ok (.iload_n 1, 1) := by decide +kernel
theorem dX10_isLit_29 : decode cX10_isLit 29 = .ok (.baload, 1) := by decide +kernel
theorem dX10_isLit_30 : decode cX10_isLit 30 = .ok (.ireturn, 1) := by decide +kernel
theorem dX10_isLit_31 : decode cX10_isLit 31 = .ok (.aload_n 0, 1) := by decide +kernel
theorem dX10_isLit_32 : decode cX10_isLit 32 = .ok (.aload_n 0, 1) := by decide +kernel
theorem dX10_isLit_33 : decode cX10_isLit 33 = .ok (.getfield 118, 3) := by decide +kernel
theorem dX10_isLit_36 : decode cX10_isLit 36 = .ok (.iload_n 1, 1) := by decide +kernel
theorem dX10_isLit_37 : decode cX10_isLit 37 = .ok (.iaload, 1) := by decide +kernel
theorem dX10_isLit_38 : decode cX10_isLit 38 = .ok (.aload_n 0, 1) := by decide +kernel
theorem dX10_isLit_39 : decode cX10_isLit 39 = .ok (.getfield 121, 3) := by decide +kernel
theorem dX10_isLit_42 : decode cX10_isLit 42 = .ok (.iload_n 1, 1) := by decide +kernel
theorem dX10_isLit_43 : decode cX10_isLit 43 = .ok (.iaload, 1) := by decide +kernel
theorem dX10_isLit_44 : decode cX10_isLit 44 = .ok (.invokevirtual 440, 3) := by decide +kernel
theorem dX10_isLit_47 : decode cX10_isLit 47 = .ok (.istore_n 3, 1) := by decide +kernel
theorem dX10_isLit_48 : decode cX10_isLit 48 = .ok (.aload_n 0, 1) := by decide +kernel
theorem dX10_isLit_49 : decode cX10_isLit 49 = .ok (.getfield 434, 3) := by decide +kernel
theorem dX10_isLit_52 : decode cX10_isLit 52 = .ok (.ifCond .eq 10, 3) := by decide +kernel
theorem dX10_isLit_55 : decode cX10_isLit 55 = .ok (.aload_n 0, 1) := by decide +kernel
theorem dX10_isLit_56 : decode cX10_isLit 56 = .ok (.getfield 108, 3) := by decide +kernel
theorem dX10_isLit_59 : decode cX10_isLit 59 = .ok (.iload_n 1, 1) := by decide +kernel
theorem dX10_isLit_60 : decode cX10_isLit 60 = .ok (.baload, 1) := by decide +kernel
theorem dX10_isLit_61 : decode cX10_isLit 61 = .ok (.ireturn, 1) := by decide +kernel
theorem dX10_isLit_62 : decode cX10_isLit 62 = .ok (.aload_n 0, 1) := by decide +kernel
theorem dX10_isLit_63 : decode cX10_isLit 63 = .ok (.getfield 112, 3) := by decide +kernel
theorem dX10_isLit_66 : decode cX10_isLit 66 = .ok (.iload_n 1, 1) := by decide +kernel
theorem dX10_isLit_67 : decode cX10_isLit 67 = .ok (.iaload, 1) := by decide +kernel
theorem dX10_isLit_68 : decode cX10_isLit 68 = .ok (.sipush 300, 3) := by decide +kernel
theorem dX10_isLit_71 : decode cX10_isLit 71 = .ok (.if_icmp .ne 16, 3) := by decide +kernel
theorem dX10_isLit_74 : decode cX10_isLit 74 = .ok (.iload_n 2, 1) := by decide +kernel
theorem dX10_isLit_75 : decode cX10_isLit 75 = .ok (.iload_n 3, 1) := by decide +kernel
theorem dX10_isLit_76 : decode cX10_isLit 76 = .ok (.if_icmp .ne 7, 3) := by decide +kernel
theorem dX10_isLit_79 : decode cX10_isLit 79 = .ok (.iconst 1, 1) := by decide +kernel
theorem dX10_isLit_80 : decode cX10_isLit 80 = .ok (.goto 67, 3) := by decide +kernel
theorem dX10_isLit_83 : decode cX10_isLit 83 = .ok (.iconst 0, 1) := by decide +kernel
theorem dX10_isLit_84 : decode cX10_isLit 84 = .ok (.goto 63, 3) := by decide +kernel
theorem dX10_isLit_87 : decode cX10_isLit 87 = .ok (.aload_n 0, 1) := by decide +kernel
theorem dX10_isLit_88 : decode cX10_isLit 88 = .ok (.getfield 112, 3) := by decide +kernel
theorem dX10_isLit_91 : decode cX10_isLit 91 = .ok (.iload_n 1, 1) := by decide +kernel
theorem dX10_isLit_92 : decode cX10_isLit 92 = .ok (.iaload, 1) := by decide +kernel
theorem dX10_isLit_93 : decode cX10_isLit 93 = .ok (.sipush 301, 3) := by decide +kernel
theorem dX10_isLit_96 : decode cX10_isLit 96 = .ok (.if_icmp .ne 16, 3) := by decide +kernel
theorem dX10_isLit_99 : decode cX10_isLit 99 = .ok (.iload_n 2, 1) := by decide +kernel
theorem dX10_isLit_100 : decode cX10_isLit 100 = .ok (.iload_n 3, 1) := by decide +kernel
theorem dX10_isLit_101 : decode cX10_isLit 101 = .ok (.if_icmp .eq 7, 3) := by decide +kernel
theorem dX10_isLit_104 : decode cX10_isLit 104 = .ok (.iconst 1, 1) := by decide +kernel
theorem dX10_isLit_105 : decode cX10_isLit 105 = .ok (.goto 42, 3) := by decide +kernel
theorem dX10_isLit_108 : decode cX10_isLit 108 = .ok (.iconst 0, 1) := by decide +kernel
theorem dX10_isLit_109 : decode cX10_isLit 109 = .ok (.goto 38, 3) := by decide +kernel
theorem dX10_isLit_112 : decode cX10_isLit 112 = .ok (.aload_n 0, 1) := by decide +kernel
theorem dX10_isLit_113 : decode cX10_isLit 113 = .ok (.getfield 112, 3) := by decide +kernel
theorem dX10_isLit_116 : decode cX10_isLit 116 = .ok (.iload_n 1, 1) := by decide +kernel
theorem dX10_isLit_117 : decode cX10_isLit 117 = .ok (.iaload, 1) := by decide +kernel
theorem dX10_isLit_118 : decode cX10_isLit 118 = .ok (.sipush 302, 3) := by decide +kernel
theorem dX10_isLit_121 : decode cX10_isLit 121 = .ok (.if_icmp .ne 16, 3) := by decide +kernel
theorem dX10_isLit_124 : decode cX10_isLit 124 = .ok (.iload_n 2, 1) := by decide +kernel
theorem dX10_isLit_125 : decode cX10_isLit 125 = .ok (.iload_n 3, 1) := by decide +kernel
theorem dX10_isLit_126 : decode cX10_isLit 126 = .ok (.if_icmp .gt 7, 3) := by decide +kernel
theorem dX10_isLit_129 : decode cX10_isLit 129 = .ok (.iconst 1, 1) := by decide +kernel
theorem dX10_isLit_130 : decode cX10_isLit 130 = .ok (.goto 17, 3) := by decide +kernel
theorem dX10_isLit_133 : decode cX10_isLit 133 = .ok (.iconst 0, 1) := by decide +kernel
theorem dX10_isLit_134 : decode cX10_isLit 134 = .ok (.goto 13, 3) := by decide +kernel
theorem dX10_isLit_137 : decode cX10_isLit 137 = .ok (.iload_n 2, 1) := by decide +kernel
theorem dX10_isLit_138 : decode cX10_isLit 138 = .ok (.iload_n 3, 1) := by decide +kernel
theorem dX10_isLit_139 : decode cX10_isLit 139 = .ok (.if_icmp .ge 7, 3) := by decide +kernel
theorem dX10_isLit_142 : decode cX10_isLit 142 = .ok (.iconst 1, 1) := by decide +kernel
theorem dX10_isLit_143 : decode cX10_isLit 143 = .ok (.goto 4, 3) := by decide +kernel
theorem dX10_isLit_146 : decode cX10_isLit 146 = .ok (.iconst 0, 1) := by decide +kernel
theorem dX10_isLit_147 : decode cX10_isLit 147 = .ok (.istore 4, 2) := by decide +kernel
theorem dX10_isLit_149 : decode cX10_isLit 149 = .ok (.iload 4, 2) := by decide +kernel
theorem dX10_isLit_151 : decode cX10_isLit 151 = .ok (.aload_n 0, 1) := by decide +kernel
theorem dX10_isLit_152 : decode cX10_isLit 152 = .ok (.getfield 108, 3) := by decide +kernel
theorem dX10_isLit_155 : decode cX10_isLit 155 = .ok (.iload_n 1, 1) := by decide +kernel
theorem dX10_isLit_156 : decode cX10_isLit 156 = .ok (.baload, 1) := by decide +kernel
theorem dX10_isLit_157 : decode cX10_isLit 157 = .ok (.if_icmp .eq 7, 3) := by decide +kernel
theorem dX10_isLit_160 : decode cX10_isLit 160 = .ok (.iconst 1, 1) := by decide +kernel
theorem dX10_isLit_161 : decode cX10_isLit 161 = .ok (.goto 4, 3) := by decide +kernel
theorem dX10_isLit_164 : decode cX10_isLit 164 = .ok (.iconst 0, 1) := by decide +kernel
theorem dX10_isLit_165 : decode cX10_isLit 165 = .ok (.ireturn, 1) := by decide +kernel
theorem dX10_isHeld_0 : decode cX10_isHeld 0 = .ok (.iload_n 1, 1) := by decide +kernel
theorem dX10_isHeld_1 : decode cX10_isHeld 1 = .ok (.iload_n 2, 1) := by decide +kernel
theorem dX10_isHeld_2 : decode cX10_isHeld 2 = .ok (.if_icmp .ne 5, 3) := by decide +kernel
theorem dX10_isHeld_5 : decode cX10_isHeld 5 = .ok (.iconst 1, 1) := by decide +kernel
theorem dX10_isHeld_6 : decode cX10_isHeld 6 = .ok (.ireturn, 1) := by decide +kernel
theorem dX10_isHeld_7 : decode cX10_isHeld 7 = .ok (.iload_n 1, 1) := by decide +kernel
theorem dX10_isHeld_8 : decode cX10_isHeld 8 = .ok (.istore_n 3, 1) := by decide +kernel
theorem dX10_isHeld_9 : decode cX10_isHeld 9 = .ok (.iload_n 3, 1) := by decide +kernel
theorem dX10_isHeld_10 : decode cX10_isHeld 10 = .ok (.iload_n 2, 1) := by decide +kernel
theorem dX10_isHeld_11 : decode cX10_isHeld 11 = .ok (.if_icmp .ge 58, 3) := by decide +kernel
theorem dX10_isHeld_14 : decode cX10_isHeld 14 = .ok (.aload_n 0, 1) := by decide +kernel
theorem dX10_isHeld_15 : decode cX10_isHeld 15 = .ok (.getfield 124, 3) := by decide +kernel
theorem dX10_isHeld_18 : decode cX10_isHeld 18 = .ok (.iload_n 3, 1) := by decide +kernel
theorem dX10_isHeld_19 : decode cX10_isHeld 19 = .ok (.iaload, 1) := by decide +kernel
theorem dX10_isHeld_20 : decode cX10_isHeld 20 = .ok (.istore 4, 2) := by decide +kernel
theorem dX10_isHeld_22 : decode cX10_isHeld 22 = .ok (.iconst 1, 1) := by decide +kernel
theorem dX10_isHeld_23 : decode cX10_isHeld 23 = .ok (.istore 5, 2) := by decide +kernel
theorem dX10_isHeld_25 : decode cX10_isHeld 25 = .ok (.iload_n 3, 1) := by decide +kernel
theorem dX10_isHeld_26 : decode cX10_isHeld 26 = .ok (.iload_n 2, 1) := by decide +kernel
theorem dX10_isHeld_27 : decode cX10_isHeld 27 = .ok (.if_icmp .ge 32, 3) := by decide +kernel
theorem dX10_isHeld_30 : decode cX10_isHeld 30 = .ok (.aload_n 0, 1) := by decide +kernel
theorem dX10_isHeld_31 : decode cX10_isHeld 31 = .ok (.getfield 124, 3) := by decide +kernel
theorem dX10_isHeld_34 : decode cX10_isHeld 34 = .ok (.iload_n 3, 1) := by decide +kernel
theorem dX10_isHeld_35 : decode cX10_isHeld 35 = .ok (.iaload, 1) := by decide +kernel
theorem dX10_isHeld_36 : decode cX10_isHeld 36 = .ok (.iload 4, 2) := by decide +kernel
theorem dX10_isHeld_38 : decode cX10_isHeld 38 = .ok (.if_icmp .ne 21, 3) := by decide +kernel
theorem dX10_isHeld_41 : decode cX10_isHeld 41 = .ok (.iload 5, 2) := by decide +kernel
theorem dX10_isHeld_43 : decode cX10_isHeld 43 = .ok (.ifCond .eq 10, 3) := by decide +kernel
theorem dX10_isHeld_46 : decode cX10_isHeld 46 = .ok (.aload_n 0, 1) := by decide +kernel
theorem dX10_isHeld_47 : decode cX10_isHeld 47 = .ok (.iload_n 3, 1) := by decide +kernel
theorem dX10_isHeld_48 : decode cX10_isHeld 48 = .ok (.invokevirtual 444, 3) := by decide +kernel
theorem dX10_isHeld_51 : decode cX10_isHeld 51 = .ok (.istore 5, 2) := by decide +kernel
theorem dX10_isHeld_53 : decode cX10_isHeld 53 = .ok (.iinc 3 1, 3) := by decide +kernel
theorem dX10_isHeld_56 : decode cX10_isHeld 56 = .ok (.goto (-31), 3) := by decide +kernel
theorem dX10_isHeld_59 : decode cX10_isHeld 59 = .ok (.iload 5, 2) := by decide +kernel
theorem dX10_isHeld_61 : decode cX10_isHeld 61 = .ok (.ifCond .eq 5, 3) := by decide +kernel
theorem dX10_isHeld_64 : decode cX10_isHeld 64 = .ok (.iconst 1, 1) := by decide +kernel
theorem dX10_isHeld_65 : decode cX10_isHeld 65 = .ok (.ireturn, 1) := by decide +kernel
theorem dX10_isHeld_66 : decode cX10_isHeld 66 = .ok (.goto (-57), 3) := by decide +kernel
theorem dX10_isHeld_69 : decode cX10_isHeld 69 = .ok (.iconst 0, 1) := by decide +kernel
theorem dX10_isHeld_70 : decode cX10_isHeld 70 = .ok (.ireturn, 1) := by decide +kernel
theorem dX10_numberOf_0 : decode cX10_numberOf 0 = .ok (.iload_n 0, 1) := by decide +kernel
theorem dX10_numberOf_1 : decode cX10_numberOf 1 = .ok (.bipush 21, 2) := by decide +kernel
theorem dX10_numberOf_3 : decode cX10_numberOf 3 = .ok (.imul, 1) := by decide +kernel
theorem dX10_numberOf_4 : decode cX10_numberOf 4 = .ok (.iload_n 1, 1) := by decide +kernel
theorem dX10_numberOf_5 : decode cX10_numberOf 5 = .ok (.iadd, 1) := by decide +kernel
theorem dX10_numberOf_6 : decode cX10_numberOf 6 = .ok (.bipush 10, 2) := by decide +kernel
theorem dX10_numberOf_8 : decode cX10_numberOf 8 = .ok (.iadd, 1) := by decide +kernel
theorem dX10_numberOf_9 : decode cX10_numberOf 9 = .ok (.bipush 11, 2) := by decide +kernel
theorem dX10_numberOf_11 : decode cX10_numberOf 11 = .ok (.imul, 1) := by decide +kernel
theorem dX10_numberOf_12 : decode cX10_numberOf 12 = .ok (.iload_n 2, 1) := by decide +kernel
theorem dX10_numberOf_13 : decode cX10_numberOf 13 = .ok (.iadd, 1) := by decide +kernel
theorem dX10_numberOf_14 : decode cX10_numberOf 14 = .ok (.iconst 5, 1) := by decide +kernel
theorem dX10_numberOf_15 : decode cX10_numberOf 15 = .ok (.iadd, 1) := by decide +kernel
theorem dX10_numberOf_16 : decode cX10_numberOf 16 = .ok (.ireturn, 1) := by decide +kernel
theorem dX10_atOf_0 : decode cX10_atOf 0 = .ok (.iload_n 0, 1) := by decide +kernel
theorem dX10_atOf_1 : decode cX10_atOf 1 = .ok (.sipush 231, 3) := by decide +kernel
theorem dX10_atOf_4 : decode cX10_atOf 4 = .ok (.idiv, 1) := by decide +kernel
theorem dX10_atOf_5 : decode cX10_atOf 5 = .ok (.ireturn, 1) := by decide +kernel
theorem dX10_leanOf_0 : decode cX10_leanOf 0 = .ok (.iload_n 0, 1) := by decide +kernel
theorem dX10_leanOf_1 : decode cX10_leanOf 1 = .ok (.bipush 11, 2) := by decide +kernel
theorem dX10_leanOf_3 : decode cX10_leanOf 3 = .ok (.idiv, 1) := by decide +kernel
theorem dX10_leanOf_4 : decode cX10_leanOf 4 = .ok (.bipush 21, 2) := by decide +kernel
theorem dX10_leanOf_6 : decode cX10_leanOf 6 = .ok (.irem, 1) := by decide +kernel
theorem dX10_leanOf_7 : decode cX10_leanOf 7 = .ok (.bipush 10, 2) := by decide +kernel
theorem dX10_leanOf_9 : decode cX10_leanOf 9 = .ok (.isub, 1) := by decide +kernel
theorem dX10_leanOf_10 : decode cX10_leanOf 10 = .ok (.ireturn, 1) := by decide +kernel
theorem dX10_swingOf_0 : decode cX10_swingOf 0 = .ok (.iload_n 0, 1) := by decide +kernel
theorem dX10_swingOf_1 : decode cX10_swingOf 1 = .ok (.bipush 11, 2) := by decide +kernel
theorem dX10_swingOf_3 : decode cX10_swingOf 3 = .ok (.irem, 1) := by decide +kernel
theorem dX10_swingOf_4 : decode cX10_swingOf 4 = .ok (.iconst 5, 1) := by decide +kernel
theorem dX10_swingOf_5 : decode cX10_swingOf 5 = .ok (.isub, 1) := by decide +kernel
theorem dX10_swingOf_6 : decode cX10_swingOf 6 = .ok (.ireturn, 1) := by decide +kernel
theorem dX10_isPlace_0 : decode cX10_isPlace 0 = .ok (.iload_n 1, 1) := by decide +kernel
theorem dX10_isPlace_1 : decode cX10_isPlace 1 = .ok (.ifCond .lt 74, 3) := by decide +kernel
theorem dX10_isPlace_4 : decode cX10_isPlace 4 = .ok (.iload_n 1, 1) := by decide +kernel
theorem dX10_isPlace_5 : decode cX10_isPlace 5 = .ok (.aload_n 0, 1) := by decide +kernel
theorem dX10_isPlace_6 : decode cX10_isPlace 6 = .ok (.getfield 30, 3) := by decide +kernel
theorem dX10_isPlace_9 : decode cX10_isPlace 9 = .ok (.aload_n 0, 1) := by decide +kernel
theorem dX10_isPlace_10 : decode cX10_isPlace 10 = .ok (.getfield 388, 3) := by decide +kernel
theorem dX10_isPlace_13 : decode cX10_isPlace 13 = .ok (.iaload, 1) := by decide +kernel
theorem dX10_isPlace_14 : decode cX10_isPlace 14 = .ok (.if_icmp .gt 61, 3) := by decide +kernel
theorem dX10_isPlace_17 : decode cX10_isPlace 17 = .ok (.iload_n 2, 1) := by decide +kernel
theorem dX10_isPlace_18 : decode cX10_isPlace 18 = .ok (.aload_n 0, 1) := by decide +kernel
theorem dX10_isPlace_19 : decode cX10_isPlace 19 = .ok (.getfield 33, 3) := by decide +kernel
theorem dX10_isPlace_22 : decode cX10_isPlace 22 = .ok (.aload_n 0, 1) := by decide +kernel
theorem dX10_isPlace_23 : decode cX10_isPlace 23 = .ok (.getfield 388, 3) := by decide +kernel
theorem dX10_isPlace_26 : decode cX10_isPlace 26 = .ok (.iaload, 1) := by decide +kernel
theorem dX10_isPlace_27 : decode cX10_isPlace 27 = .ok (.ineg, 1) := by decide +kernel
theorem dX10_isPlace_28 : decode cX10_isPlace 28 = .ok (.if_icmp .lt 47, 3) := by decide +kernel
theorem dX10_isPlace_31 : decode cX10_isPlace 31 = .ok (.iload_n 2, 1) := by decide +kernel
theorem dX10_isPlace_32 : decode cX10_isPlace 32 = .ok (.aload_n 0, 1) := by decide +kernel
theorem dX10_isPlace_33 : decode cX10_isPlace 33 = .ok (.getfield 33, 3) := by decide +kernel
theorem dX10_isPlace_36 : decode cX10_isPlace 36 = .ok (.aload_n 0, 1) := by decide +kernel
theorem dX10_isPlace_37 : decode cX10_isPlace 37 = .ok (.getfield 388, 3) := by decide +kernel
theorem dX10_isPlace_40 : decode cX10_isPlace 40 = .ok (.iaload, 1) := by decide +kernel
theorem dX10_isPlace_41 : decode cX10_isPlace 41 = .ok (.if_icmp .gt 34, 3) := by decide +kernel
theorem dX10_isPlace_44 : decode cX10_isPlace 44 = .ok (.iload_n 3, 1) := by decide +kernel
theorem dX10_isPlace_45 : decode cX10_isPlace 45 = .ok (.aload_n 0, 1) := by decide +kernel
theorem dX10_isPlace_46 : decode cX10_isPlace 46 = .ok (.getfield 36, 3) := by decide +kernel
theorem dX10_isPlace_49 : decode cX10_isPlace 49 = .ok (.aload_n 0, 1) := by decide +kernel
theorem dX10_isPlace_50 : decode cX10_isPlace 50 = .ok (.getfield 388, 3) := by decide +kernel
theorem dX10_isPlace_53 : decode cX10_isPlace 53 = .ok (.iaload, 1) := by decide +kernel
theorem dX10_isPlace_54 : decode cX10_isPlace 54 = .ok (.ineg, 1) := by decide +kernel
theorem dX10_isPlace_55 : decode cX10_isPlace 55 = .ok (.if_icmp .lt 20, 3) := by decide +kernel
theorem dX10_isPlace_58 : decode cX10_isPlace 58 = .ok (.iload_n 3, 1) := by decide +kernel
theorem dX10_isPlace_59 : decode cX10_isPlace 59 = .ok (.aload_n 0, 1) := by decide +kernel
theorem dX10_isPlace_60 : decode cX10_isPlace 60 = .ok (.getfield 36, 3) := by decide +kernel
theorem dX10_isPlace_63 : decode cX10_isPlace 63 = .ok (.aload_n 0, 1) := by decide +kernel
theorem dX10_isPlace_64 : decode cX10_isPlace 64 = .ok (.getfield 388, 3) := by decide +kernel
theorem dX10_isPlace_67 : decode cX10_isPlace 67 = .ok (.iaload, 1) := by decide +kernel
theorem dX10_isPlace_68 : decode cX10_isPlace 68 = .ok (.if_icmp .gt 7, 3) := by decide +kernel
theorem dX10_isPlace_71 : decode cX10_isPlace 71 = .ok (.iconst 1, 1) := by decide +kernel
theorem dX10_isPlace_72 : decode cX10_isPlace 72 = .ok (.goto 4, 3) := by decide +kernel
theorem dX10_isPlace_75 : decode cX10_isPlace 75 = .ok (.iconst 0, 1) := by decide +kernel
theorem dX10_isPlace_76 : decode cX10_isPlace 76 = .ok (.ireturn, 1) := by decide +kernel
theorem dX10_isState_0 : decode cX10_isState 0 = .ok (.iload_n 1, 1) := by decide +kernel
theorem dX10_isState_1 : decode cX10_isState 1 = .ok (.ifCond .lt 33, 3) := by decide +kernel
theorem dX10_isState_4 : decode cX10_isState 4 = .ok (.iload_n 1, 1) := by decide +kernel
theorem dX10_isState_5 : decode cX10_isState 5 = .ok (.sipush 2079, 3) := by decide +kernel
theorem dX10_isState_8 : decode cX10_isState 8 = .ok (.if_icmp .ge 26, 3) := by decide +kernel
theorem dX10_isState_11 : decode cX10_isState 11 = .ok (.aload_n 0, 1) := by decide +kernel
theorem dX10_isState_12 : decode cX10_isState 12 = .ok (.iload_n 1, 1) := by decide +kernel
theorem dX10_isState_13 : decode cX10_isState 13 = .ok (.invokestatic 447, 3) := by decide +kernel
theorem dX10_isState_16 : decode cX10_isState 16 = .ok (.iload_n 1, 1) := by decide +kernel
theorem dX10_isState_17 : decode cX10_isState 17 = .ok (.invokestatic 450, 3) := by decide +kernel
theorem dX10_isState_20 : decode cX10_isState 20 = .ok (.iload_n 1, 1) := by decide +kernel
theorem dX10_isState_21 : decode cX10_isState 21 = .ok (.invokestatic 453, 3) := by decide +kernel
theorem dX10_isState_24 : decode cX10_isState 24 = .ok (.invokevirtual 456, 3) := by decide +kernel
theorem dX10_isState_27 : decode cX10_isState 27 = .ok (.ifCond .eq 7, 3) := by decide +kernel
theorem dX10_isState_30 : decode cX10_isState 30 = .ok (.iconst 1, 1) := by decide +kernel
theorem dX10_isState_31 : decode cX10_isState 31 = .ok (.goto 4, 3) := by decide +kernel
theorem dX10_isState_34 : decode cX10_isState 34 = .ok (.iconst 0, 1) := by decide +kernel
theorem dX10_isState_35 : decode cX10_isState 35 = .ok (.ireturn, 1) := by decide +kernel
theorem dX10_isOver_0 : decode cX10_isOver 0 = .ok (.iload_n 1, 1) := by decide +kernel
theorem dX10_isOver_1 : decode cX10_isOver 1 = .ok (.invokestatic 447, 3) := by decide +kernel
theorem dX10_isOver_4 : decode cX10_isOver 4 = .ok (.aload_n 0, 1) := by decide +kernel
theorem dX10_isOver_5 : decode cX10_isOver 5 = .ok (.getfield 30, 3) := by decide +kernel
theorem dX10_isOver_8 : decode cX10_isOver 8 = .ok (.aload_n 0, 1) := by decide +kernel
theorem dX10_isOver_9 : decode cX10_isOver 9 = .ok (.getfield 388, 3) := by decide +kernel
theorem dX10_isOver_12 : decode cX10_isOver 12 = .ok (.iaload, 1) := by decide +kernel
theorem dX10_isOver_13 : decode cX10_isOver 13 = .ok (.if_icmp .ne 7, 3) := by decide +kernel
theorem dX10_isOver_16 : decode cX10_isOver 16 = .ok (.iconst 1, 1) := by decide +kernel
theorem dX10_isOver_17 : decode cX10_isOver 17 = .ok (.goto 4, 3) := by decide +kernel
theorem dX10_isOver_20 : decode cX10_isOver 20 = .ok (.iconst 0, 1) := by decide +kernel
theorem dX10_isOver_21 : decode cX10_isOver 21 = .ok (.ireturn, 1) := by decide +kernel
theorem dX10_actsOf_0 : decode cX10_actsOf 0 = .ok (.aload_n 0, 1) := by decide +kernel
theorem dX10_actsOf_1 : decode cX10_actsOf 1 = .ok (.getfield 45, 3) := by decide +kernel
theorem dX10_actsOf_4 : decode cX10_actsOf 4 = .ok (.aload_n 0, 1) := by decide +kernel
theorem dX10_actsOf_5 : decode cX10_actsOf 5 = .ok (.getfield 388, 3) := by decide +kernel
theorem dX10_actsOf_8 : decode cX10_actsOf 8 = .ok (.iaload, 1) := by decide +kernel
theorem dX10_actsOf_9 : decode cX10_actsOf 9 = .ok (.ifCond .ne 7, 3) := by decide +kernel
theorem dX10_actsOf_12 : decode cX10_actsOf 12 = .ok (.iconst 1, 1) := by decide +kernel
theorem dX10_actsOf_13 : decode cX10_actsOf 13 = .ok (.goto 12, 3) := by decide +kernel
theorem dX10_actsOf_16 : decode cX10_actsOf 16 = .ok (.aload_n 0, 1) := by decide +kernel
theorem dX10_actsOf_17 : decode cX10_actsOf 17 = .ok (.getfield 45, 3) := by decide +kernel
theorem dX10_actsOf_20 : decode cX10_actsOf 20 = .ok (.aload_n 0, 1) := by decide +kernel
theorem dX10_actsOf_21 : decode cX10_actsOf 21 = .ok (.getfield 388, 3) := by decide +kernel
theorem dX10_actsOf_24 : decode cX10_actsOf 24 = .ok (.iaload, 1) := by decide +kernel
theorem dX10_actsOf_25 : decode cX10_actsOf 25 = .ok (.ireturn, 1) := by decide +kernel
theorem dX10_look_0 : decode cX10_look 0 = .ok (.aload_n 0, 1) := by decide +kernel
theorem dX10_look_1 : decode cX10_look 1 = .ok (.iload_n 1, 1) := by decide +kernel
theorem dX10_look_2 : decode cX10_look 2 = .ok (.invokestatic 447, 3) := by decide +kernel
theorem dX10_look_5 : decode cX10_look 5 = .ok (.putfield 416, 3) := by decide +kernel
theorem dX10_look_8 : decode cX10_look 8 = .ok (.aload_n 0, 1) := by decide +kernel
theorem dX10_look_9 : decode cX10_look 9 = .ok (.iload_n 1, 1) := by decide +kernel
theorem dX10_look_10 : decode cX10_look 10 = .ok (.invokestatic 450, 3) := by decide +kernel
theorem dX10_look_13 : decode cX10_look 13 = .ok (.putfield 419, 3) := by decide +kernel
theorem dX10_look_16 : decode cX10_look 16 = .ok (.aload_n 0, 1) := by decide +kernel
theorem dX10_look_17 : decode cX10_look 17 = .ok (.iload_n 1, 1) := by decide +kernel
theorem dX10_look_18 : decode cX10_look 18 = .ok (.invokestatic 453, 3) := by decide +kernel
theorem dX10_look_21 : decode cX10_look 21 = .ok (.putfield 422, 3) := by decide +kernel
theorem dX10_look_24 : decode cX10_look 24 = .ok (.aload_n 0, 1) := by decide +kernel
theorem dX10_look_25 : decode cX10_look 25 = .ok (.iload_n 2, 1) := by decide +kernel
theorem dX10_look_26 : decode cX10_look 26 = .ok (.putfield 425, 3) := by decide +kernel
theorem dX10_look_29 : decode cX10_look 29 = .ok (.aload_n 0, 1) := by decide +kernel
theorem dX10_look_30 : decode cX10_look 30 = .ok (.iload_n 3, 1) := by decide +kernel
theorem dX10_look_31 : decode cX10_look 31 = .ok (.putfield 428, 3) := by decide +kernel
theorem dX10_look_34 : decode cX10_look 34 = .ok (.aload_n 0, 1) := by decide +kernel
theorem dX10_look_35 : decode cX10_look 35 = .ok (.aload_n 0, 1) := by decide +kernel
theorem dX10_look_36 : decode cX10_look 36 = .ok (.getfield 127, 3) := by decide +kernel
theorem dX10_look_39 : decode cX10_look 39 = .ok (.putfield 431, 3) := by decide +kernel
theorem dX10_look_42 : decode cX10_look 42 = .ok (.return_, 1) := by decide +kernel
theorem dX10_pushOf_0 : decode cX10_pushOf 0 = .ok (.aload_n 0, 1) := by decide +kernel
theorem dX10_pushOf_1 : decode cX10_pushOf 1 = .ok (.getfield 45, 3) := by decide +kernel
theorem dX10_pushOf_4 : decode cX10_pushOf 4 = .ok (.aload_n 0, 1) := by decide +kernel
theorem dX10_pushOf_5 : decode cX10_pushOf 5 = .ok (.getfield 388, 3) := by decide +kernel
theorem dX10_pushOf_8 : decode cX10_pushOf 8 = .ok (.iaload, 1) := by decide +kernel
theorem dX10_pushOf_9 : decode cX10_pushOf 9 = .ok (.ifCond .ne 7, 3) := by decide +kernel
theorem dX10_pushOf_12 : decode cX10_pushOf 12 = .ok (.iconst 0, 1) := by decide +kernel
theorem dX10_pushOf_13 : decode cX10_pushOf 13 = .ok (.goto 17, 3) := by decide +kernel
theorem dX10_pushOf_16 : decode cX10_pushOf 16 = .ok (.aload_n 0, 1) := by decide +kernel
theorem dX10_pushOf_17 : decode cX10_pushOf 17 = .ok (.getfield 51, 3) := by decide +kernel
theorem dX10_pushOf_20 : decode cX10_pushOf 20 = .ok (.bipush 6, 2) := by decide +kernel
theorem dX10_pushOf_22 : decode cX10_pushOf 22 = .ok (.aload_n 0, 1) := by decide +kernel
theorem dX10_pushOf_23 : decode cX10_pushOf 23 = .ok (.getfield 388, 3) := by decide +kernel
theorem dX10_pushOf_26 : decode cX10_pushOf 26 = .ok (.imul, 1) := by decide +kernel
theorem dX10_pushOf_27 : decode cX10_pushOf 27 = .ok (.iload_n 1, 1) := by decide +kernel
theorem dX10_pushOf_28 : decode cX10_pushOf 28 = .ok (.iadd, 1) := by decide +kernel
theorem dX10_pushOf_29 : decode cX10_pushOf 29 = .ok (.iaload, 1) := by decide +kernel
theorem dX10_pushOf_30 : decode cX10_pushOf 30 = .ok (.ireturn, 1) := by decide +kernel
theorem dX10_mayDo_0 : decode cX10_mayDo 0 = .ok (.aload_n 0, 1) := by decide +kernel
theorem dX10_mayDo_1 : decode cX10_mayDo 1 = .ok (.iload_n 1, 1) := by decide +kernel
theorem dX10_mayDo_2 : decode cX10_mayDo 2 = .ok (.invokevirtual 460, 3) := by decide +kernel
theorem dX10_mayDo_5 : decode cX10_mayDo 5 = .ok (.ifCond .eq 5, 3) := by decide +kernel
theorem dX10_mayDo_8 : decode cX10_mayDo 8 = .ok (.iconst 0, 1) := by decide +kernel
theorem dX10_mayDo_9 : decode cX10_mayDo 9 = .ok (.ireturn, 1) := by decide +kernel
theorem dX10_mayDo_10 : decode cX10_mayDo 10 = .ok (.aload_n 0, 1) := by decide +kernel
theorem dX10_mayDo_11 : decode cX10_mayDo 11 = .ok (.getfield 45, 3) := by decide +kernel
theorem dX10_mayDo_14 : decode cX10_mayDo 14 = .ok (.aload_n 0, 1) := by decide +kernel
theorem dX10_mayDo_15 : decode cX10_mayDo 15 = .ok (.getfield 388, 3) := by decide +kernel
theorem dX10_mayDo_18 : decode cX10_mayDo 18 = .ok (.iaload, 1) := by decide +kernel
theorem dX10_mayDo_19 : decode cX10_mayDo 19 = .ok (.ifCond .ne 5, 3) := by decide +kernel
theorem dX10_mayDo_22 : decode cX10_mayDo 22 = .ok (.iconst 1, 1) := by decide +kernel
theorem dX10_mayDo_23 : decode cX10_mayDo 23 = .ok (.ireturn, 1) := by decide +kernel
theorem dX10_mayDo_24 : decode cX10_mayDo 24 = .ok (.aload_n 0, 1) := by decide +kernel
theorem dX10_mayDo_25 : decode cX10_mayDo 25 = .ok (.iload_n 1, 1) := by decide +kernel
theorem dX10_mayDo_26 : decode cX10_mayDo 26 = .ok (.aload_n 0, 1) := by decide +kernel
theorem dX10_mayDo_27 : decode cX10_mayDo 27 = .ok (.iload_n 2, 1) := by decide +kernel
theorem dX10_mayDo_28 : decode cX10_mayDo 28 = .ok (.invokevirtual 463, 3) := by decide +kernel
theorem dX10_mayDo_31 : decode cX10_mayDo 31 = .ok (.iconst 0, 1) := by decide +kernel
theorem dX10_mayDo_32 : decode cX10_mayDo 32 = .ok (.invokevirtual 466, 3) := by decide +kernel
theorem dX10_mayDo_35 : decode cX10_mayDo 35 = .ok (.aload_n 0, 1) := by decide +kernel
theorem dX10_mayDo_36 : decode cX10_mayDo 36 = .ok (.aload_n 0, 1) := by decide +kernel
theorem dX10_mayDo_37 : decode cX10_mayDo 37 = .ok (.getfield 57, 3) := by decide +kernel
theorem dX10_mayDo_40 : decode cX10_mayDo 40 = .ok (.bipush 6, 2) := by decide +kernel
theorem dX10_mayDo_42 : decode cX10_mayDo 42 = .ok (.aload_n 0, 1) := by decide +kernel
theorem dX10_mayDo_43 : decode cX10_mayDo 43 = .ok (.getfield 388, 3) := by decide +kernel
theorem dX10_mayDo_46 : decode cX10_mayDo 46 = .ok (.imul, 1) := by decide +kernel
theorem dX10_mayDo_47 : decode cX10_mayDo 47 = .ok (.iload_n 2, 1) := by decide +kernel
theorem dX10_mayDo_48 : decode cX10_mayDo 48 = .ok (.iadd, 1) := by decide +kernel
theorem dX10_mayDo_49 : decode cX10_mayDo 49 = .ok (.iaload, 1) := by decide +kernel
theorem dX10_mayDo_50 : decode cX10_mayDo 50 = .ok (.aload_n 0, 1) := by decide +kernel
theorem dX10_mayDo_51 : decode cX10_mayDo 51 = .ok (.getfield 60, 3) := by decide +kernel
theorem dX10_mayDo_54 : decode cX10_mayDo 54 = .ok (.bipush 6, 2) := by decide +kernel
theorem dX10_mayDo_56 : decode cX10_mayDo 56 = .ok (.aload_n 0, 1) := by decide +kernel
theorem dX10_mayDo_57 : decode cX10_mayDo 57 = .ok (.getfield 388, 3) := by decide +kernel
theorem dX10_mayDo_60 : decode cX10_mayDo 60 = .ok (.imul, 1) := by decide +kernel
theorem dX10_mayDo_61 : decode cX10_mayDo 61 = .ok (.iload_n 2, 1) := by decide +kernel
theorem dX10_mayDo_62 : decode cX10_mayDo 62 = .ok (.iadd, 1) := by decide +kernel
theorem dX10_mayDo_63 : decode cX10_mayDo 63 = .ok (.iaload, 1) := by decide +kernel
theorem dX10_mayDo_64 : decode cX10_mayDo 64 = .ok (.invokevirtual 469, 3) := by decide +kernel
theorem dX10_mayDo_67 : decode cX10_mayDo 67 = .ok (.ireturn, 1) := by decide +kernel
theorem dX10_beaten_0 : decode cX10_beaten 0 = .ok (.aload_n 0, 1) := by decide +kernel
theorem dX10_beaten_1 : decode cX10_beaten 1 = .ok (.iload_n 1, 1) := by decide +kernel
theorem dX10_beaten_2 : decode cX10_beaten 2 = .ok (.aload_n 0, 1) := by decide +kernel
theorem dX10_beaten_3 : decode cX10_beaten 3 = .ok (.iload_n 2, 1) := by decide +kernel
theorem dX10_beaten_4 : decode cX10_beaten 4 = .ok (.invokevirtual 463, 3) := by decide +kernel
theorem dX10_beaten_7 : decode cX10_beaten 7 = .ok (.iload_n 3, 1) := by decide +kernel
theorem dX10_beaten_8 : decode cX10_beaten 8 = .ok (.invokevirtual 466, 3) := by decide +kernel
theorem dX10_beaten_11 : decode cX10_beaten 11 = .ok (.aload_n 0, 1) := by decide +kernel
theorem dX10_beaten_12 : decode cX10_beaten 12 = .ok (.getfield 422, 3) := by decide +kernel
theorem dX10_beaten_15 : decode cX10_beaten 15 = .ok (.aload_n 0, 1) := by decide +kernel
theorem dX10_beaten_16 : decode cX10_beaten 16 = .ok (.getfield 419, 3) := by decide +kernel
theorem dX10_beaten_19 : decode cX10_beaten 19 = .ok (.iconst 4, 1) := by decide +kernel
theorem dX10_beaten_20 : decode cX10_beaten 20 = .ok (.idiv, 1) := by decide +kernel
theorem dX10_beaten_21 : decode cX10_beaten 21 = .ok (.iadd, 1) := by decide +kernel
theorem dX10_beaten_22 : decode cX10_beaten 22 = .ok (.iload_n 3, 1) := by decide +kernel
theorem dX10_beaten_23 : decode cX10_beaten 23 = .ok (.iadd, 1) := by decide +kernel
theorem dX10_beaten_24 : decode cX10_beaten 24 = .ok (.aload_n 0, 1) := by decide +kernel
theorem dX10_beaten_25 : decode cX10_beaten 25 = .ok (.getfield 425, 3) := by decide +kernel
theorem dX10_beaten_28 : decode cX10_beaten 28 = .ok (.aload_n 0, 1) := by decide +kernel
theorem dX10_beaten_29 : decode cX10_beaten 29 = .ok (.getfield 127, 3) := by decide +kernel
theorem dX10_beaten_32 : decode cX10_beaten 32 = .ok (.imul, 1) := by decide +kernel
theorem dX10_beaten_33 : decode cX10_beaten 33 = .ok (.isub, 1) := by decide +kernel
theorem dX10_beaten_34 : decode cX10_beaten 34 = .ok (.istore 4, 2) := by decide +kernel
theorem dX10_beaten_36 : decode cX10_beaten 36 = .ok (.aload_n 0, 1) := by decide +kernel
theorem dX10_beaten_37 : decode cX10_beaten 37 = .ok (.getfield 39, 3) := by decide +kernel
theorem dX10_beaten_40 : decode cX10_beaten 40 = .ok (.iconst 2, 1) := by decide +kernel
theorem dX10_beaten_41 : decode cX10_beaten 41 = .ok (.aload_n 0, 1) := by decide +kernel
theorem dX10_beaten_42 : decode cX10_beaten 42 = .ok (.getfield 388, 3) := by decide +kernel
theorem dX10_beaten_45 : decode cX10_beaten 45 = .ok (.imul, 1) := by decide +kernel
theorem dX10_beaten_46 : decode cX10_beaten 46 = .ok (.iaload, 1) := by decide +kernel
theorem dX10_beaten_47 : decode cX10_beaten 47 = .ok (.ifCond .lt 41, 3) := by decide +kernel
theorem dX10_beaten_50 : decode cX10_beaten 50 = .ok (.aload_n 0, 1) := by decide +kernel
theorem dX10_beaten_51 : decode cX10_beaten 51 = .ok (.aload_n 0, 1) := by decide +kernel
theorem dX10_beaten_52 : decode cX10_beaten 52 = .ok (.getfield 39, 3) := by decide +kernel
theorem dX10_beaten_55 : decode cX10_beaten 55 = .ok (.iconst 2, 1) := by decide +kernel
theorem dX10_beaten_56 : decode cX10_beaten 56 = .ok (.aload_n 0, 1) := by decide +kernel
theorem dX10_beaten_57 : decode cX10_beaten 57 = .ok (.getfield 388, 3) := by decide +kernel
theorem dX10_beaten_60 : decode cX10_beaten 60 = .ok (.imul, 1) := by decide +kernel
theorem dX10_beaten_61 : decode cX10_beaten 61 = .ok (.iaload, 1) := by decide +kernel
theorem dX10_beaten_62 : decode cX10_beaten 62 = .ok (.aload_n 0, 1) := by decide +kernel
theorem dX10_beaten_63 : decode cX10_beaten 63 = .ok (.getfield 42, 3) := by decide +kernel
theorem dX10_beaten_66 : decode cX10_beaten 66 = .ok (.iconst 2, 1) := by decide +kernel
theorem dX10_beaten_67 : decode cX10_beaten 67 = .ok (.aload_n 0, 1) := by decide +kernel
theorem dX10_beaten_68 : decode cX10_beaten 68 = .ok (.getfield 388, 3) := by decide +kernel
theorem dX10_beaten_71 : decode cX10_beaten 71 = .ok (.imul, 1) := by decide +kernel
theorem dX10_beaten_72 : decode cX10_beaten 72 = .ok (.iaload, 1) := by decide +kernel
theorem dX10_beaten_73 : decode cX10_beaten 73 = .ok (.invokevirtual 440, 3) := by decide +kernel
theorem dX10_beaten_76 : decode cX10_beaten 76 = .ok (.istore 4, 2) := by decide +kernel
theorem dX10_beaten_78 : decode cX10_beaten 78 = .ok (.aload_n 0, 1) := by decide +kernel
theorem dX10_beaten_79 : decode cX10_beaten 79 = .ok (.getfield 434, 3) := by decide +kernel
theorem dX10_beaten_82 : decode cX10_beaten 82 = .ok (.ifCond .eq 6, 3) := by decide +kernel
theorem dX10_beaten_85 : decode cX10_beaten 85 = .ok (.bipush (-2), 2) := by decide +kernel
theorem dX10_beaten_87 : decode cX10_beaten 87 = .ok (.ireturn, 1) := by decide +kernel
theorem dX10_beaten_88 : decode cX10_beaten 88 = .ok (.aload_n 0, 1) := by decide +kernel
theorem dX10_beaten_89 : decode cX10_beaten 89 = .ok (.iload 4, 2) := by decide +kernel
theorem dX10_beaten_91 : decode cX10_beaten 91 = .ok (.putfield 422, 3) := by decide +kernel
theorem dX10_beaten_94 : decode cX10_beaten 94 = .ok (.aload_n 0, 1) := by decide +kernel
theorem dX10_beaten_95 : decode cX10_beaten 95 = .ok (.getfield 419, 3) := by decide +kernel
theorem dX10_beaten_98 : decode cX10_beaten 98 = .ok (.iload 4, 2) := by decide +kernel
theorem dX10_beaten_100 : decode cX10_beaten 100 = .ok (.iadd, 1) := by decide +kernel
theorem dX10_beaten_101 : decode cX10_beaten 101 = .ok (.istore 5, 2) := by decide +kernel
theorem dX10_beaten_103 : decode cX10_beaten 103 = .ok (.aload_n 0, 1) := by decide +kernel
theorem dX10_beaten_104 : decode cX10_beaten 104 = .ok (.getfield 39, 3) := by decide +kernel
theorem dX10_beaten_107 : decode cX10_beaten 107 = .ok (.iconst 2, 1) := by decide +kernel
theorem dX10_beaten_108 : decode cX10_beaten 108 = .ok (.aload_n 0, 1) := by decide +kernel
theorem dX10_beaten_109 : decode cX10_beaten 109 = .ok (.getfield 388, 3) := by decide +kernel
theorem dX10_beaten_112 : decode cX10_beaten 112 = .ok (.imul, 1) := by decide +kernel
theorem dX10_beaten_113 : decode cX10_beaten 113 = .ok (.iconst 1, 1) := by decide +kernel
theorem dX10_beaten_114 : decode cX10_beaten 114 = .ok (.iadd, 1) := by decide +kernel
theorem dX10_beaten_115 : decode cX10_beaten 115 = .ok (.iaload, 1) := by decide +kernel
theorem dX10_beaten_116 : decode cX10_beaten 116 = .ok (.ifCond .lt 45, 3) := by decide +kernel
theorem dX10_beaten_119 : decode cX10_beaten 119 = .ok (.aload_n 0, 1) := by decide +kernel
theorem dX10_beaten_120 : decode cX10_beaten 120 = .ok (.aload_n 0, 1) := by decide +kernel
theorem dX10_beaten_121 : decode cX10_beaten 121 = .ok (.getfield 39, 3) := by decide +kernel
theorem dX10_beaten_124 : decode cX10_beaten 124 = .ok (.iconst 2, 1) := by decide +kernel
theorem dX10_beaten_125 : decode cX10_beaten 125 = .ok (.aload_n 0, 1) := by decide +kernel
theorem dX10_beaten_126 : decode cX10_beaten 126 = .ok (.getfield 388, 3) := by decide +kernel
theorem dX10_beaten_129 : decode cX10_beaten 129 = .ok (.imul, 1) := by decide +kernel
theorem dX10_beaten_130 : decode cX10_beaten 130 = .ok (.iconst 1, 1) := by decide +kernel
theorem dX10_beaten_131 : decode cX10_beaten 131 = .ok (.iadd, 1) := by decide +kernel
theorem dX10_beaten_132 : decode cX10_beaten 132 = .ok (.iaload, 1) := by decide +kernel
theorem dX10_beaten_133 : decode cX10_beaten 133 = .ok (.aload_n 0, 1) := by decide +kernel
theorem dX10_beaten_134 : decode cX10_beaten 134 = .ok (.getfield 42, 3) := by decide +kernel
theorem dX10_beaten_137 : decode cX10_beaten 137 = .ok (.iconst 2, 1) := by decide +kernel
theorem dX10_beaten_138 : decode cX10_beaten 138 = .ok (.aload_n 0, 1) := by decide +kernel
theorem dX10_beaten_139 : decode cX10_beaten 139 = .ok (.getfield 388, 3) := by decide +kernel
theorem dX10_beaten_142 : decode cX10_beaten 142 = .ok (.imul, 1) := by decide +kernel
theorem dX10_beaten_143 : decode cX10_beaten 143 = .ok (.iconst 1, 1) := by decide +kernel
theorem dX10_beaten_144 : decode cX10_beaten 144 = .ok (.iadd, 1) := by decide +kernel
theorem dX10_beaten_145 : decode cX10_beaten 145 = .ok (.iaload, 1) := by decide +kernel
theorem dX10_beaten_146 : decode cX10_beaten 146 = .ok (.invokevirtual 440, 3) := by decide +kernel
theorem dX10_beaten_149 : decode cX10_beaten 149 = .ok (.istore 5, 2) := by decide +kernel
theorem dX10_beaten_151 : decode cX10_beaten 151 = .ok (.aload_n 0, 1) := by decide +kernel
theorem dX10_beaten_152 : decode cX10_beaten 152 = .ok (.getfield 434, 3) := by decide +kernel
theorem dX10_beaten_155 : decode cX10_beaten 155 = .ok (.ifCond .eq 6, 3) := by decide +kernel
theorem dX10_beaten_158 : decode cX10_beaten 158 = .ok (.bipush (-2), 2) := by decide +kernel
theorem dX10_beaten_160 : decode cX10_beaten 160 = .ok (.ireturn, 1) := by decide +kernel
theorem dX10_beaten_161 : decode cX10_beaten 161 = .ok (.aload_n 0, 1) := by decide +kernel
theorem dX10_beaten_162 : decode cX10_beaten 162 = .ok (.getfield 416, 3) := by decide +kernel
theorem dX10_beaten_165 : decode cX10_beaten 165 = .ok (.aload_n 0, 1) := by decide +kernel
theorem dX10_beaten_166 : decode cX10_beaten 166 = .ok (.getfield 45, 3) := by decide +kernel
theorem dX10_beaten_169 : decode cX10_beaten 169 = .ok (.aload_n 0, 1) := by decide +kernel
theorem dX10_beaten_170 : decode cX10_beaten 170 = .ok (.getfield 388, 3) := by decide +kernel
theorem dX10_beaten_173 : decode cX10_beaten 173 = .ok (.iaload, 1) := by decide +kernel
theorem dX10_beaten_174 : decode cX10_beaten 174 = .ok (.ifCond .ne 7, 3) := by decide +kernel
theorem dX10_beaten_177 : decode cX10_beaten 177 = .ok (.iconst 1, 1) := by decide +kernel
theorem dX10_beaten_178 : decode cX10_beaten 178 = .ok (.goto 17, 3) := by decide +kernel
theorem dX10_beaten_181 : decode cX10_beaten 181 = .ok (.aload_n 0, 1) := by decide +kernel
theorem dX10_beaten_182 : decode cX10_beaten 182 = .ok (.getfield 54, 3) := by decide +kernel
theorem dX10_beaten_185 : decode cX10_beaten 185 = .ok (.bipush 6, 2) := by decide +kernel
theorem dX10_beaten_187 : decode cX10_beaten 187 = .ok (.aload_n 0, 1) := by decide +kernel
theorem dX10_beaten_188 : decode cX10_beaten 188 = .ok (.getfield 388, 3) := by decide +kernel
theorem dX10_beaten_191 : decode cX10_beaten 191 = .ok (.imul, 1) := by decide +kernel
theorem dX10_beaten_192 : decode cX10_beaten 192 = .ok (.iload_n 2, 1) := by decide +kernel
theorem dX10_beaten_193 : decode cX10_beaten 193 = .ok (.iadd, 1) := by decide +kernel
theorem dX10_beaten_194 : decode cX10_beaten 194 = .ok (.iaload, 1) := by decide +kernel
theorem dX10_beaten_195 : decode cX10_beaten 195 = .ok (.iadd, 1) := by decide +kernel
theorem dX10_beaten_196 : decode cX10_beaten 196 = .ok (.istore 6, 2) := by decide +kernel
theorem dX10_beaten_198 : decode cX10_beaten 198 = .ok (.iload 6, 2) := by decide +kernel
theorem dX10_beaten_200 : decode cX10_beaten 200 = .ok (.ifCond .ge 7, 3) := by decide +kernel
theorem dX10_beaten_203 : decode cX10_beaten 203 = .ok (.iconst 0, 1) := by decide +kernel
theorem dX10_beaten_204 : decode cX10_beaten 204 = .ok (.goto 31, 3) := by decide +kernel
theorem dX10_beaten_207 : decode cX10_beaten 207 = .ok (.iload 6, 2) := by decide +kernel
theorem dX10_beaten_209 : decode cX10_beaten 209 = .ok (.aload_n 0, 1) := by decide +kernel
theorem dX10_beaten_210 : decode cX10_beaten 210 = .ok (.getfield 30, 3) := by decide +kernel
theorem dX10_beaten_213 : decode cX10_beaten 213 = .ok (.aload_n 0, 1) := by decide +kernel
theorem dX10_beaten_214 : decode cX10_beaten 214 = .ok (.getfield 388, 3) := by decide +kernel
theorem dX10_beaten_217 : decode cX10_beaten 217 = .ok (.iaload, 1) := by decide +kernel
theorem dX10_beaten_218 : decode cX10_beaten 218 = .ok (.if_icmp .le 15, 3) := by decide +kernel
theorem dX10_beaten_221 : decode cX10_beaten 221 = .ok (.aload_n 0, 1) := by decide +kernel
theorem dX10_beaten_222 : decode cX10_beaten 222 = .ok (.getfield 30, 3) := by decide +kernel
theorem dX10_beaten_225 : decode cX10_beaten 225 = .ok (.aload_n 0, 1) := by decide +kernel
theorem dX10_beaten_226 : decode cX10_beaten 226 = .ok (.getfield 388, 3) := by decide +kernel
theorem dX10_beaten_229 : decode cX10_beaten 229 = .ok (.iaload, 1) := by decide +kernel
theorem dX10_beaten_230 : decode cX10_beaten 230 = .ok (.goto 5, 3) := by decide +kernel
theorem dX10_beaten_233 : decode cX10_beaten 233 = .ok (.iload 6, 2) := by decide +kernel
theorem dX10_beaten_235 : decode cX10_beaten 235 = .ok (.istore 6, 2) := by decide +kernel
theorem dX10_beaten_237 : decode cX10_beaten 237 = .ok (.aload_n 0, 1) := by decide +kernel
theorem dX10_beaten_238 : decode cX10_beaten 238 = .ok (.iload 6, 2) := by decide +kernel
theorem dX10_beaten_240 : decode cX10_beaten 240 = .ok (.iload 5, 2) := by decide +kernel
theorem dX10_beaten_242 : decode cX10_beaten 242 = .ok (.iload 4, 2) := by decide +kernel
theorem dX10_beaten_244 : decode cX10_beaten 244 = .ok (.invokevirtual 456, 3) := by decide +kernel
theorem dX10_beaten_247 : decode cX10_beaten 247 = .ok (.ifCond .eq 15, 3) := by decide +kernel
theorem dX10_beaten_250 : decode cX10_beaten 250 = .ok (.iload 6, 2) := by decide +kernel
theorem dX10_beaten_252 : decode cX10_beaten 252 = .ok (.iload 5, 2) := by decide +kernel
theorem dX10_beaten_254 : decode cX10_beaten 254 = .ok (.iload 4, 2) := by decide +kernel
theorem dX10_beaten_256 : decode cX10_beaten 256 = .ok (.invokestatic 472, 3) := by decide +kernel
theorem dX10_beaten_259 : decode cX10_beaten 259 = .ok (.goto 5, 3) := by decide +kernel
theorem dX10_beaten_262 : decode cX10_beaten 262 = .ok (.bipush (-2), 2) := by decide +kernel
theorem dX10_beaten_264 : decode cX10_beaten 264 = .ok (.ireturn, 1) := by decide +kernel
theorem dX10_blow_0 : decode cX10_blow 0 = .ok (.aload_n 0, 1) := by decide +kernel
theorem dX10_blow_1 : decode cX10_blow 1 = .ok (.getfield 157, 3) := by decide +kernel
theorem dX10_blow_4 : decode cX10_blow 4 = .ok (.iload_n 1, 1) := by decide +kernel
theorem dX10_blow_5 : decode cX10_blow 5 = .ok (.iconst 0, 1) := by decide +kernel
theorem dX10_blow_6 : decode cX10_blow 6 = .ok (.iastore, 1) := by decide +kernel
theorem dX10_blow_7 : decode cX10_blow 7 = .ok (.aload_n 0, 1) := by decide +kernel
theorem dX10_blow_8 : decode cX10_blow 8 = .ok (.getfield 160, 3) := by decide +kernel
theorem dX10_blow_11 : decode cX10_blow 11 = .ok (.iload_n 1, 1) := by decide +kernel
theorem dX10_blow_12 : decode cX10_blow 12 = .ok (.iconst 0, 1) := by decide +kernel
theorem dX10_blow_13 : decode cX10_blow 13 = .ok (.iastore, 1) := by decide +kernel
theorem dX10_blow_14 : decode cX10_blow 14 = .ok (.aload_n 0, 1) := by decide +kernel
theorem dX10_blow_15 : decode cX10_blow 15 = .ok (.iload_n 1, 1) := by decide +kernel
theorem dX10_blow_16 : decode cX10_blow 16 = .ok (.iconst 0, 1) := by decide +kernel
theorem dX10_blow_17 : decode cX10_blow 17 = .ok (.iconst 0, 1) := by decide +kernel
theorem dX10_blow_18 : decode cX10_blow 18 = .ok (.invokevirtual 466, 3) := by decide +kernel
theorem dX10_blow_21 : decode cX10_blow 21 = .ok (.aload_n 0, 1) := by decide +kernel
theorem dX10_blow_22 : decode cX10_blow 22 = .ok (.getfield 63, 3) := by decide +kernel
theorem dX10_blow_25 : decode cX10_blow 25 = .ok (.aload_n 0, 1) := by decide +kernel
theorem dX10_blow_26 : decode cX10_blow 26 = .ok (.getfield 388, 3) := by decide +kernel
theorem dX10_blow_29 : decode cX10_blow 29 = .ok (.iaload, 1) := by decide +kernel
theorem dX10_blow_30 : decode cX10_blow 30 = .ok (.iconst 1, 1) := by decide +kernel
theorem dX10_blow_31 : decode cX10_blow 31 = .ok (.isub, 1) := by decide +kernel
theorem dX10_blow_32 : decode cX10_blow 32 = .ok (.istore_n 2, 1) := by decide +kernel
theorem dX10_blow_33 : decode cX10_blow 33 = .ok (.iload_n 2, 1) := by decide +kernel
theorem dX10_blow_34 : decode cX10_blow 34 = .ok (.ifCond .lt 92, 3) := by decide +kernel
theorem dX10_blow_37 : decode cX10_blow 37 = .ok (.bipush 8, 2) := by decide +kernel
theorem dX10_blow_39 : decode cX10_blow 39 = .ok (.aload_n 0, 1) := by decide +kernel
theorem dX10_blow_40 : decode cX10_blow 40 = .ok (.getfield 388, 3) := by decide +kernel
theorem dX10_blow_43 : decode cX10_blow 43 = .ok (.imul, 1) := by decide +kernel
theorem dX10_blow_44 : decode cX10_blow 44 = .ok (.iload_n 2, 1) := by decide +kernel
theorem dX10_blow_45 : decode cX10_blow 45 = .ok (.iadd, 1) := by decide +kernel
theorem dX10_blow_46 : decode cX10_blow 46 = .ok (.istore_n 3, 1) := by decide +kernel
theorem dX10_blow_47 : decode cX10_blow 47 = .ok (.aload_n 0, 1) := by decide +kernel
theorem dX10_blow_48 : decode cX10_blow 48 = .ok (.getfield 416, 3) := by decide +kernel
theorem dX10_blow_51 : decode cX10_blow 51 = .ok (.aload_n 0, 1) := by decide +kernel
theorem dX10_blow_52 : decode cX10_blow 52 = .ok (.getfield 66, 3) := by decide +kernel
theorem dX10_blow_55 : decode cX10_blow 55 = .ok (.iload_n 3, 1) := by decide +kernel
theorem dX10_blow_56 : decode cX10_blow 56 = .ok (.iaload, 1) := by decide +kernel
theorem dX10_blow_57 : decode cX10_blow 57 = .ok (.if_icmp .lt 63, 3) := by decide +kernel
theorem dX10_blow_60 : decode cX10_blow 60 = .ok (.aload_n 0, 1) := by decide +kernel
theorem dX10_blow_61 : decode cX10_blow 61 = .ok (.getfield 416, 3) := by decide +kernel
theorem dX10_blow_64 : decode cX10_blow 64 = .ok (.aload_n 0, 1) := by decide +kernel
theorem dX10_blow_65 : decode cX10_blow 65 = .ok (.getfield 69, 3) := by decide +kernel
theorem dX10_blow_68 : decode cX10_blow 68 = .ok (.iload_n 3, 1) := by decide +kernel
theorem dX10_blow_69 : decode cX10_blow 69 = .ok (.iaload, 1) := by decide +kernel
theorem dX10_blow_70 : decode cX10_blow 70 = .ok (.if_icmp .gt 50, 3) := by decide +kernel
theorem dX10_blow_73 : decode cX10_blow 73 = .ok (.aload_n 0, 1) := by decide +kernel
theorem dX10_blow_74 : decode cX10_blow 74 = .ok (.aload_n 0, 1) := by decide +kernel
theorem dX10_blow_75 : decode cX10_blow 75 = .ok (.getfield 78, 3) := by decide +kernel
theorem dX10_blow_78 : decode cX10_blow 78 = .ok (.iload_n 3, 1) := by decide +kernel
theorem dX10_blow_79 : decode cX10_blow 79 = .ok (.iaload, 1) := by decide +kernel
theorem dX10_blow_80 : decode cX10_blow 80 = .ok (.aload_n 0, 1) := by decide +kernel
theorem dX10_blow_81 : decode cX10_blow 81 = .ok (.getfield 81, 3) := by decide +kernel
theorem dX10_blow_84 : decode cX10_blow 84 = .ok (.iload_n 3, 1) := by decide +kernel
theorem dX10_blow_85 : decode cX10_blow 85 = .ok (.iaload, 1) := by decide +kernel
theorem dX10_blow_86 : decode cX10_blow 86 = .ok (.invokevirtual 469, 3) := by decide +kernel
theorem dX10_blow_89 : decode cX10_blow 89 = .ok (.ifCond .ne 6, 3) := by decide +kernel
theorem dX10_blow_92 : decode cX10_blow 92 = .ok (.goto 28, 3) := by decide +kernel
theorem dX10_blow_95 : decode cX10_blow 95 = .ok (.aload_n 0, 1) := by decide +kernel
theorem dX10_blow_96 : decode cX10_blow 96 = .ok (.getfield 157, 3) := by decide +kernel
theorem dX10_blow_99 : decode cX10_blow 99 = .ok (.iload_n 1, 1) := by decide +kernel
theorem dX10_blow_100 : decode cX10_blow 100 = .ok (.aload_n 0, 1) := by decide +kernel
theorem dX10_blow_101 : decode cX10_blow 101 = .ok (.getfield 72, 3) := by decide +kernel
theorem dX10_blow_104 : decode cX10_blow 104 = .ok (.iload_n 3, 1) := by decide +kernel
theorem dX10_blow_105 : decode cX10_blow 105 = .ok (.iaload, 1) := by decide +kernel
theorem dX10_blow_106 : decode cX10_blow 106 = .ok (.iastore, 1) := by decide +kernel
theorem dX10_blow_107 : decode cX10_blow 107 = .ok (.aload_n 0, 1) := by decide +kernel
theorem dX10_blow_108 : decode cX10_blow 108 = .ok (.getfield 160, 3) := by decide +kernel
theorem dX10_blow_111 : decode cX10_blow 111 = .ok (.iload_n 1, 1) := by decide +kernel
theorem dX10_blow_112 : decode cX10_blow 112 = .ok (.aload_n 0, 1) := by decide +kernel
theorem dX10_blow_113 : decode cX10_blow 113 = .ok (.getfield 75, 3) := by decide +kernel
theorem dX10_blow_116 : decode cX10_blow 116 = .ok (.iload_n 3, 1) := by decide +kernel
theorem dX10_blow_117 : decode cX10_blow 117 = .ok (.iaload, 1) := by decide +kernel
theorem dX10_blow_118 : decode cX10_blow 118 = .ok (.iastore, 1) := by decide +kernel
theorem dX10_blow_119 : decode cX10_blow 119 = .ok (.return_, 1) := by decide +kernel
theorem dX10_blow_120 : decode cX10_blow 120 = .ok (.iinc 2 (-1), 3) := by decide +kernel
theorem dX10_blow_123 : decode cX10_blow 123 = .ok (.goto (-90), 3) := by decide +kernel
theorem dX10_blow_126 : decode cX10_blow 126 = .ok (.return_, 1) := by decide +kernel
theorem dX10_layAll_0 : decode cX10_layAll 0 = .ok (.iconst 0, 1) := by decide +kernel
theorem dX10_layAll_1 : decode cX10_layAll 1 = .ok (.istore_n 1, 1) := by decide +kernel
theorem dX10_layAll_2 : decode cX10_layAll 2 = .ok (.iload_n 1, 1) := by decide +kernel
theorem dX10_layAll_3 : decode cX10_layAll 3 = .ok (.sipush 2079, 3) := by decide +kernel
theorem dX10_layAll_6 : decode cX10_layAll 6 = .ok (.if_icmp .ge 116, 3) := by decide +kernel
theorem dX10_layAll_9 : decode cX10_layAll 9 = .ok (.aload_n 0, 1) := by decide +kernel
theorem dX10_layAll_10 : decode cX10_layAll 10 = .ok (.iload_n 1, 1) := by decide +kernel
theorem dX10_layAll_11 : decode cX10_layAll 11 = .ok (.invokevirtual 476, 3) := by decide +kernel
theorem dX10_layAll_14 : decode cX10_layAll 14 = .ok (.ifCond .ne 6, 3) := by decide +kernel
theorem dX10_layAll_17 : decode cX10_layAll 17 = .ok (.goto 99, 3) := by decide +kernel
theorem dX10_layAll_20 : decode cX10_layAll 20 = .ok (.aload_n 0, 1) := by decide +kernel
theorem dX10_layAll_21 : decode cX10_layAll 21 = .ok (.iload_n 1, 1) := by decide +kernel
theorem dX10_layAll_22 : decode cX10_layAll 22 = .ok (.invokevirtual 479, 3) := by decide +kernel
theorem dX10_layAll_25 : decode cX10_layAll 25 = .ok (.iconst 0, 1) := by decide +kernel
theorem dX10_layAll_26 : decode cX10_layAll 26 = .ok (.istore_n 2, 1) := by decide +kernel
theorem dX10_layAll_27 : decode cX10_layAll 27 = .ok (.iload_n 2, 1) := by decide +kernel
theorem dX10_layAll_28 : decode cX10_layAll 28 = .ok (.aload_n 0, 1) := by decide +kernel
theorem dX10_layAll_29 : decode cX10_layAll 29 = .ok (.invokevirtual 482, 3) := by decide +kernel
theorem dX10_layAll_32 : decode cX10_layAll 32 = .ok (.if_icmp .ge 84, 3) := by decide +kernel
theorem dX10_layAll_35 : decode cX10_layAll 35 = .ok (.aload_n 0, 1) := by decide +kernel
theorem dX10_layAll_36 : decode cX10_layAll 36 = .ok (.getfield 163, 3) := by decide +kernel
theorem dX10_layAll_39 : decode cX10_layAll 39 = .ok (.bipush 6, 2) := by decide +kernel
theorem dX10_layAll_41 : decode cX10_layAll 41 = .ok (.iload_n 1, 1) := by decide +kernel
theorem dX10_layAll_42 : decode cX10_layAll 42 = .ok (.imul, 1) := by decide +kernel
theorem dX10_layAll_43 : decode cX10_layAll 43 = .ok (.iload_n 2, 1) := by decide +kernel
theorem dX10_layAll_44 : decode cX10_layAll 44 = .ok (.iadd, 1) := by decide +kernel
theorem dX10_layAll_45 : decode cX10_layAll 45 = .ok (.aload_n 0, 1) := by decide +kernel
theorem dX10_layAll_46 : decode cX10_layAll 46 = .ok (.iload_n 1, 1) := by decide +kernel
theorem dX10_layAll_47 : decode cX10_layAll 47 = .ok (.iload_n 2, 1) := by decide +kernel
theorem dX10_layAll_48 : decode cX10_layAll 48 = .ok (.invokevirtual 486, 3) := by decide +kernel
theorem dX10_layAll_51 : decode cX10_layAll 51 = .ok (.bastore, 1) := by decide +kernel
theorem dX10_layAll_52 : decode cX10_layAll 52 = .ok (.aload_n 0, 1) := by decide +kernel
theorem dX10_layAll_53 : decode cX10_layAll 53 = .ok (.getfield 163, 3) := by decide +kernel
theorem dX10_layAll_56 : decode cX10_layAll 56 = .ok (.bipush 6, 2) := by decide +kernel
theorem dX10_layAll_58 : decode cX10_layAll 58 = .ok (.iload_n 1, 1) := by decide +kernel
theorem dX10_layAll_59 : decode cX10_layAll 59 = .ok (.imul, 1) := by decide +kernel
theorem dX10_layAll_60 : decode cX10_layAll 60 = .ok (.iload_n 2, 1) := by decide +kernel
theorem dX10_layAll_61 : decode cX10_layAll 61 = .ok (.iadd, 1) := by decide +kernel
theorem dX10_layAll_62 : decode cX10_layAll 62 = .ok (.baload, 1) := by decide +kernel
theorem dX10_layAll_63 : decode cX10_layAll 63 = .ok (.ifCond .ne 6, 3) := by decide +kernel
theorem dX10_layAll_66 : decode cX10_layAll 66 = .ok (.goto 44, 3) := by decide +kernel
theorem dX10_layAll_69 : decode cX10_layAll 69 = .ok (.bipush (-12), 2) := by decide +kernel
theorem dX10_layAll_71 : decode cX10_layAll 71 = .ok (.istore_n 3, 1) := by decide +kernel
theorem dX10_layAll_72 : decode cX10_layAll 72 = .ok (.iload_n 3, 1) := by decide +kernel
theorem dX10_layAll_73 : decode cX10_layAll 73 = .ok (.bipush 12, 2) := by decide +kernel
theorem dX10_layAll_75 : decode cX10_layAll 75 = .ok (.if_icmp .gt 35, 3) := by decide +kernel
theorem dX10_layAll_78 : decode cX10_layAll 78 = .ok (.aload_n 0, 1) := by decide +kernel
theorem dX10_layAll_79 : decode cX10_layAll 79 = .ok (.getfield 167, 3) := by decide +kernel
theorem dX10_layAll_82 : decode cX10_layAll 82 = .ok (.bipush 25, 2) := by decide +kernel
theorem dX10_layAll_84 : decode cX10_layAll 84 = .ok (.bipush 6, 2) := by decide +kernel
theorem dX10_layAll_86 : decode cX10_layAll 86 = .ok (.iload_n 1, 1) := by decide +kernel
theorem dX10_layAll_87 : decode cX10_layAll 87 = .ok (.imul, 1) := by decide +kernel
theorem dX10_layAll_88 : decode cX10_layAll 88 = .ok (.iload_n 2, 1) := by decide +kernel
theorem dX10_layAll_89 : decode cX10_layAll 89 = .ok (.iadd, 1) := by decide +kernel
theorem dX10_layAll_90 : decode cX10_layAll 90 = .ok (.imul, 1) := by decide +kernel
theorem dX10_layAll_91 : decode cX10_layAll 91 = .ok (.iload_n 3, 1) := by decide +kernel
theorem dX10_layAll_92 : decode cX10_layAll 92 = .ok (.iadd, 1) := by decide +kernel
theorem dX10_layAll_93 : decode cX10_layAll 93 = .ok (.bipush 12, 2) := by decide +kernel
theorem dX10_layAll_95 : decode cX10_layAll 95 = .ok (.iadd, 1) := by decide +kernel
theorem dX10_layAll_96 : decode cX10_layAll 96 = .ok (.aload_n 0, 1) := by decide +kernel
theorem dX10_layAll_97 : decode cX10_layAll 97 = .ok (.iload_n 1, 1) := by decide +kernel
theorem dX10_layAll_98 : decode cX10_layAll 98 = .ok (.iload_n 2, 1) := by decide +kernel
theorem dX10_layAll_99 : decode cX10_layAll 99 = .ok (.iload_n 3, 1) := by decide +kernel
theorem dX10_layAll_100 : decode cX10_layAll 100 = .ok (.invokevirtual 489, 3) := by decide +kernel
theorem dX10_layAll_103 : decode cX10_layAll 103 = .ok (.iastore, 1) := by decide +kernel
theorem dX10_layAll_104 : decode cX10_layAll 104 = .ok (.iinc 3 1, 3) := by decide +kernel
theorem dX10_layAll_107 : decode cX10_layAll 107 = .ok (.goto (-35), 3) := by decide +kernel
theorem dX10_layAll_110 : decode cX10_layAll 110 = .ok (.iinc 2 1, 3) := by decide +kernel
theorem dX10_layAll_113 : decode cX10_layAll 113 = .ok (.goto (-86), 3) := by decide +kernel
theorem dX10_layAll_116 : decode cX10_layAll 116 = .ok (.iinc 1 1, 3) := by decide +kernel
theorem dX10_layAll_119 : decode cX10_layAll 119 = .ok (.goto (-117), 3) := by decide +kernel
theorem dX10_layAll_122 : decode cX10_layAll 122 = .ok (.return_, 1) := by decide +kernel
theorem dX10_leads_0 : decode cX10_leads 0 = .ok (.aload_n 0, 1) := by decide +kernel
theorem dX10_leads_1 : decode cX10_leads 1 = .ok (.getfield 167, 3) := by decide +kernel
theorem dX10_leads_4 : decode cX10_leads 4 = .ok (.bipush 25, 2) := by decide +kernel
theorem dX10_leads_6 : decode cX10_leads 6 = .ok (.bipush 6, 2) := by decide +kernel
theorem dX10_leads_8 : decode cX10_leads 8 = .ok (.iload_n 1, 1) := by decide +kernel
theorem dX10_leads_9 : decode cX10_leads 9 = .ok (.imul, 1) := by decide +kernel
theorem dX10_leads_10 : decode cX10_leads 10 = .ok (.iload_n 2, 1) := by decide +kernel
theorem dX10_leads_11 : decode cX10_leads 11 = .ok (.iadd, 1) := by decide +kernel
theorem dX10_leads_12 : decode cX10_leads 12 = .ok (.imul, 1) := by decide +kernel
theorem dX10_leads_13 : decode cX10_leads 13 = .ok (.iload_n 3, 1) := by decide +kernel
theorem dX10_leads_14 : decode cX10_leads 14 = .ok (.iadd, 1) := by decide +kernel
theorem dX10_leads_15 : decode cX10_leads 15 = .ok (.bipush 12, 2) := by decide +kernel
theorem dX10_leads_17 : decode cX10_leads 17 = .ok (.iadd, 1) := by decide +kernel
theorem dX10_leads_18 : decode cX10_leads 18 = .ok (.iaload, 1) := by decide +kernel
theorem dX10_leads_19 : decode cX10_leads 19 = .ok (.ireturn, 1) := by decide +kernel
theorem dX10_lay_0 : decode cX10_lay 0 = .ok (.aload_n 0, 1) := by decide +kernel
theorem dX10_lay_1 : decode cX10_lay 1 = .ok (.getfield 410, 3) := by decide +kernel
theorem dX10_lay_4 : decode cX10_lay 4 = .ok (.ifCond .eq 4, 3) := by decide +kernel
theorem dX10_lay_7 : decode cX10_lay 7 = .ok (.return_, 1) := by decide +kernel
theorem dX10_lay_8 : decode cX10_lay 8 = .ok (.aload_n 0, 1) := by decide +kernel
theorem dX10_lay_9 : decode cX10_lay 9 = .ok (.iconst 1, 1) := by decide +kernel
