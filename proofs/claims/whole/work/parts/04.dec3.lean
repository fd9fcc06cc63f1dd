theorem dX7_skipBlanks_31 : decode cX7_skipBlanks 31 = .ok (.iinc 1 1, 3) := by decide +kernel
theorem dX7_skipBlanks_34 : decode cX7_skipBlanks 34 = .ok (.goto (-29), 3) := by decide +kernel
theorem dX7_skipBlanks_37 : decode cX7_skipBlanks 37 = .ok (.return_, 1) := by decide +kernel
theorem dX7_isBlank_0 : decode cX7_isBlank 0 = .ok (.iload_n 0, 1) := by decide +kernel
theorem dX7_isBlank_1 : decode cX7_isBlank 1 = .ok (.bipush 32, 2) := by decide +kernel
theorem dX7_isBlank_3 : decode cX7_isBlank 3 = .ok (.if_icmp .eq 21, 3) := by decide +kernel
theorem dX7_isBlank_6 : decode cX7_isBlank 6 = .ok (.iload_n 0, 1) := by decide +kernel
theorem dX7_isBlank_7 : decode cX7_isBlank 7 = .ok (.bipush 9, 2) := by decide +kernel
theorem dX7_isBlank_9 : decode cX7_isBlank 9 = .ok (.if_icmp .eq 15, 3) := by decide +kernel
theorem dX7_isBlank_12 : decode cX7_isBlank 12 = .ok (.iload_n 0, 1) := by decide +kernel
theorem dX7_isBlank_13 : decode cX7_isBlank 13 = .ok (.bipush 10, 2) := by decide +kernel
theorem dX7_isBlank_15 : decode cX7_isBlank 15 = .ok (.if_icmp .eq 9, 3) := by decide +kernel
theorem dX7_isBlank_18 : decode cX7_isBlank 18 = .ok (.iload_n 0, 1) := by decide +kernel
theorem dX7_isBlank_19 : decode cX7_isBlank 19 = .ok (.bipush 13, 2) := by decide +kernel
theorem dX7_isBlank_21 : decode cX7_isBlank 21 = .ok (.if_icmp .ne 7, 3) := by decide +kernel
theorem dX7_isBlank_24 : decode cX7_isBlank 24 = .ok (.iconst 1, 1) := by decide +kernel
theorem dX7_isBlank_25 : decode cX7_isBlank 25 = .ok (.goto 4, 3) := by decide +kernel
theorem dX7_isBlank_28 : decode cX7_isBlank 28 = .ok (.iconst 0, 1) := by decide +kernel
theorem dX7_isBlank_29 : decode cX7_isBlank 29 = .ok (.ireturn, 1) := by decide +kernel
theorem dX7_isLetter_0 : decode cX7_isLetter 0 = .ok (.iload_n 0, 1) := by decide +kernel
theorem dX7_isLetter_1 : decode cX7_isLetter 1 = .ok (.bipush 97, 2) := by decide +kernel
theorem dX7_isLetter_3 : decode cX7_isLetter 3 = .ok (.if_icmp .lt 13, 3) := by decide +kernel
theorem dX7_isLetter_6 : decode cX7_isLetter 6 = .ok (.iload_n 0, 1) := by decide +kernel
theorem dX7_isLetter_7 : decode cX7_isLetter 7 = .ok (.bipush 122, 2) := by decide +kernel
theorem dX7_isLetter_9 : decode cX7_isLetter 9 = .ok (.if_icmp .gt 7, 3) := by decide +kernel
theorem dX7_isLetter_12 : decode cX7_isLetter 12 = .ok (.iconst 1, 1) := by decide +kernel
theorem dX7_isLetter_13 : decode cX7_isLetter 13 = .ok (.goto 4, 3) := by decide +kernel
theorem dX7_isLetter_16 : decode cX7_isLetter 16 = .ok (.iconst 0, 1) := by decide +kernel
theorem dX7_isLetter_17 : decode cX7_isLetter 17 = .ok (.ireturn, 1) := by decide +kernel
theorem dX7_isDigit_0 : decode cX7_isDigit 0 = .ok (.iload_n 0, 1) := by decide +kernel
theorem dX7_isDigit_1 : decode cX7_isDigit 1 = .ok (.bipush 48, 2) := by decide +kernel
theorem dX7_isDigit_3 : decode cX7_isDigit 3 = .ok (.if_icmp .lt 13, 3) := by decide +kernel
theorem dX7_isDigit_6 : decode cX7_isDigit 6 = .ok (.iload_n 0, 1) := by decide +kernel
theorem dX7_isDigit_7 : decode cX7_isDigit 7 = .ok (.bipush 57, 2) := by decide +kernel
theorem dX7_isDigit_9 : decode cX7_isDigit 9 = .ok (.if_icmp .gt 7, 3) := by decide +kernel
theorem dX7_isDigit_12 : decode cX7_isDigit 12 = .ok (.iconst 1, 1) := by decide +kernel
theorem dX7_isDigit_13 : decode cX7_isDigit 13 = .ok (.goto 4, 3) := by decide +kernel
theorem dX7_isDigit_16 : decode cX7_isDigit 16 = .ok (.iconst 0, 1) := by decide +kernel
theorem dX7_isDigit_17 : decode cX7_isDigit 17 = .ok (.ireturn, 1) := by decide +kernel
theorem dX7_token_0 : decode cX7_token 0 = .ok (.aload_n 0, 1) := by decide +kernel
theorem dX7_token_1 : decode cX7_token 1 = .ok (.aload_n 0, 1) := by decide +kernel
theorem dX7_token_2 : decode cX7_token 2 = .ok (.getfield 29, 3) := by decide +kernel
theorem dX7_token_5 : decode cX7_token 5 = .ok (.invokevirtual 39, 3) := by decide +kernel
theorem dX7_token_8 : decode cX7_token 8 = .ok (.istore_n 2, 1) := by decide +kernel
theorem dX7_token_9 : decode cX7_token 9 = .ok (.iload_n 2, 1) := by decide +kernel
theorem dX7_token_10 : decode cX7_token 10 = .ok (.iconst (-1), 1) := by decide +kernel
theorem dX7_token_11 : decode cX7_token 11 = .ok (.if_icmp .ne 6, 3) := by decide +kernel
theorem dX7_token_14 : decode cX7_token 14 = .ok (.bipush 30, 2) := by decide +kernel
theorem dX7_token_16 : decode cX7_token 16 = .ok (.ireturn, 1) := by decide +kernel
theorem dX7_token_17 : decode cX7_token 17 = .ok (.iload_n 2, 1) := by decide +kernel
theorem dX7_token_18 : decode cX7_token 18 = .ok (.invokestatic 46, 3) := by decide +kernel
theorem dX7_token_21 : decode cX7_token 21 = .ok (.ifCond .eq 9, 3) := by decide +kernel
theorem dX7_token_24 : decode cX7_token 24 = .ok (.aload_n 0, 1) := by decide +kernel
theorem dX7_token_25 : decode cX7_token 25 = .ok (.iload_n 1, 1) := by decide +kernel
theorem dX7_token_26 : decode cX7_token 26 = .ok (.invokevirtual 49, 3) := by decide +kernel
theorem dX7_token_29 : decode cX7_token 29 = .ok (.ireturn, 1) := by decide +kernel
theorem dX7_token_30 : decode cX7_token 30 = .ok (.iload_n 2, 1) := by decide +kernel
theorem dX7_token_31 : decode cX7_token 31 = .ok (.invokestatic 52, 3) := by decide +kernel
theorem dX7_token_34 : decode cX7_token 34 = .ok (.ifCond .eq 11, 3) := by decide +kernel
theorem dX7_token_37 : decode cX7_token 37 = .ok (.aload_n 0, 1) := by decide +kernel
theorem dX7_token_38 : decode cX7_token 38 = .ok (.iload_n 1, 1) := by decide +kernel
theorem dX7_token_39 : decode cX7_token 39 = .ok (.invokevirtual 55, 3) := by decide +kernel
theorem dX7_token_42 : decode cX7_token 42 = .ok (.goto 8, 3) := by decide +kernel
theorem dX7_token_45 : decode cX7_token 45 = .ok (.aload_n 0, 1) := by decide +kernel
theorem dX7_token_46 : decode cX7_token 46 = .ok (.iload_n 2, 1) := by decide +kernel
theorem dX7_token_47 : decode cX7_token 47 = .ok (.invokevirtual 58, 3) := by decide +kernel
theorem dX7_token_50 : decode cX7_token 50 = .ok (.ireturn, 1) := by decide +kernel
theorem dX7_letters_0 : decode cX7_letters 0 = .ok (.aload_n 0, 1) := by decide +kernel
theorem dX7_letters_1 : decode cX7_letters 1 = .ok (.getfield 29, 3) := by decide +kernel
theorem dX7_letters_4 : decode cX7_letters 4 = .ok (.istore_n 2, 1) := by decide +kernel
theorem dX7_letters_5 : decode cX7_letters 5 = .ok (.iload_n 2, 1) := by decide +kernel
theorem dX7_letters_6 : decode cX7_letters 6 = .ok (.istore_n 3, 1) := by decide +kernel
theorem dX7_letters_7 : decode cX7_letters 7 = .ok (.iload_n 3, 1) := by decide +kernel
theorem dX7_letters_8 : decode cX7_letters 8 = .ok (.aload_n 0, 1) := by decide +kernel
theorem dX7_letters_9 : decode cX7_letters 9 = .ok (.getfield 25, 3) := by decide +kernel
theorem dX7_letters_12 : decode cX7_letters 12 = .ok (.if_icmp .ge 27, 3) := by decide +kernel
theorem dX7_letters_15 : decode cX7_letters 15 = .ok (.aload_n 0, 1) := by decide +kernel
theorem dX7_letters_16 : decode cX7_letters 16 = .ok (.iload_n 3, 1) := by decide +kernel
theorem dX7_letters_17 : decode cX7_letters 17 = .ok (.invokevirtual 39, 3) := by decide +kernel
theorem dX7_letters_20 : decode cX7_letters 20 = .ok (.invokestatic 46, 3) := by decide +kernel
theorem dX7_letters_23 : decode cX7_letters 23 = .ok (.ifCond .eq 16, 3) := by decide +kernel
theorem dX7_letters_26 : decode cX7_letters 26 = .ok (.aload_n 0, 1) := by decide +kernel
theorem dX7_letters_27 : decode cX7_letters 27 = .ok (.iload_n 3, 1) := by decide +kernel
theorem dX7_letters_28 : decode cX7_letters 28 = .ok (.iconst 1, 1) := by decide +kernel
theorem dX7_letters_29 : decode cX7_letters 29 = .ok (.iadd, 1) := by decide +kernel
theorem dX7_letters_30 : decode cX7_letters 30 = .ok (.putfield 29, 3) := by decide +kernel
theorem dX7_letters_33 : decode cX7_letters 33 = .ok (.iinc 3 1, 3) := by decide +kernel
theorem dX7_letters_36 : decode cX7_letters 36 = .ok (.goto (-29), 3) := by decide +kernel
theorem dX7_letters_39 : decode cX7_letters 39 = .ok (.aload_n 0, 1) := by decide +kernel
theorem dX7_letters_40 : decode cX7_letters 40 = .ok (.getfield 29, 3) := by decide +kernel
theorem dX7_letters_43 : decode cX7_letters 43 = .ok (.iload_n 2, 1) := by decide +kernel
theorem dX7_letters_44 : decode cX7_letters 44 = .ok (.isub, 1) := by decide +kernel
theorem dX7_letters_45 : decode cX7_letters 45 = .ok (.istore_n 3, 1) := by decide +kernel
theorem dX7_letters_46 : decode cX7_letters 46 = .ok (.iload_n 3, 1) := by decide +kernel
theorem dX7_letters_47 : decode cX7_letters 47 = .ok (.bipush 8, 2) := by decide +kernel
theorem dX7_letters_49 : decode cX7_letters 49 = .ok (.if_icmp .le 6, 3) := by decide +kernel
theorem dX7_letters_52 : decode cX7_letters 52 = .ok (.bipush 31, 2) := by decide +kernel
theorem dX7_letters_54 : decode cX7_letters 54 = .ok (.ireturn, 1) := by decide +kernel
theorem dX7_letters_55 : decode cX7_letters 55 = .ok (.iload_n 2, 1) := by decide +kernel
theorem dX7_letters_56 : decode cX7_letters 56 = .ok (.istore 4, 2) := by decide +kernel
theorem dX7_letters_58 : decode cX7_letters 58 = .ok (.iload 4, 2) := by decide +kernel
theorem dX7_letters_60 : decode cX7_letters 60 = .ok (.aload_n 0, 1) := by decide +kernel
theorem dX7_letters_61 : decode cX7_letters 61 = .ok (.getfield 29, 3) := by decide +kernel
theorem dX7_letters_64 : decode cX7_letters 64 = .ok (.if_icmp .ge 39, 3) := by decide +kernel
theorem dX7_letters_67 : decode cX7_letters 67 = .ok (.aload_n 0, 1) := by decide +kernel
theorem dX7_letters_68 : decode cX7_letters 68 = .ok (.getfield 18, 3) := by decide +kernel
theorem dX7_letters_71 : decode cX7_letters 71 = .ok (.iload_n 1, 1) := by decide +kernel
theorem dX7_letters_72 : decode cX7_letters 72 = .ok (.aload_n 0, 1) := by decide +kernel
theorem dX7_letters_73 : decode cX7_letters 73 = .ok (.getfield 18, 3) := by decide +kernel
theorem dX7_letters_76 : decode cX7_letters 76 = .ok (.iload_n 1, 1) := by decide +kernel
theorem dX7_letters_77 : decode cX7_letters 77 = .ok (.laload, 1) := by decide +kernel
theorem dX7_letters_78 : decode cX7_letters 78 = .ok (.ldc2_w 61, 3) := by decide +kernel
theorem dX7_letters_81 : decode cX7_letters 81 = .ok (.lmul, 1) := by decide +kernel
theorem dX7_letters_82 : decode cX7_letters 82 = .ok (.aload_n 0, 1) := by decide +kernel
theorem dX7_letters_83 : decode cX7_letters 83 = .ok (.iload 4, 2) := by decide +kernel
theorem dX7_letters_85 : decode cX7_letters 85 = .ok (.invokevirtual 39, 3) := by decide +kernel
theorem dX7_letters_88 : decode cX7_letters 88 = .ok (.i2l, 1) := by decide +kernel
theorem dX7_letters_89 : decode cX7_letters 89 = .ok (.ladd, 1) := by decide +kernel
theorem dX7_letters_90 : decode cX7_letters 90 = .ok (.ldc2_w 63, 3) := by decide +kernel
theorem dX7_letters_93 : decode cX7_letters 93 = .ok (.lsub, 1) := by decide +kernel
theorem dX7_letters_94 : decode cX7_letters 94 = .ok (.lconst 1, 1) := by decide +kernel
theorem dX7_letters_95 : decode cX7_letters 95 = .ok (.ladd, 1) := by decide +kernel
theorem dX7_letters_96 : decode cX7_letters 96 = .ok (.lastore, 1) := by decide +kernel
theorem dX7_letters_97 : decode cX7_letters 97 = .ok (.iinc 4 1, 3) := by decide +kernel
theorem dX7_letters_100 : decode cX7_letters 100 = .ok (.goto (-42), 3) := by decide +kernel
theorem dX7_letters_103 : decode cX7_letters 103 = .ok (.iconst 0, 1) := by decide +kernel
theorem dX7_letters_104 : decode cX7_letters 104 = .ok (.istore 4, 2) := by decide +kernel
theorem dX7_letters_106 : decode cX7_letters 106 = .ok (.iload 4, 2) := by decide +kernel
theorem dX7_letters_108 : decode cX7_letters 108 = .ok (.bipush 17, 2) := by decide +kernel
theorem dX7_letters_110 : decode cX7_letters 110 = .ok (.if_icmp .ge 23, 3) := by decide +kernel
theorem dX7_letters_113 : decode cX7_letters 113 = .ok (.aload_n 0, 1) := by decide +kernel
theorem dX7_letters_114 : decode cX7_letters 114 = .ok (.iload 4, 2) := by decide +kernel
theorem dX7_letters_116 : decode cX7_letters 116 = .ok (.iload_n 2, 1) := by decide +kernel
theorem dX7_letters_117 : decode cX7_letters 117 = .ok (.iload_n 3, 1) := by decide +kernel
theorem dX7_letters_118 : decode cX7_letters 118 = .ok (.invokevirtual 65, 3) := by decide +kernel
theorem dX7_letters_121 : decode cX7_letters 121 = .ok (.ifCond .eq 6, 3) := by decide +kernel
theorem dX7_letters_124 : decode cX7_letters 124 = .ok (.iload 4, 2) := by decide +kernel
theorem dX7_letters_126 : decode cX7_letters 126 = .ok (.ireturn, 1) := by decide +kernel
theorem dX7_letters_127 : decode cX7_letters 127 = .ok (.iinc 4 1, 3) := by decide +kernel
theorem dX7_letters_130 : decode cX7_letters 130 = .ok (.goto (-24), 3) := by decide +kernel
theorem dX7_letters_133 : decode cX7_letters 133 = .ok (.bipush 17, 2) := by decide +kernel
theorem dX7_letters_135 : decode cX7_letters 135 = .ok (.ireturn, 1) := by decide +kernel
theorem dX7_isWord_0 : decode cX7_isWord 0 = .ok (.iload_n 3, 1) := by decide +kernel
theorem dX7_isWord_1 : decode cX7_isWord 1 = .ok (.bipush 6, 2) := by decide +kernel
theorem dX7_isWord_3 : decode cX7_isWord 3 = .ok (.if_icmp .gt 7, 3) := by decide +kernel
theorem dX7_isWord_6 : decode cX7_isWord 6 = .ok (.iconst 1, 1) := by decide +kernel
theorem dX7_isWord_7 : decode cX7_isWord 7 = .ok (.goto 4, 3) := by decide +kernel
theorem dX7_isWord_10 : decode cX7_isWord 10 = .ok (.iconst 0, 1) := by decide +kernel
theorem dX7_isWord_11 : decode cX7_isWord 11 = .ok (.istore 4, 2) := by decide +kernel
theorem dX7_isWord_13 : decode cX7_isWord 13 = .ok (.iconst 0, 1) := by decide +kernel
theorem dX7_isWord_14 : decode cX7_isWord 14 = .ok (.istore 5, 2) := by decide +kernel
theorem dX7_isWord_16 : decode cX7_isWord 16 = .ok (.iload 5, 2) := by decide +kernel
theorem dX7_isWord_18 : decode cX7_isWord 18 = .ok (.bipush 6, 2) := by decide +kernel
theorem dX7_isWord_20 : decode cX7_isWord 20 = .ok (.if_icmp .ge 78, 3) := by decide +kernel
theorem dX7_isWord_23 : decode cX7_isWord 23 = .ok (.iload 4, 2) := by decide +kernel
theorem dX7_isWord_25 : decode cX7_isWord 25 = .ok (.ifCond .eq 73, 3) := by decide +kernel
theorem dX7_isWord_28 : decode cX7_isWord 28 = .ok (.iload 5, 2) := by decide +kernel
theorem dX7_isWord_30 : decode cX7_isWord 30 = .ok (.iload_n 3, 1) := by decide +kernel
theorem dX7_isWord_31 : decode cX7_isWord 31 = .ok (.if_icmp .ge 14, 3) := by decide +kernel
theorem dX7_isWord_34 : decode cX7_isWord 34 = .ok (.aload_n 0, 1) := by decide +kernel
theorem dX7_isWord_35 : decode cX7_isWord 35 = .ok (.iload_n 2, 1) := by decide +kernel
theorem dX7_isWord_36 : decode cX7_isWord 36 = .ok (.iload 5, 2) := by decide +kernel
theorem dX7_isWord_38 : decode cX7_isWord 38 = .ok (.iadd, 1) := by decide +kernel
theorem dX7_isWord_39 : decode cX7_isWord 39 = .ok (.invokevirtual 39, 3) := by decide +kernel
theorem dX7_isWord_42 : decode cX7_isWord 42 = .ok (.goto 5, 3) := by decide +kernel
theorem dX7_isWord_45 : decode cX7_isWord 45 = .ok (.bipush 32, 2) := by decide +kernel
theorem dX7_isWord_47 : decode cX7_isWord 47 = .ok (.istore 6, 2) := by decide +kernel
theorem dX7_isWord_49 : decode cX7_isWord 49 = .ok (.iload_n 1, 1) := by decide +kernel
theorem dX7_isWord_50 : decode cX7_isWord 50 = .ok (.bipush 6, 2) := by decide +kernel
theorem dX7_isWord_52 : decode cX7_isWord 52 = .ok (.imul, 1) := by decide +kernel
theorem dX7_isWord_53 : decode cX7_isWord 53 = .ok (.iload 5, 2) := by decide +kernel
theorem dX7_isWord_55 : decode cX7_isWord 55 = .ok (.iadd, 1) := by decide +kernel
theorem dX7_isWord_56 : decode cX7_isWord 56 = .ok (.istore 7, 2) := by decide +kernel
theorem dX7_isWord_58 : decode cX7_isWord 58 = .ok (.iload 7, 2) := by decide +kernel
theorem dX7_isWord_60 : decode cX7_isWord 60 = .ok (.ifCond .lt 29, 3) := by decide +kernel
theorem dX7_isWord_63 : decode cX7_isWord 63 = .ok (.iload 7, 2) := by decide +kernel
theorem dX7_isWord_65 : decode cX7_isWord 65 = .ok (.ldc 69, 2) := by decide +kernel
theorem dX7_isWord_67 : decode cX7_isWord 67 = .ok (.invokevirtual 71, 3) := by decide +kernel
theorem dX7_isWord_70 : decode cX7_isWord 70 = .ok (.if_icmp .ge 19, 3) := by decide +kernel
theorem dX7_isWord_73 : decode cX7_isWord 73 = .ok (.ldc 69, 2) := by decide +kernel
theorem dX7_isWord_75 : decode cX7_isWord 75 = .ok (.iload 7, 2) := by decide +kernel
theorem dX7_isWord_77 : decode cX7_isWord 77 = .ok (.invokevirtual 77, 3) := by decide +kernel
theorem dX7_isWord_80 : decode cX7_isWord 80 = .ok (.iload 6, 2) := by decide +kernel
theorem dX7_isWord_82 : decode cX7_isWord 82 = .ok (.if_icmp .ne 7, 3) := by decide +kernel
theorem dX7_isWord_85 : decode cX7_isWord 85 = .ok (.iconst 1, 1) := by decide +kernel
theorem dX7_isWord_86 : decode cX7_isWord 86 = .ok (.goto 4, 3) := by decide +kernel
theorem dX7_isWord_89 : decode cX7_isWord 89 = .ok (.iconst 0, 1) := by decide +kernel
theorem dX7_isWord_90 : decode cX7_isWord 90 = .ok (.istore 4, 2) := by decide +kernel
theorem dX7_isWord_92 : decode cX7_isWord 92 = .ok (.iinc 5 1, 3) := by decide +kernel
theorem dX7_isWord_95 : decode cX7_isWord 95 = .ok (.goto (-79), 3) := by decide +kernel
theorem dX7_isWord_98 : decode cX7_isWord 98 = .ok (.iload 4, 2) := by decide +kernel
theorem dX7_isWord_100 : decode cX7_isWord 100 = .ok (.ireturn, 1) := by decide +kernel
theorem dX7_digits_0 : decode cX7_digits 0 = .ok (.aload_n 0, 1) := by decide +kernel
theorem dX7_digits_1 : decode cX7_digits 1 = .ok (.getfield 29, 3) := by decide +kernel
theorem dX7_digits_4 : decode cX7_digits 4 = .ok (.istore_n 2, 1) := by decide +kernel
theorem dX7_digits_5 : decode cX7_digits 5 = .ok (.iload_n 2, 1) := by decide +kernel
theorem dX7_digits_6 : decode cX7_digits 6 = .ok (.istore_n 3, 1) := by decide +kernel
theorem dX7_digits_7 : decode cX7_digits 7 = .ok (.iload_n 3, 1) := by decide +kernel
theorem dX7_digits_8 : decode cX7_digits 8 = .ok (.aload_n 0, 1) := by decide +kernel
theorem dX7_digits_9 : decode cX7_digits 9 = .ok (.getfield 25, 3) := by decide +kernel
theorem dX7_digits_12 : decode cX7_digits 12 = .ok (.if_icmp .ge 27, 3) := by decide +kernel
theorem dX7_digits_15 : decode cX7_digits 15 = .ok (.aload_n 0, 1) := by decide +kernel
theorem dX7_digits_16 : decode cX7_digits 16 = .ok (.iload_n 3, 1) := by decide +kernel
theorem dX7_digits_17 : decode cX7_digits 17 = .ok (.invokevirtual 39, 3) := by decide +kernel
theorem dX7_digits_20 : decode cX7_digits 20 = .ok (.invokestatic 52, 3) := by decide +kernel
theorem dX7_digits_23 : decode cX7_digits 23 = .ok (.ifCond .eq 16, 3) := by decide +kernel
theorem dX7_digits_26 : decode cX7_digits 26 = .ok (.aload_n 0, 1) := by decide +kernel
theorem dX7_digits_27 : decode cX7_digits 27 = .ok (.iload_n 3, 1) := by decide +kernel
theorem dX7_digits_28 : decode cX7_digits 28 = .ok (.iconst 1, 1) := by decide +kernel
theorem dX7_digits_29 : decode cX7_digits 29 = .ok (.iadd, 1) := by decide +kernel
theorem dX7_digits_30 : decode cX7_digits 30 = .ok (.putfield 29, 3) := by decide +kernel
theorem dX7_digits_33 : decode cX7_digits 33 = .ok (.iinc 3 1, 3) := by decide +kernel
theorem dX7_digits_36 : decode cX7_digits 36 = .ok (.goto (-29), 3) := by decide +kernel
theorem dX7_digits_39 : decode cX7_digits 39 = .ok (.aload_n 0, 1) := by decide +kernel
theorem dX7_digits_40 : decode cX7_digits 40 = .ok (.getfield 29, 3) := by decide +kernel
theorem dX7_digits_43 : decode cX7_digits 43 = .ok (.iload_n 2, 1) := by decide +kernel
theorem dX7_digits_44 : decode cX7_digits 44 = .ok (.isub, 1) := by decide +kernel
theorem dX7_digits_45 : decode cX7_digits 45 = .ok (.iconst 4, 1) := by decide +kernel
theorem dX7_digits_46 : decode cX7_digits 46 = .ok (.if_icmp .le 6, 3) := by decide +kernel
theorem dX7_digits_49 : decode cX7_digits 49 = .ok (.bipush 31, 2) := by decide +kernel
theorem dX7_digits_51 : decode cX7_digits 51 = .ok (.ireturn, 1) := by decide +kernel
theorem dX7_digits_52 : decode cX7_digits 52 = .ok (.iload_n 2, 1) := by decide +kernel
theorem dX7_digits_53 : decode cX7_digits 53 = .ok (.istore_n 3, 1) := by decide +kernel
theorem dX7_digits_54 : decode cX7_digits 54 = .ok (.iload_n 3, 1) := by decide +kernel
theorem dX7_digits_55 : decode cX7_digits 55 = .ok (.aload_n 0, 1) := by decide +kernel
theorem dX7_digits_56 : decode cX7_digits 56 = .ok (.getfield 29, 3) := by decide +kernel
theorem dX7_digits_59 : decode cX7_digits 59 = .ok (.if_icmp .ge 36, 3) := by decide +kernel
theorem dX7_digits_62 : decode cX7_digits 62 = .ok (.aload_n 0, 1) := by decide +kernel
theorem dX7_digits_63 : decode cX7_digits 63 = .ok (.getfield 18, 3) := by decide +kernel
theorem dX7_digits_66 : decode cX7_digits 66 = .ok (.iload_n 1, 1) := by decide +kernel
theorem dX7_digits_67 : decode cX7_digits 67 = .ok (.aload_n 0, 1) := by decide +kernel
theorem dX7_digits_68 : decode cX7_digits 68 = .ok (.getfield 18, 3) := by decide +kernel
theorem dX7_digits_71 : decode cX7_digits 71 = .ok (.iload_n 1, 1) := by decide +kernel
theorem dX7_digits_72 : decode cX7_digits 72 = .ok (.laload, 1) := by decide +kernel
theorem dX7_digits_73 : decode cX7_digits 73 = .ok (.ldc2_w 80, 3) := by decide +kernel
theorem dX7_digits_76 : decode cX7_digits 76 = .ok (.lmul, 1) := by decide +kernel
theorem dX7_digits_77 : decode cX7_digits 77 = .ok (.aload_n 0, 1) := by decide +kernel
theorem dX7_digits_78 : decode cX7_digits 78 = .ok (.iload_n 3, 1) := by decide +kernel
theorem dX7_digits_79 : decode cX7_digits 79 = .ok (.invokevirtual 39, 3) := by decide +kernel
theorem dX7_digits_82 : decode cX7_digits 82 = .ok (.i2l, 1) := by decide +kernel
theorem dX7_digits_83 : decode cX7_digits 83 = .ok (.ladd, 1) := by decide +kernel
theorem dX7_digits_84 : decode cX7_digits 84 = .ok (.ldc2_w 82, 3) := by decide +kernel
theorem dX7_digits_87 : decode cX7_digits 87 = .ok (.lsub, 1) := by decide +kernel
theorem dX7_digits_88 : decode cX7_digits 88 = .ok (.lastore, 1) := by decide +kernel
theorem dX7_digits_89 : decode cX7_digits 89 = .ok (.iinc 3 1, 3) := by decide +kernel
theorem dX7_digits_92 : decode cX7_digits 92 = .ok (.goto (-38), 3) := by decide +kernel
theorem dX7_digits_95 : decode cX7_digits 95 = .ok (.bipush 18, 2) := by decide +kernel
theorem dX7_digits_97 : decode cX7_digits 97 = .ok (.ireturn, 1) := by decide +kernel
theorem dX7_sign_0 : decode cX7_sign 0 = .ok (.aload_n 0, 1) := by decide +kernel
theorem dX7_sign_1 : decode cX7_sign 1 = .ok (.aload_n 0, 1) := by decide +kernel
theorem dX7_sign_2 : decode cX7_sign 2 = .ok (.getfield 29, 3) := by decide +kernel
theorem dX7_sign_5 : decode cX7_sign 5 = .ok (.iconst 1, 1) := by decide +kernel
theorem dX7_sign_6 : decode cX7_sign 6 = .ok (.iadd, 1) := by decide +kernel
theorem dX7_sign_7 : decode cX7_sign 7 = .ok (.invokevirtual 39, 3) := by decide +kernel
theorem dX7_sign_10 : decode cX7_sign 10 = .ok (.bipush 61, 2) := by decide +kernel
theorem dX7_sign_12 : decode cX7_sign 12 = .ok (.if_icmp .ne 7, 3) := by decide +kernel
theorem dX7_sign_15 : decode cX7_sign 15 = .ok (.iconst 1, 1) := by decide +kernel
theorem dX7_sign_16 : decode cX7_sign 16 = .ok (.goto 4, 3) := by decide +kernel
theorem dX7_sign_19 : decode cX7_sign 19 = .ok (.iconst 0, 1) := by decide +kernel
theorem dX7_sign_20 : decode cX7_sign 20 = .ok (.istore_n 2, 1) := by decide +kernel
theorem dX7_sign_21 : decode cX7_sign 21 = .ok (.aload_n 0, 1) := by decide +kernel
theorem dX7_sign_22 : decode cX7_sign 22 = .ok (.dup, 1) := by decide +kernel
theorem dX7_sign_23 : decode cX7_sign 23 = .ok (.getfield 29, 3) := by decide +kernel
theorem dX7_sign_26 : decode cX7_sign 26 = .ok (.iconst 1, 1) := by decide +kernel
theorem dX7_sign_27 : decode cX7_sign 27 = .ok (.iadd, 1) := by decide +kernel
theorem dX7_sign_28 : decode cX7_sign 28 = .ok (.putfield 29, 3) := by decide +kernel
theorem dX7_sign_31 : decode cX7_sign 31 = .ok (.iload_n 1, 1) := by decide +kernel
theorem dX7_sign_32 : decode cX7_sign 32 = .ok (.tableswitch 201 33 61 #[169, 201, 201, 201, 201, 201, 201, 147, 150, 141, 135, 201, 138, 201, 144, 201, 201, 201, 201, 201, 201, 201, 201, 201, 201, 201, 132, 185, 153], 132) := by decide +kernel
theorem dX7_sign_164 : decode cX7_sign 164 = .ok (.bipush 19, 2) := by decide +kernel
theorem dX7_sign_166 : decode cX7_sign 166 = .ok (.ireturn, 1) := by decide +kernel
theorem dX7_sign_167 : decode cX7_sign 167 = .ok (.bipush 20, 2) := by decide +kernel
theorem dX7_sign_169 : decode cX7_sign 169 = .ok (.ireturn, 1) := by decide +kernel
theorem dX7_sign_170 : decode cX7_sign 170 = .ok (.bipush 21, 2) := by decide +kernel
theorem dX7_sign_172 : decode cX7_sign 172 = .ok (.ireturn, 1) := by decide +kernel
theorem dX7_sign_173 : decode cX7_sign 173 = .ok (.bipush 22, 2) := by decide +kernel
theorem dX7_sign_175 : decode cX7_sign 175 = .ok (.ireturn, 1) := by decide +kernel
theorem dX7_sign_176 : decode cX7_sign 176 = .ok (.bipush 23, 2) := by decide +kernel
theorem dX7_sign_178 : decode cX7_sign 178 = .ok (.ireturn, 1) := by decide +kernel
theorem dX7_sign_179 : decode cX7_sign 179 = .ok (.bipush 28, 2) := by decide +kernel
theorem dX7_sign_181 : decode cX7_sign 181 = .ok (.ireturn, 1) := by decide +kernel
theorem dX7_sign_182 : decode cX7_sign 182 = .ok (.bipush 29, 2) := by decide +kernel
theorem dX7_sign_184 : decode cX7_sign 184 = .ok (.ireturn, 1) := by decide +kernel
theorem dX7_sign_185 : decode cX7_sign 185 = .ok (.iload_n 2, 1) := by decide +kernel
theorem dX7_sign_186 : decode cX7_sign 186 = .ok (.ifCond .eq 12, 3) := by decide +kernel
theorem dX7_sign_189 : decode cX7_sign 189 = .ok (.aload_n 0, 1) := by decide +kernel
theorem dX7_sign_190 : decode cX7_sign 190 = .ok (.bipush 24, 2) := by decide +kernel
theorem dX7_sign_192 : decode cX7_sign 192 = .ok (.invokevirtual 84, 3) := by decide +kernel
theorem dX7_sign_195 : decode cX7_sign 195 = .ok (.goto 5, 3) := by decide +kernel
theorem dX7_sign_198 : decode cX7_sign 198 = .ok (.bipush 31, 2) := by decide +kernel
theorem dX7_sign_200 : decode cX7_sign 200 = .ok (.ireturn, 1) := by decide +kernel
theorem dX7_sign_201 : decode cX7_sign 201 = .ok (.iload_n 2, 1) := by decide +kernel
theorem dX7_sign_202 : decode cX7_sign 202 = .ok (.ifCond .eq 12, 3) := by decide +kernel
theorem dX7_sign_205 : decode cX7_sign 205 = .ok (.aload_n 0, 1) := by decide +kernel
theorem dX7_sign_206 : decode cX7_sign 206 = .ok (.bipush 25, 2) := by decide +kernel
theorem dX7_sign_208 : decode cX7_sign 208 = .ok (.invokevirtual 84, 3) := by decide +kernel
theorem dX7_sign_211 : decode cX7_sign 211 = .ok (.goto 5, 3) := by decide +kernel
theorem dX7_sign_214 : decode cX7_sign 214 = .ok (.bipush 31, 2) := by decide +kernel
theorem dX7_sign_216 : decode cX7_sign 216 = .ok (.ireturn, 1) := by decide +kernel
theorem dX7_sign_217 : decode cX7_sign 217 = .ok (.iload_n 2, 1) := by decide +kernel
theorem dX7_sign_218 : decode cX7_sign 218 = .ok (.ifCond .eq 12, 3) := by decide +kernel
theorem dX7_sign_221 : decode cX7_sign 221 = .ok (.aload_n 0, 1) := by decide +kernel
theorem dX7_sign_222 : decode cX7_sign 222 = .ok (.bipush 27, 2) := by decide +kernel
theorem dX7_sign_224 : decode cX7_sign 224 = .ok (.invokevirtual 84, 3) := by decide +kernel
theorem dX7_sign_227 : decode cX7_sign 227 = .ok (.goto 5, 3) := by decide +kernel
theorem dX7_sign_230 : decode cX7_sign 230 = .ok (.bipush 26, 2) := by decide +kernel
theorem dX7_sign_232 : decode cX7_sign 232 = .ok (.ireturn, 1) := by decide +kernel
theorem dX7_sign_233 : decode cX7_sign 233 = .ok (.bipush 31, 2) := by decide +kernel
theorem dX7_sign_235 : decode cX7_sign 235 = .ok (.ireturn, 1) := by decide +kernel
theorem dX7_second_0 : decode cX7_second 0 = .ok (.aload_n 0, 1) := by decide +kernel
theorem dX7_second_1 : decode cX7_second 1 = .ok (.dup, 1) := by decide +kernel
theorem dX7_second_2 : decode cX7_second 2 = .ok (.getfield 29, 3) := by decide +kernel
theorem dX7_second_5 : decode cX7_second 5 = .ok (.iconst 1, 1) := by decide +kernel
theorem dX7_second_6 : decode cX7_second 6 = .ok (.iadd, 1) := by decide +kernel
theorem dX7_second_7 : decode cX7_second 7 = .ok (.putfield 29, 3) := by decide +kernel
theorem dX7_second_10 : decode cX7_second 10 = .ok (.iload_n 1, 1) := by decide +kernel
theorem dX7_second_11 : decode cX7_second 11 = .ok (.ireturn, 1) := by decide +kernel
theorem dX8_init_0 : decode cX8_init 0 = .ok (.aload_n 0, 1) := by decide +kernel
theorem dX8_init_1 : decode cX8_init 1 = .ok (.invokespecial 3, 3) := by decide +kernel
theorem dX8_init_4 : decode cX8_init 4 = .ok (.aload_n 0, 1) := by decide +kernel
theorem dX8_init_5 : decode cX8_init 5 = .ok (.sipush 201, 3) := by decide +kernel
theorem dX8_init_8 : decode cX8_init 8 = .ok (.newarray .int, 2) := by decide +kernel
theorem dX8_init_10 : decode cX8_init 10 = .ok (.putfield 11, 3) := by decide +kernel
theorem dX8_init_13 : decode cX8_init 13 = .ok (.aload_n 0, 1) := by decide +kernel
theorem dX8_init_14 : decode cX8_init 14 = .ok (.sipush 200, 3) := by decide +kernel
theorem dX8_init_17 : decode cX8_init 17 = .ok (.newarray .int, 2) := by decide +kernel
theorem dX8_init_19 : decode cX8_init 19 = .ok (.putfield 15, 3) := by decide +kernel
theorem dX8_init_22 : decode cX8_init 22 = .ok (.aload_n 0, 1) := by decide +kernel
theorem dX8_init_23 : decode cX8_init 23 = .ok (.sipush 200, 3) := by decide +kernel
theorem dX8_init_26 : decode cX8_init 26 = .ok (.newarray .int, 2) := by decide +kernel
theorem dX8_init_28 : decode cX8_init 28 = .ok (.putfield 18, 3) := by decide +kernel
theorem dX8_init_31 : decode cX8_init 31 = .ok (.aload_n 0, 1) := by decide +kernel
theorem dX8_init_32 : decode cX8_init 32 = .ok (.iconst (-1), 1) := by decide +kernel
theorem dX8_init_33 : decode cX8_init 33 = .ok (.putfield 21, 3) := by decide +kernel
theorem dX8_init_36 : decode cX8_init 36 = .ok (.return_, 1) := by decide +kernel
theorem dX8_leave_0 : decode cX8_leave 0 = .ok (.aload_n 0, 1) := by decide +kernel
theorem dX8_leave_1 : decode cX8_leave 1 = .ok (.iconst (-1), 1) := by decide +kernel
theorem dX8_leave_2 : decode cX8_leave 2 = .ok (.putfield 21, 3) := by decide +kernel
theorem dX8_leave_5 : decode cX8_leave 5 = .ok (.return_, 1) := by decide +kernel
theorem dX8_begin_0 : decode cX8_begin 0 = .ok (.aload_n 0, 1) := by decide +kernel
theorem dX8_begin_1 : decode cX8_begin 1 = .ok (.iconst 0, 1) := by decide +kernel
theorem dX8_begin_2 : decode cX8_begin 2 = .ok (.putfield 21, 3) := by decide +kernel
theorem dX8_begin_5 : decode cX8_begin 5 = .ok (.aload_n 0, 1) := by decide +kernel
theorem dX8_begin_6 : decode cX8_begin 6 = .ok (.getfield 11, 3) := by decide +kernel
theorem dX8_begin_9 : decode cX8_begin 9 = .ok (.iconst 0, 1) := by decide +kernel
theorem dX8_begin_10 : decode cX8_begin 10 = .ok (.iload_n 1, 1) := by decide +kernel
theorem dX8_begin_11 : decode cX8_begin 11 = .ok (.iastore, 1) := by decide +kernel
theorem dX8_begin_12 : decode cX8_begin 12 = .ok (.return_, 1) := by decide +kernel
theorem dX8_standsIn_0 : decode cX8_standsIn 0 = .ok (.aload_n 0, 1) := by decide +kernel
theorem dX8_standsIn_1 : decode cX8_standsIn 1 = .ok (.getfield 21, 3) := by decide +kernel
theorem dX8_standsIn_4 : decode cX8_standsIn 4 = .ok (.ifCond .lt 25, 3) := by decide +kernel
theorem dX8_standsIn_7 : decode cX8_standsIn 7 = .ok (.aload_n 0, 1) := by decide +kernel
theorem dX8_standsIn_8 : decode cX8_standsIn 8 = .ok (.getfield 21, 3) := by decide +kernel
theorem dX8_standsIn_11 : decode cX8_standsIn 11 = .ok (.sipush 200, 3) := by decide +kernel
theorem dX8_standsIn_14 : decode cX8_standsIn 14 = .ok (.if_icmp .gt 15, 3) := by decide +kernel
theorem dX8_standsIn_17 : decode cX8_standsIn 17 = .ok (.aload_n 0, 1) := by decide +kernel
theorem dX8_standsIn_18 : decode cX8_standsIn 18 = .ok (.getfield 11, 3) := by decide +kernel
theorem dX8_standsIn_21 : decode cX8_standsIn 21 = .ok (.aload_n 0, 1) := by decide +kernel
theorem dX8_standsIn_22 : decode cX8_standsIn 22 = .ok (.getfield 21, 3) := by decide +kernel
theorem dX8_standsIn_25 : decode cX8_standsIn 25 = .ok (.iaload, 1) := by decide +kernel
theorem dX8_standsIn_26 : decode cX8_standsIn 26 = .ok (.goto 4, 3) := by decide +kernel
theorem dX8_standsIn_29 : decode cX8_standsIn 29 = .ok (.iconst (-1), 1) := by decide +kernel
theorem dX8_standsIn_30 : decode cX8_standsIn 30 = .ok (.ireturn, 1) := by decide +kernel
theorem dX8_go_0 : decode cX8_go 0 = .ok (.aload_n 0, 1) := by decide +kernel
theorem dX8_go_1 : decode cX8_go 1 = .ok (.getfield 21, 3) := by decide +kernel
theorem dX8_go_4 : decode cX8_go 4 = .ok (.ifCond .lt 53, 3) := by decide +kernel
theorem dX8_go_7 : decode cX8_go 7 = .ok (.aload_n 0, 1) := by decide +kernel
theorem dX8_go_8 : decode cX8_go 8 = .ok (.getfield 21, 3) := by decide +kernel
theorem dX8_go_11 : decode cX8_go 11 = .ok (.sipush 200, 3) := by decide +kernel
theorem dX8_go_14 : decode cX8_go 14 = .ok (.if_icmp .ge 43, 3) := by decide +kernel
theorem dX8_go_17 : decode cX8_go 17 = .ok (.aload_n 0, 1) := by decide +kernel
theorem dX8_go_18 : decode cX8_go 18 = .ok (.getfield 15, 3) := by decide +kernel
theorem dX8_go_21 : decode cX8_go 21 = .ok (.aload_n 0, 1) := by decide +kernel
theorem dX8_go_22 : decode cX8_go 22 = .ok (.getfield 21, 3) := by decide +kernel
theorem dX8_go_25 : decode cX8_go 25 = .ok (.iload_n 1, 1) := by decide +kernel
theorem dX8_go_26 : decode cX8_go 26 = .ok (.iastore, 1) := by decide +kernel
theorem dX8_go_27 : decode cX8_go 27 = .ok (.aload_n 0, 1) := by decide +kernel
theorem dX8_go_28 : decode cX8_go 28 = .ok (.getfield 18, 3) := by decide +kernel
theorem dX8_go_31 : decode cX8_go 31 = .ok (.aload_n 0, 1) := by decide +kernel
theorem dX8_go_32 : decode cX8_go 32 = .ok (.getfield 21, 3) := by decide +kernel
theorem dX8_go_35 : decode cX8_go 35 = .ok (.iload_n 2, 1) := by decide +kernel
theorem dX8_go_36 : decode cX8_go 36 = .ok (.iastore, 1) := by decide +kernel
theorem dX8_go_37 : decode cX8_go 37 = .ok (.aload_n 0, 1) := by decide +kernel
theorem dX8_go_38 : decode cX8_go 38 = .ok (.dup, 1) := by decide +kernel
theorem dX8_go_39 : decode cX8_go 39 = .ok (.getfield 21, 3) := by decide +kernel
theorem dX8_go_42 : decode cX8_go 42 = .ok (.iconst 1, 1) := by decide +kernel
theorem dX8_go_43 : decode cX8_go 43 = .ok (.iadd, 1) := by decide +kernel
theorem dX8_go_44 : decode cX8_go 44 = .ok (.putfield 21, 3) := by decide +kernel
theorem dX8_go_47 : decode cX8_go 47 = .ok (.aload_n 0, 1) := by decide +kernel
theorem dX8_go_48 : decode cX8_go 48 = .ok (.getfield 11, 3) := by decide +kernel
theorem dX8_go_51 : decode cX8_go 51 = .ok (.aload_n 0, 1) := by decide +kernel
theorem dX8_go_52 : decode cX8_go 52 = .ok (.getfield 21, 3) := by decide +kernel
theorem dX8_go_55 : decode cX8_go 55 = .ok (.iload_n 3, 1) := by decide +kernel
theorem dX8_go_56 : decode cX8_go 56 = .ok (.iastore, 1) := by decide +kernel
theorem dX8_go_57 : decode cX8_go 57 = .ok (.return_, 1) := by decide +kernel
theorem dX8_goBack_0 : decode cX8_goBack 0 = .ok (.aload_n 0, 1) := by decide +kernel
theorem dX8_goBack_1 : decode cX8_goBack 1 = .ok (.getfield 21, 3) := by decide +kernel
theorem dX8_goBack_4 : decode cX8_goBack 4 = .ok (.ifCond .gt 5, 3) := by decide +kernel
theorem dX8_goBack_7 : decode cX8_goBack 7 = .ok (.iconst 0, 1) := by decide +kernel
theorem dX8_goBack_8 : decode cX8_goBack 8 = .ok (.ireturn, 1) := by decide +kernel
theorem dX8_goBack_9 : decode cX8_goBack 9 = .ok (.aload_n 0, 1) := by decide +kernel
theorem dX8_goBack_10 : decode cX8_goBack 10 = .ok (.dup, 1) := by decide +kernel
theorem dX8_goBack_11 : decode cX8_goBack 11 = .ok (.getfield 21, 3) := by decide +kernel
theorem dX8_goBack_14 : decode cX8_goBack 14 = .ok (.iconst 1, 1) := by decide +kernel
theorem dX8_goBack_15 : decode cX8_goBack 15 = .ok (.isub, 1) := by decide +kernel
theorem dX8_goBack_16 : decode cX8_goBack 16 = .ok (.putfield 21, 3) := by decide +kernel
theorem dX8_goBack_19 : decode cX8_goBack 19 = .ok (.iconst 1, 1) := by decide +kernel
theorem dX8_goBack_20 : decode cX8_goBack 20 = .ok (.ireturn, 1) := by decide +kernel
theorem dX8_told_0 : decode cX8_told 0 = .ok (.iload_n 1, 1) := by decide +kernel
theorem dX8_told_1 : decode cX8_told 1 = .ok (.ifCond .lt 18, 3) := by decide +kernel
theorem dX8_told_4 : decode cX8_told 4 = .ok (.iload_n 1, 1) := by decide +kernel
theorem dX8_told_5 : decode cX8_told 5 = .ok (.aload_n 0, 1) := by decide +kernel
theorem dX8_told_6 : decode cX8_told 6 = .ok (.getfield 21, 3) := by decide +kernel
theorem dX8_told_9 : decode cX8_told 9 = .ok (.if_icmp .ge 10, 3) := by decide +kernel
theorem dX8_told_12 : decode cX8_told 12 = .ok (.iload_n 1, 1) := by decide +kernel
theorem dX8_told_13 : decode cX8_told 13 = .ok (.sipush 200, 3) := by decide +kernel
theorem dX8_told_16 : decode cX8_told 16 = .ok (.if_icmp .lt 6, 3) := by decide +kernel
theorem dX8_told_19 : decode cX8_told 19 = .ok (.bipush (-100), 2) := by decide +kernel
theorem dX8_told_21 : decode cX8_told 21 = .ok (.ireturn, 1) := by decide +kernel
theorem dX8_told_22 : decode cX8_told 22 = .ok (.iload_n 2, 1) := by decide +kernel
theorem dX8_told_23 : decode cX8_told 23 = .ok (.tableswitch 59 0 3 #[29, 36, 43, 50], 29) := by decide +kernel
theorem dX8_told_52 : decode cX8_told 52 = .ok (.aload_n 0, 1) := by decide +kernel
theorem dX8_told_53 : decode cX8_told 53 = .ok (.getfield 11, 3) := by decide +kernel
theorem dX8_told_56 : decode cX8_told 56 = .ok (.iload_n 1, 1) := by decide +kernel
theorem dX8_told_57 : decode cX8_told 57 = .ok (.iaload, 1) := by decide +kernel
theorem dX8_told_58 : decode cX8_told 58 = .ok (.ireturn, 1) := by decide +kernel
theorem dX8_told_59 : decode cX8_told 59 = .ok (.aload_n 0, 1) := by decide +kernel
theorem dX8_told_60 : decode cX8_told 60 = .ok (.getfield 15, 3) := by decide +kernel
theorem dX8_told_63 : decode cX8_told 63 = .ok (.iload_n 1, 1) := by decide +kernel
theorem dX8_told_64 : decode cX8_told 64 = .ok (.iaload, 1) := by decide +kernel
theorem dX8_told_65 : decode cX8_told 65 = .ok (.ireturn, 1) := by decide +kernel
theorem dX8_told_66 : decode cX8_told 66 = .ok (.aload_n 0, 1) := by decide +kernel
theorem dX8_told_67 : decode cX8_told 67 = .ok (.getfield 18, 3) := by decide +kernel
theorem dX8_told_70 : decode cX8_told 70 = .ok (.iload_n 1, 1) := by decide +kernel
theorem dX8_told_71 : decode cX8_told 71 = .ok (.iaload, 1) := by decide +kernel
theorem dX8_told_72 : decode cX8_told 72 = .ok (.ireturn, 1) := by decide +kernel
theorem dX8_told_73 : decode cX8_told 73 = .ok (.aload_n 0, 1) := by decide +kernel
theorem dX8_told_74 : decode cX8_told 74 = .ok (.getfield 11, 3) := by decide +kernel
theorem dX8_told_77 : decode cX8_told 77 = .ok (.iload_n 1, 1) := by decide +kernel
theorem dX8_told_78 : decode cX8_told 78 = .ok (.iconst 1, 1) := by decide +kernel
theorem dX8_told_79 : decode cX8_told 79 = .ok (.iadd, 1) := by decide +kernel
theorem dX8_told_80 : decode cX8_told 80 = .ok (.iaload, 1) := by decide +kernel
theorem dX8_told_81 : decode cX8_told 81 = .ok (.ireturn, 1) := by decide +kernel
theorem dX8_told_82 : decode cX8_told 82 = .ok (.bipush (-100), 2) := by decide +kernel
theorem dX8_told_84 : decode cX8_told 84 = .ok (.ireturn, 1) := by decide +kernel
theorem dX9_init_0 : decode cX9_init 0 = .ok (.aload_n 0, 1) := by decide +kernel
theorem dX9_init_1 : decode cX9_init 1 = .ok (.invokespecial 3, 3) := by decide +kernel
theorem dX9_init_4 : decode cX9_init 4 = .ok (.aload_n 0, 1) := by decide +kernel
theorem dX9_init_5 : decode cX9_init 5 = .ok (.sipush 2000, 3) := by decide +kernel
theorem dX9_init_8 : decode cX9_init 8 = .ok (.newarray .int, 2) := by decide +kernel
theorem dX9_init_10 : decode cX9_init 10 = .ok (.putfield 9, 3) := by decide +kernel
theorem dX9_init_13 : decode cX9_init 13 = .ok (.aload_n 0, 1) := by decide +kernel
theorem dX9_init_14 : decode cX9_init 14 = .ok (.sipush 2079, 3) := by decide +kernel
theorem dX9_init_17 : decode cX9_init 17 = .ok (.newarray .int, 2) := by decide +kernel
theorem dX9_init_19 : decode cX9_init 19 = .ok (.putfield 13, 3) := by decide +kernel
theorem dX9_init_22 : decode cX9_init 22 = .ok (.new 16, 3) := by decide +kernel
theorem dX9_init_25 : decode cX9_init 25 = .ok (.dup, 1) := by decide +kernel
theorem dX9_init_26 : decode cX9_init 26 = .ok (.invokespecial 18, 3) := by decide +kernel
theorem dX9_init_29 : decode cX9_init 29 = .ok (.astore_n 1, 1) := by decide +kernel
theorem dX9_init_30 : decode cX9_init 30 = .ok (.new 16, 3) := by decide +kernel
theorem dX9_init_33 : decode cX9_init 33 = .ok (.dup, 1) := by decide +kernel
theorem dX9_init_34 : decode cX9_init 34 = .ok (.invokespecial 18, 3) := by decide +kernel
theorem dX9_init_37 : decode cX9_init 37 = .ok (.astore_n 2, 1) := by decide +kernel
theorem dX9_init_38 : decode cX9_init 38 = .ok (.new 19, 3) := by decide +kernel
theorem dX9_init_41 : decode cX9_init 41 = .ok (.dup, 1) := by decide +kernel
theorem dX9_init_42 : decode cX9_init 42 = .ok (.aload_n 1, 1) := by decide +kernel
theorem dX9_init_43 : decode cX9_init 43 = .ok (.invokespecial 21, 3) := by decide +kernel
theorem dX9_init_46 : decode cX9_init 46 = .ok (.astore_n 3, 1) := by decide +kernel
theorem dX9_init_47 : decode cX9_init 47 = .ok (.aload_n 0, 1) := by decide +kernel
theorem dX9_init_48 : decode cX9_init 48 = .ok (.iconst (-1), 1) := by decide +kernel
theorem dX9_init_49 : decode cX9_init 49 = .ok (.putfield 24, 3) := by decide +kernel
theorem dX9_init_52 : decode cX9_init 52 = .ok (.aload_n 0, 1) := by decide +kernel
theorem dX9_init_53 : decode cX9_init 53 = .ok (.iconst 1, 1) := by decide +kernel
theorem dX9_init_54 : decode cX9_init 54 = .ok (.putfield 28, 3) := by decide +kernel
theorem dX9_init_57 : decode cX9_init 57 = .ok (.aload_n 0, 1) := by decide +kernel
theorem dX9_init_58 : decode cX9_init 58 = .ok (.aload_n 1, 1) := by decide +kernel
theorem dX9_init_59 : decode cX9_init 59 = .ok (.putfield 31, 3) := by decide +kernel
theorem dX9_init_62 : decode cX9_init 62 = .ok (.aload_n 0, 1) := by decide +kernel
theorem dX9_init_63 : decode cX9_init 63 = .ok (.aload_n 2, 1) := by decide +kernel
theorem dX9_init_64 : decode cX9_init 64 = .ok (.putfield 35, 3) := by decide +kernel
theorem dX9_init_67 : decode cX9_init 67 = .ok (.aload_n 0, 1) := by decide +kernel
theorem dX9_init_68 : decode cX9_init 68 = .ok (.new 38, 3) := by decide +kernel
theorem dX9_init_71 : decode cX9_init 71 = .ok (.dup, 1) := by decide +kernel
theorem dX9_init_72 : decode cX9_init 72 = .ok (.aload_n 2, 1) := by decide +kernel
theorem dX9_init_73 : decode cX9_init 73 = .ok (.invokespecial 40, 3) := by decide +kernel
theorem dX9_init_76 : decode cX9_init 76 = .ok (.putfield 41, 3) := by decide +kernel
theorem dX9_init_79 : decode cX9_init 79 = .ok (.aload_n 0, 1) := by decide +kernel
theorem dX9_init_80 : decode cX9_init 80 = .ok (.aload_n 3, 1) := by decide +kernel
theorem dX9_init_81 : decode cX9_init 81 = .ok (.putfield 45, 3) := by decide +kernel
theorem dX9_init_84 : decode cX9_init 84 = .ok (.aload_n 0, 1) := by decide +kernel
theorem dX9_init_85 : decode cX9_init 85 = .ok (.new 49, 3) := by decide +kernel
theorem dX9_init_88 : decode cX9_init 88 = .ok (.dup, 1) := by decide +kernel
theorem dX9_init_89 : decode cX9_init 89 = .ok (.aload_n 3, 1) := by decide +kernel
theorem dX9_init_90 : decode cX9_init 90 = .ok (.invokespecial 51, 3) := by decide +kernel
theorem dX9_init_93 : decode cX9_init 93 = .ok (.putfield 54, 3) := by decide +kernel
theorem dX9_init_96 : decode cX9_init 96 = .ok (.aload_n 0, 1) := by decide +kernel
theorem dX9_init_97 : decode cX9_init 97 = .ok (.new 58, 3) := by decide +kernel
theorem dX9_init_100 : decode cX9_init 100 = .ok (.dup, 1) := by decide +kernel
theorem dX9_init_101 : decode cX9_init 101 = .ok (.aload_n 3, 1) := by decide +kernel
theorem dX9_init_102 : decode cX9_init 102 = .ok (.invokespecial 60, 3) := by decide +kernel
theorem dX9_init_105 : decode cX9_init 105 = .ok (.putfield 61, 3) := by decide +kernel
theorem dX9_init_108 : decode cX9_init 108 = .ok (.aload_n 0, 1) := by decide +kernel
theorem dX9_init_109 : decode cX9_init 109 = .ok (.new 65, 3) := by decide +kernel
theorem dX9_init_112 : decode cX9_init 112 = .ok (.dup, 1) := by decide +kernel
theorem dX9_init_113 : decode cX9_init 113 = .ok (.aload_n 3, 1) := by decide +kernel
theorem dX9_init_114 : decode cX9_init 114 = .ok (.invokespecial 67, 3) := by decide +kernel
theorem dX9_init_117 : decode cX9_init 117 = .ok (.putfield 68, 3) := by decide +kernel
theorem dX9_init_120 : decode cX9_init 120 = .ok (.aload_n 0, 1) := by decide +kernel
theorem dX9_init_121 : decode cX9_init 121 = .ok (.new 72, 3) := by decide +kernel
theorem dX9_init_124 : decode cX9_init 124 = .ok (.dup, 1) := by decide +kernel
theorem dX9_init_125 : decode cX9_init 125 = .ok (.invokespecial 74, 3) := by decide +kernel
theorem dX9_init_128 : decode cX9_init 128 = .ok (.putfield 75, 3) := by decide +kernel
theorem dX9_init_131 : decode cX9_init 131 = .ok (.return_, 1) := by decide +kernel
theorem dX9_feed_0 : decode cX9_feed 0 = .ok (.aload_n 0, 1) := by decide +kernel
theorem dX9_feed_1 : decode cX9_feed 1 = .ok (.getfield 79, 3) := by decide +kernel
theorem dX9_feed_4 : decode cX9_feed 4 = .ok (.bipush 20, 2) := by decide +kernel
theorem dX9_feed_6 : decode cX9_feed 6 = .ok (.iadd, 1) := by decide +kernel
theorem dX9_feed_7 : decode cX9_feed 7 = .ok (.sipush 2000, 3) := by decide +kernel
theorem dX9_feed_10 : decode cX9_feed 10 = .ok (.if_icmp .le 5, 3) := by decide +kernel
theorem dX9_feed_13 : decode cX9_feed 13 = .ok (.iconst (-1), 1) := by decide +kernel
theorem dX9_feed_14 : decode cX9_feed 14 = .ok (.ireturn, 1) := by decide +kernel
theorem dX9_feed_15 : decode cX9_feed 15 = .ok (.aload_n 0, 1) := by decide +kernel
theorem dX9_feed_16 : decode cX9_feed 16 = .ok (.iload_n 1, 1) := by decide +kernel
theorem dX9_feed_17 : decode cX9_feed 17 = .ok (.invokevirtual 82, 3) := by decide +kernel
theorem dX9_feed_20 : decode cX9_feed 20 = .ok (.aload_n 0, 1) := by decide +kernel
theorem dX9_feed_21 : decode cX9_feed 21 = .ok (.iload_n 2, 1) := by decide +kernel
theorem dX9_feed_22 : decode cX9_feed 22 = .ok (.invokevirtual 82, 3) := by decide +kernel
theorem dX9_feed_25 : decode cX9_feed 25 = .ok (.aload_n 0, 1) := by decide +kernel
theorem dX9_feed_26 : decode cX9_feed 26 = .ok (.iload_n 3, 1) := by decide +kernel
theorem dX9_feed_27 : decode cX9_feed 27 = .ok (.invokevirtual 82, 3) := by decide +kernel
theorem dX9_feed_30 : decode cX9_feed 30 = .ok (.aload_n 0, 1) := by decide +kernel
theorem dX9_feed_31 : decode cX9_feed 31 = .ok (.iload 4, 2) := by decide +kernel
theorem dX9_feed_33 : decode cX9_feed 33 = .ok (.invokevirtual 82, 3) := by decide +kernel
theorem dX9_feed_36 : decode cX9_feed 36 = .ok (.aload_n 0, 1) := by decide +kernel
theorem dX9_feed_37 : decode cX9_feed 37 = .ok (.iload 5, 2) := by decide +kernel
theorem dX9_feed_39 : decode cX9_feed 39 = .ok (.invokevirtual 82, 3) := by decide +kernel
theorem dX9_feed_42 : decode cX9_feed 42 = .ok (.aload_n 0, 1) := by decide +kernel
theorem dX9_feed_43 : decode cX9_feed 43 = .ok (.getfield 79, 3) := by decide +kernel
theorem dX9_feed_46 : decode cX9_feed 46 = .ok (.ireturn, 1) := by decide +kernel
theorem dX9_tapeWord_0 : decode cX9_tapeWord 0 = .ok (.bipush 24, 2) := by decide +kernel
theorem dX9_tapeWord_2 : decode cX9_tapeWord 2 = .ok (.istore_n 2, 1) := by decide +kernel
theorem dX9_tapeWord_3 : decode cX9_tapeWord 3 = .ok (.iload_n 2, 1) := by decide +kernel
theorem dX9_tapeWord_4 : decode cX9_tapeWord 4 = .ok (.ifCond .lt 45, 3) := by decide +kernel
theorem dX9_tapeWord_7 : decode cX9_tapeWord 7 = .ok (.aload_n 0, 1) := by decide +kernel
theorem dX9_tapeWord_8 : decode cX9_tapeWord 8 = .ok (.getfield 79, 3) := by decide +kernel
theorem dX9_tapeWord_11 : decode cX9_tapeWord 11 = .ok (.sipush 2000, 3) := by decide +kernel
theorem dX9_tapeWord_14 : decode cX9_tapeWord 14 = .ok (.if_icmp .ge 35, 3) := by decide +kernel
theorem dX9_tapeWord_17 : decode cX9_tapeWord 17 = .ok (.aload_n 0, 1) := by decide +kernel
theorem dX9_tapeWord_18 : decode cX9_tapeWord 18 = .ok (.getfield 9, 3) := by decide +kernel
theorem dX9_tapeWord_21 : decode cX9_tapeWord 21 = .ok (.aload_n 0, 1) := by decide +kernel
theorem dX9_tapeWord_22 : decode cX9_tapeWord 22 = .ok (.getfield 79, 3) := by decide +kernel
theorem dX9_tapeWord_25 : decode cX9_tapeWord 25 = .ok (.iload_n 1, 1) := by decide +kernel
theorem dX9_tapeWord_26 : decode cX9_tapeWord 26 = .ok (.iload_n 2, 1) := by decide +kernel
theorem dX9_tapeWord_27 : decode cX9_tapeWord 27 = .ok (.iushr, 1) := by decide +kernel
theorem dX9_tapeWord_28 : decode cX9_tapeWord 28 = .ok (.sipush 255, 3) := by decide +kernel
theorem dX9_tapeWord_31 : decode cX9_tapeWord 31 = .ok (.iand, 1) := by decide +kernel
theorem dX9_tapeWord_32 : decode cX9_tapeWord 32 = .ok (.iastore, 1) := by decide +kernel
theorem dX9_tapeWord_33 : decode cX9_tapeWord 33 = .ok (.aload_n 0, 1) := by decide +kernel
theorem dX9_tapeWord_34 : decode cX9_tapeWord 34 = .ok (.dup, 1) := by decide +kernel
theorem dX9_tapeWord_35 : decode cX9_tapeWord 35 = .ok (.getfield 79, 3) := by decide +kernel
theorem dX9_tapeWord_38 : decode cX9_tapeWord 38 = .ok (.iconst 1, 1) := by decide +kernel
theorem dX9_tapeWord_39 : decode cX9_tapeWord 39 = .ok (.iadd, 1) := by decide +kernel
theorem dX9_tapeWord_40 : decode cX9_tapeWord 40 = .ok (.putfield 79, 3) := by decide +kernel
theorem dX9_tapeWord_43 : decode cX9_tapeWord 43 = .ok (.iinc 2 (-8), 3) := by decide +kernel
theorem dX9_tapeWord_46 : decode cX9_tapeWord 46 = .ok (.goto (-43), 3) := by decide +kernel
theorem dX9_tapeWord_49 : decode cX9_tapeWord 49 = .ok (.return_, 1) := by decide +kernel
theorem dX9_back_0 : decode cX9_back 0 = .ok (.iload_n 1, 1) := by decide +kernel
theorem dX9_back_1 : decode cX9_back 1 = .ok (.ifCond .lt 11, 3) := by decide +kernel
theorem dX9_back_4 : decode cX9_back 4 = .ok (.iload_n 1, 1) := by decide +kernel
theorem dX9_back_5 : decode cX9_back 5 = .ok (.aload_n 0, 1) := by decide +kernel
theorem dX9_back_6 : decode cX9_back 6 = .ok (.getfield 79, 3) := by decide +kernel
theorem dX9_back_9 : decode cX9_back 9 = .ok (.if_icmp .le 5, 3) := by decide +kernel
theorem dX9_back_12 : decode cX9_back 12 = .ok (.iconst (-1), 1) := by decide +kernel
theorem dX9_back_13 : decode cX9_back 13 = .ok (.ireturn, 1) := by decide +kernel
theorem dX9_back_14 : decode cX9_back 14 = .ok (.aload_n 0, 1) := by decide +kernel
theorem dX9_back_15 : decode cX9_back 15 = .ok (.dup, 1) := by decide +kernel
theorem dX9_back_16 : decode cX9_back 16 = .ok (.getfield 79, 3) := by decide +kernel
theorem dX9_back_19 : decode cX9_back 19 = .ok (.iload_n 1, 1) := by decide +kernel
theorem dX9_back_20 : decode cX9_back 20 = .ok (.isub, 1) := by decide +kernel
theorem dX9_back_21 : decode cX9_back 21 = .ok (.putfield 79, 3) := by decide +kernel
theorem dX9_back_24 : decode cX9_back 24 = .ok (.aload_n 0, 1) := by decide +kernel
theorem dX9_back_25 : decode cX9_back 25 = .ok (.getfield 79, 3) := by decide +kernel
theorem dX9_back_28 : decode cX9_back 28 = .ok (.ireturn, 1) := by decide +kernel
theorem dX9_read_0 : decode cX9_read 0 = .ok (.aload_n 0, 1) := by decide +kernel
theorem dX9_read_1 : decode cX9_read 1 = .ok (.getfield 41, 3) := by decide +kernel
theorem dX9_read_4 : decode cX9_read 4 = .ok (.aload_n 0, 1) := by decide +kernel
theorem dX9_read_5 : decode cX9_read 5 = .ok (.getfield 9, 3) := by decide +kernel
theorem dX9_read_8 : decode cX9_read 8 = .ok (.aload_n 0, 1) := by decide +kernel
theorem dX9_read_9 : decode cX9_read 9 = .ok (.getfield 79, 3) := by decide +kernel
theorem dX9_read_12 : decode cX9_read 12 = .ok (.aload_n 0, 1) := by decide +kernel
theorem dX9_read_13 : decode cX9_read 13 = .ok (.getfield 35, 3) := by decide +kernel
theorem dX9_read_16 : decode cX9_read 16 = .ok (.invokevirtual 86, 3) := by decide +kernel
theorem dX9_read_19 : decode cX9_read 19 = .ok (.istore_n 1, 1) := by decide +kernel
theorem dX9_read_20 : decode cX9_read 20 = .ok (.aload_n 0, 1) := by decide +kernel
theorem dX9_read_21 : decode cX9_read 21 = .ok (.iconst 0, 1) := by decide +kernel
theorem dX9_read_22 : decode cX9_read 22 = .ok (.putfield 79, 3) := by decide +kernel
theorem dX9_read_25 : decode cX9_read 25 = .ok (.aload_n 0, 1) := by decide +kernel
theorem dX9_read_26 : decode cX9_read 26 = .ok (.aload_n 0, 1) := by decide +kernel
theorem dX9_read_27 : decode cX9_read 27 = .ok (.getfield 41, 3) := by decide +kernel
theorem dX9_read_30 : decode cX9_read 30 = .ok (.getfield 90, 3) := by decide +kernel
theorem dX9_read_33 : decode cX9_read 33 = .ok (.putfield 24, 3) := by decide +kernel
theorem dX9_read_36 : decode cX9_read 36 = .ok (.iload_n 1, 1) := by decide +kernel
theorem dX9_read_37 : decode cX9_read 37 = .ok (.ifCond .eq 5, 3) := by decide +kernel
theorem dX9_read_40 : decode cX9_read 40 = .ok (.iload_n 1, 1) := by decide +kernel
theorem dX9_read_41 : decode cX9_read 41 = .ok (.ireturn, 1) := by decide +kernel
theorem dX9_read_42 : decode cX9_read 42 = .ok (.aload_n 0, 1) := by decide +kernel
theorem dX9_read_43 : decode cX9_read 43 = .ok (.getfield 31, 3) := by decide +kernel
theorem dX9_read_46 : decode cX9_read 46 = .ok (.astore_n 2, 1) := by decide +kernel
theorem dX9_read_47 : decode cX9_read 47 = .ok (.aload_n 0, 1) := by decide +kernel
theorem dX9_read_48 : decode cX9_read 48 = .ok (.aload_n 0, 1) := by decide +kernel
theorem dX9_read_49 : decode cX9_read 49 = .ok (.getfield 35, 3) := by decide +kernel
theorem dX9_read_52 : decode cX9_read 52 = .ok (.putfield 31, 3) := by decide +kernel
theorem dX9_read_55 : decode cX9_read 55 = .ok (.aload_n 0, 1) := by decide +kernel
theorem dX9_read_56 : decode cX9_read 56 = .ok (.aload_n 2, 1) := by decide +kernel
theorem dX9_read_57 : decode cX9_read 57 = .ok (.putfield 35, 3) := by decide +kernel
theorem dX9_read_60 : decode cX9_read 60 = .ok (.aload_n 0, 1) := by decide +kernel
theorem dX9_read_61 : decode cX9_read 61 = .ok (.getfield 68, 3) := by decide +kernel
theorem dX9_read_64 : decode cX9_read 64 = .ok (.invokevirtual 93, 3) := by decide +kernel
theorem dX9_read_67 : decode cX9_read 67 = .ok (.aload_n 0, 1) := by decide +kernel
theorem dX9_read_68 : decode cX9_read 68 = .ok (.getfield 54, 3) := by decide +kernel
theorem dX9_read_71 : decode cX9_read 71 = .ok (.invokevirtual 96, 3) := by decide +kernel
theorem dX9_read_74 : decode cX9_read 74 = .ok (.aload_n 0, 1) := by decide +kernel
theorem dX9_read_75 : decode cX9_read 75 = .ok (.iconst 1, 1) := by decide +kernel
theorem dX9_read_76 : decode cX9_read 76 = .ok (.invokevirtual 99, 3) := by decide +kernel
theorem dX9_read_79 : decode cX9_read 79 = .ok (.iconst 0, 1) := by decide +kernel
theorem dX9_read_80 : decode cX9_read 80 = .ok (.ireturn, 1) := by decide +kernel
theorem dX9_place_0 : decode cX9_place 0 = .ok (.aload_n 0, 1) := by decide +kernel
theorem dX9_place_1 : decode cX9_place 1 = .ok (.getfield 24, 3) := by decide +kernel
theorem dX9_place_4 : decode cX9_place 4 = .ok (.ireturn, 1) := by decide +kernel
theorem dX9_pole_0 : decode cX9_pole 0 = .ok (.iload_n 1, 1) := by decide +kernel
theorem dX9_pole_1 : decode cX9_pole 1 = .ok (.iconst 1, 1) := by decide +kernel
theorem dX9_pole_2 : decode cX9_pole 2 = .ok (.if_icmp .lt 8, 3) := by decide +kernel
theorem dX9_pole_5 : decode cX9_pole 5 = .ok (.iload_n 1, 1) := by decide +kernel
theorem dX9_pole_6 : decode cX9_pole 6 = .ok (.iconst 4, 1) := by decide +kernel
theorem dX9_pole_7 : decode cX9_pole 7 = .ok (.if_icmp .le 5, 3) := by decide +kernel
theorem dX9_pole_10 : decode cX9_pole 10 = .ok (.iconst 0, 1) := by decide +kernel
theorem dX9_pole_11 : decode cX9_pole 11 = .ok (.ireturn, 1) := by decide +kernel
theorem dX9_pole_12 : decode cX9_pole 12 = .ok (.aload_n 0, 1) := by decide +kernel
theorem dX9_pole_13 : decode cX9_pole 13 = .ok (.iload_n 1, 1) := by decide +kernel
theorem dX9_pole_14 : decode cX9_pole 14 = .ok (.invokevirtual 99, 3) := by decide +kernel
theorem dX9_pole_17 : decode cX9_pole 17 = .ok (.iconst 1, 1) := by decide +kernel
theorem dX9_pole_18 : decode cX9_pole 18 = .ok (.ireturn, 1) := by decide +kernel
theorem dX9_settle_0 : decode cX9_settle 0 = .ok (.aload_n 0, 1) := by decide +kernel
theorem dX9_settle_1 : decode cX9_settle 1 = .ok (.iload_n 1, 1) := by decide +kernel
theorem dX9_settle_2 : decode cX9_settle 2 = .ok (.putfield 28, 3) := by decide +kernel
theorem dX9_settle_5 : decode cX9_settle 5 = .ok (.aload_n 0, 1) := by decide +kernel
theorem dX9_settle_6 : decode cX9_settle 6 = .ok (.getfield 45, 3) := by decide +kernel
theorem dX9_settle_9 : decode cX9_settle 9 = .ok (.aload_n 0, 1) := by decide +kernel
theorem dX9_settle_10 : decode cX9_settle 10 = .ok (.getfield 31, 3) := by decide +kernel
theorem dX9_settle_13 : decode cX9_settle 13 = .ok (.iload_n 1, 1) := by decide +kernel
theorem dX9_settle_14 : decode cX9_settle 14 = .ok (.invokevirtual 102, 3) := by decide +kernel
theorem dX9_settle_17 : decode cX9_settle 17 = .ok (.aload_n 0, 1) := by decide +kernel
theorem dX9_settle_18 : decode cX9_settle 18 = .ok (.getfield 54, 3) := by decide +kernel
theorem dX9_settle_21 : decode cX9_settle 21 = .ok (.invokevirtual 105, 3) := by decide +kernel
theorem dX9_settle_24 : decode cX9_settle 24 = .ok (.aload_n 0, 1) := by decide +kernel
theorem dX9_settle_25 : decode cX9_settle 25 = .ok (.getfield 61, 3) := by decide +kernel
theorem dX9_settle_28 : decode cX9_settle 28 = .ok (.invokevirtual 108, 3) := by decide +kernel
theorem dX9_settle_31 : decode cX9_settle 31 = .ok (.pop, 1) := by decide +kernel
theorem dX9_settle_32 : decode cX9_settle 32 = .ok (.aload_n 0, 1) := by decide +kernel
theorem dX9_settle_33 : decode cX9_settle 33 = .ok (.getfield 68, 3) := by decide +kernel
theorem dX9_settle_36 : decode cX9_settle 36 = .ok (.invokevirtual 112, 3) := by decide +kernel
theorem dX9_settle_39 : decode cX9_settle 39 = .ok (.aload_n 0, 1) := by decide +kernel
theorem dX9_settle_40 : decode cX9_settle 40 = .ok (.getfield 75, 3) := by decide +kernel
theorem dX9_settle_43 : decode cX9_settle 43 = .ok (.invokevirtual 115, 3) := by decide +kernel
theorem dX9_settle_46 : decode cX9_settle 46 = .ok (.return_, 1) := by decide +kernel
theorem dX9_state_0 : decode cX9_state 0 = .ok (.aload_n 0, 1) := by decide +kernel
theorem dX9_state_1 : decode cX9_state 1 = .ok (.getfield 31, 3) := by decide +kernel
theorem dX9_state_4 : decode cX9_state 4 = .ok (.iload_n 1, 1) := by decide +kernel
theorem dX9_state_5 : decode cX9_state 5 = .ok (.iload_n 2, 1) := by decide +kernel
theorem dX9_state_6 : decode cX9_state 6 = .ok (.iload_n 3, 1) := by decide +kernel
theorem dX9_state_7 : decode cX9_state 7 = .ok (.invokevirtual 118, 3) := by decide +kernel
theorem dX9_state_10 : decode cX9_state 10 = .ok (.ireturn, 1) := by decide +kernel
theorem dX9_can_0 : decode cX9_can 0 = .ok (.aload_n 0, 1) := by decide +kernel
theorem dX9_can_1 : decode cX9_can 1 = .ok (.getfield 31, 3) := by decide +kernel
theorem dX9_can_4 : decode cX9_can 4 = .ok (.iload_n 1, 1) := by decide +kernel
theorem dX9_can_5 : decode cX9_can 5 = .ok (.invokevirtual 122, 3) := by decide +kernel
theorem dX9_can_8 : decode cX9_can 8 = .ok (.ifCond .eq 14, 3) := by decide +kernel
theorem dX9_can_11 : decode cX9_can 11 = .ok (.aload_n 0, 1) := by decide +kernel
theorem dX9_can_12 : decode cX9_can 12 = .ok (.getfield 31, 3) := by decide +kernel
theorem dX9_can_15 : decode cX9_can 15 = .ok (.iload_n 2, 1) := by decide +kernel
theorem dX9_can_16 : decode cX9_can 16 = .ok (.invokevirtual 126, 3) := by decide +kernel
theorem dX9_can_19 : decode cX9_can 19 = .ok (.ifCond .ne 5, 3) := by decide +kernel
theorem dX9_can_22 : decode cX9_can 22 = .ok (.iconst (-1), 1) := by decide +kernel
theorem dX9_can_23 : decode cX9_can 23 = .ok (.ireturn, 1) := by decide +kernel
theorem dX9_can_24 : decode cX9_can 24 = .ok (.aload_n 0, 1) := by decide +kernel
theorem dX9_can_25 : decode cX9_can 25 = .ok (.getfield 45, 3) := by decide +kernel
theorem dX9_can_28 : decode cX9_can 28 = .ok (.iload_n 1, 1) := by decide +kernel
theorem dX9_can_29 : decode cX9_can 29 = .ok (.iload_n 2, 1) := by decide +kernel
theorem dX9_can_30 : decode cX9_can 30 = .ok (.invokevirtual 129, 3) := by decide +kernel
theorem dX9_can_33 : decode cX9_can 33 = .ok (.ifCond .eq 7, 3) := by decide +kernel
theorem dX9_can_36 : decode cX9_can 36 = .ok (.iconst 1, 1) := by decide +kernel
theorem dX9_can_37 : decode cX9_can 37 = .ok (.goto 4, 3) := by decide +kernel
theorem dX9_can_40 : decode cX9_can 40 = .ok (.iconst 0, 1) := by decide +kernel
theorem dX9_can_41 : decode cX9_can 41 = .ok (.ireturn, 1) := by decide +kernel
theorem dX9_gust_0 : decode cX9_gust 0 = .ok (.aload_n 0, 1) := by decide +kernel
theorem dX9_gust_1 : decode cX9_gust 1 = .ok (.getfield 31, 3) := by decide +kernel
theorem dX9_gust_4 : decode cX9_gust 4 = .ok (.iload_n 1, 1) := by decide +kernel
theorem dX9_gust_5 : decode cX9_gust 5 = .ok (.invokevirtual 122, 3) := by decide +kernel
theorem dX9_gust_8 : decode cX9_gust 8 = .ok (.ifCond .ne 6, 3) := by decide +kernel
theorem dX9_gust_11 : decode cX9_gust 11 = .ok (.bipush (-100), 2) := by decide +kernel
theorem dX9_gust_13 : decode cX9_gust 13 = .ok (.ireturn, 1) := by decide +kernel
theorem dX9_gust_14 : decode cX9_gust 14 = .ok (.iload_n 2, 1) := by decide +kernel
theorem dX9_gust_15 : decode cX9_gust 15 = .ok (.ifCond .eq 14, 3) := by decide +kernel
theorem dX9_gust_18 : decode cX9_gust 18 = .ok (.aload_n 0, 1) := by decide +kernel
theorem dX9_gust_19 : decode cX9_gust 19 = .ok (.getfield 45, 3) := by decide +kernel
theorem dX9_gust_22 : decode cX9_gust 22 = .ok (.iload_n 1, 1) := by decide +kernel
theorem dX9_gust_23 : decode cX9_gust 23 = .ok (.invokevirtual 133, 3) := by decide +kernel
theorem dX9_gust_26 : decode cX9_gust 26 = .ok (.goto 11, 3) := by decide +kernel
theorem dX9_gust_29 : decode cX9_gust 29 = .ok (.aload_n 0, 1) := by decide +kernel
theorem dX9_gust_30 : decode cX9_gust 30 = .ok (.getfield 45, 3) := by decide +kernel
theorem dX9_gust_33 : decode cX9_gust 33 = .ok (.iload_n 1, 1) := by decide +kernel
theorem dX9_gust_34 : decode cX9_gust 34 = .ok (.invokevirtual 137, 3) := by decide +kernel
theorem dX9_gust_37 : decode cX9_gust 37 = .ok (.ireturn, 1) := by decide +kernel
theorem dX9_next_0 : decode cX9_next 0 = .ok (.aload_n 0, 1) := by decide +kernel
theorem dX9_next_1 : decode cX9_next 1 = .ok (.getfield 31, 3) := by decide +kernel
theorem dX9_next_4 : decode cX9_next 4 = .ok (.iload_n 1, 1) := by decide +kernel
theorem dX9_next_5 : decode cX9_next 5 = .ok (.invokevirtual 122, 3) := by decide +kernel
theorem dX9_next_8 : decode cX9_next 8 = .ok (.ifCond .eq 21, 3) := by decide +kernel
theorem dX9_next_11 : decode cX9_next 11 = .ok (.aload_n 0, 1) := by decide +kernel
theorem dX9_next_12 : decode cX9_next 12 = .ok (.getfield 31, 3) := by decide +kernel
theorem dX9_next_15 : decode cX9_next 15 = .ok (.iload_n 2, 1) := by decide +kernel
theorem dX9_next_16 : decode cX9_next 16 = .ok (.invokevirtual 126, 3) := by decide +kernel
theorem dX9_next_19 : decode cX9_next 19 = .ok (.ifCond .eq 10, 3) := by decide +kernel
theorem dX9_next_22 : decode cX9_next 22 = .ok (.iload_n 3, 1) := by decide +kernel
theorem dX9_next_23 : decode cX9_next 23 = .ok (.invokestatic 140, 3) := by decide +kernel
theorem dX9_next_26 : decode cX9_next 26 = .ok (.ifCond .ne 5, 3) := by decide +kernel
theorem dX9_next_29 : decode cX9_next 29 = .ok (.iconst (-1), 1) := by decide +kernel
theorem dX9_next_30 : decode cX9_next 30 = .ok (.ireturn, 1) := by decide +kernel
theorem dX9_next_31 : decode cX9_next 31 = .ok (.aload_n 0, 1) := by decide +kernel
theorem dX9_next_32 : decode cX9_next 32 = .ok (.getfield 45, 3) := by decide +kernel
theorem dX9_next_35 : decode cX9_next 35 = .ok (.iload_n 1, 1) := by decide +kernel
theorem dX9_next_36 : decode cX9_next 36 = .ok (.iload_n 2, 1) := by decide +kernel
theorem dX9_next_37 : decode cX9_next 37 = .ok (.invokevirtual 129, 3) := by decide +kernel
theorem dX9_next_40 : decode cX9_next 40 = .ok (.ifCond .eq 16, 3) := by decide +kernel
theorem dX9_next_43 : decode cX9_next 43 = .ok (.aload_n 0, 1) := by decide +kernel
theorem dX9_next_44 : decode cX9_next 44 = .ok (.getfield 45, 3) := by decide +kernel
theorem dX9_next_47 : decode cX9_next 47 = .ok (.iload_n 1, 1) := by decide +kernel
theorem dX9_next_48 : decode cX9_next 48 = .ok (.iload_n 2, 1) := by decide +kernel
theorem dX9_next_49 : decode cX9_next 49 = .ok (.iload_n 3, 1) := by decide +kernel
theorem dX9_next_50 : decode cX9_next 50 = .ok (.invokevirtual 143, 3) := by decide +kernel
theorem dX9_next_53 : decode cX9_next 53 = .ok (.goto 5, 3) := by decide +kernel
theorem dX9_next_56 : decode cX9_next 56 = .ok (.bipush (-3), 2) := by decide +kernel
theorem dX9_next_58 : decode cX9_next 58 = .ok (.ireturn, 1) := by decide +kernel
theorem dX9_isForecast_0 : decode cX9_isForecast 0 = .ok (.iload_n 0, 1) := by decide +kernel
theorem dX9_isForecast_1 : decode cX9_isForecast 1 = .ok (.bipush (-12), 2) := by decide +kernel
theorem dX9_isForecast_3 : decode cX9_isForecast 3 = .ok (.if_icmp .lt 13, 3) := by decide +kernel
theorem dX9_isForecast_6 : decode cX9_isForecast 6 = .ok (.iload_n 0, 1) := by decide +kernel
theorem dX9_isForecast_7 : decode cX9_isForecast 7 = .ok (.bipush 12, 2) := by decide +kernel
theorem dX9_isForecast_9 : decode cX9_isForecast 9 = .ok (.if_icmp .gt 7, 3) := by decide +kernel
theorem dX9_isForecast_12 : decode cX9_isForecast 12 = .ok (.iconst 1, 1) := by decide +kernel
theorem dX9_isForecast_13 : decode cX9_isForecast 13 = .ok (.goto 4, 3) := by decide +kernel
theorem dX9_isForecast_16 : decode cX9_isForecast 16 = .ok (.iconst 0, 1) := by decide +kernel
theorem dX9_isForecast_17 : decode cX9_isForecast 17 = .ok (.ireturn, 1) := by decide +kernel
theorem dX9_fate_0 : decode cX9_fate 0 = .ok (.aload_n 0, 1) := by decide +kernel
theorem dX9_fate_1 : decode cX9_fate 1 = .ok (.getfield 31, 3) := by decide +kernel
theorem dX9_fate_4 : decode cX9_fate 4 = .ok (.iload_n 1, 1) := by decide +kernel
theorem dX9_fate_5 : decode cX9_fate 5 = .ok (.invokevirtual 122, 3) := by decide +kernel
theorem dX9_fate_8 : decode cX9_fate 8 = .ok (.ifCond .ne 5, 3) := by decide +kernel
theorem dX9_fate_11 : decode cX9_fate 11 = .ok (.iconst (-1), 1) := by decide +kernel
theorem dX9_fate_12 : decode cX9_fate 12 = .ok (.ireturn, 1) := by decide +kernel
theorem dX9_fate_13 : decode cX9_fate 13 = .ok (.aload_n 0, 1) := by decide +kernel
theorem dX9_fate_14 : decode cX9_fate 14 = .ok (.getfield 54, 3) := by decide +kernel
theorem dX9_fate_17 : decode cX9_fate 17 = .ok (.invokevirtual 146, 3) := by decide +kernel
theorem dX9_fate_20 : decode cX9_fate 20 = .ok (.aload_n 0, 1) := by decide +kernel
theorem dX9_fate_21 : decode cX9_fate 21 = .ok (.getfield 54, 3) := by decide +kernel
theorem dX9_fate_24 : decode cX9_fate 24 = .ok (.getfield 149, 3) := by decide +kernel
theorem dX9_fate_27 : decode cX9_fate 27 = .ok (.iload_n 1, 1) := by decide +kernel
theorem dX9_fate_28 : decode cX9_fate 28 = .ok (.iaload, 1) := by decide +kernel
theorem dX9_fate_29 : decode cX9_fate 29 = .ok (.istore_n 2, 1) := by decide +kernel
theorem dX9_fate_30 : decode cX9_fate 30 = .ok (.iload_n 2, 1) := by decide +kernel
theorem dX9_fate_31 : decode cX9_fate 31 = .ok (.ldc 152, 2) := by decide +kernel
theorem dX9_fate_33 : decode cX9_fate 33 = .ok (.if_icmp .ne 8, 3) := by decide +kernel
theorem dX9_fate_36 : decode cX9_fate 36 = .ok (.bipush (-2), 2) := by decide +kernel
theorem dX9_fate_38 : decode cX9_fate 38 = .ok (.goto 4, 3) := by decide +kernel
theorem dX9_fate_41 : decode cX9_fate 41 = .ok (.iload_n 2, 1) := by decide +kernel
theorem dX9_fate_42 : decode cX9_fate 42 = .ok (.ireturn, 1) := by decide +kernel
theorem dX9_keep_0 : decode cX9_keep 0 = .ok (.aload_n 0, 1) := by decide +kernel
theorem dX9_keep_1 : decode cX9_keep 1 = .ok (.getfield 31, 3) := by decide +kernel
theorem dX9_keep_4 : decode cX9_keep 4 = .ok (.iload_n 1, 1) := by decide +kernel
theorem dX9_keep_5 : decode cX9_keep 5 = .ok (.invokevirtual 122, 3) := by decide +kernel
theorem dX9_keep_8 : decode cX9_keep 8 = .ok (.ifCond .ne 5, 3) := by decide +kernel
theorem dX9_keep_11 : decode cX9_keep 11 = .ok (.iconst (-1), 1) := by decide +kernel
theorem dX9_keep_12 : decode cX9_keep 12 = .ok (.ireturn, 1) := by decide +kernel
theorem dX9_keep_13 : decode cX9_keep 13 = .ok (.aload_n 0, 1) := by decide +kernel
theorem dX9_keep_14 : decode cX9_keep 14 = .ok (.getfield 54, 3) := by decide +kernel
theorem dX9_keep_17 : decode cX9_keep 17 = .ok (.invokevirtual 146, 3) := by decide +kernel
theorem dX9_keep_20 : decode cX9_keep 20 = .ok (.aload_n 0, 1) := by decide +kernel
theorem dX9_keep_21 : decode cX9_keep 21 = .ok (.getfield 54, 3) := by decide +kernel
theorem dX9_keep_24 : decode cX9_keep 24 = .ok (.getfield 153, 3) := by decide +kernel
theorem dX9_keep_27 : decode cX9_keep 27 = .ok (.iload_n 1, 1) := by decide +kernel
theorem dX9_keep_28 : decode cX9_keep 28 = .ok (.iaload, 1) := by decide +kernel
theorem dX9_keep_29 : decode cX9_keep 29 = .ok (.ireturn, 1) := by decide +kernel
theorem dX9_reach_0 : decode cX9_reach 0 = .ok (.aload_n 0, 1) := by decide +kernel
theorem dX9_reach_1 : decode cX9_reach 1 = .ok (.getfield 31, 3) := by decide +kernel
theorem dX9_reach_4 : decode cX9_reach 4 = .ok (.iload_n 1, 1) := by decide +kernel
theorem dX9_reach_5 : decode cX9_reach 5 = .ok (.invokevirtual 122, 3) := by decide +kernel
theorem dX9_reach_8 : decode cX9_reach 8 = .ok (.ifCond .ne 5, 3) := by decide +kernel
theorem dX9_reach_11 : decode cX9_reach 11 = .ok (.iconst (-1), 1) := by decide +kernel
theorem dX9_reach_12 : decode cX9_reach 12 = .ok (.ireturn, 1) := by decide +kernel
theorem dX9_reach_13 : decode cX9_reach 13 = .ok (.aload_n 0, 1) := by decide +kernel
theorem dX9_reach_14 : decode cX9_reach 14 = .ok (.getfield 54, 3) := by decide +kernel
theorem dX9_reach_17 : decode cX9_reach 17 = .ok (.invokevirtual 156, 3) := by decide +kernel
theorem dX9_reach_20 : decode cX9_reach 20 = .ok (.aload_n 0, 1) := by decide +kernel
theorem dX9_reach_21 : decode cX9_reach 21 = .ok (.getfield 54, 3) := by decide +kernel
theorem dX9_reach_24 : decode cX9_reach 24 = .ok (.getfield 159, 3) := by decide +kernel
theorem dX9_reach_27 : decode cX9_reach 27 = .ok (.iload_n 1, 1) := by decide +kernel
theorem dX9_reach_28 : decode cX9_reach 28 = .ok (.iaload, 1) := by decide +kernel
theorem dX9_reach_29 : decode cX9_reach 29 = .ok (.istore_n 2, 1) := by decide +kernel
theorem dX9_reach_30 : decode cX9_reach 30 = .ok (.iload_n 2, 1) := by decide +kernel
theorem dX9_reach_31 : decode cX9_reach 31 = .ok (.ldc 162, 2) := by decide +kernel
theorem dX9_reach_33 : decode cX9_reach 33 = .ok (.if_icmp .ne 8, 3) := by decide +kernel
theorem dX9_reach_36 : decode cX9_reach 36 = .ok (.bipush (-2), 2) := by decide +kernel
theorem dX9_reach_38 : decode cX9_reach 38 = .ok (.goto 5, 3) := by decide +kernel
theorem dX9_reach_41 : decode cX9_reach 41 = .ok (.iload_n 2, 1) := by decide +kernel
theorem dX9_reach_42 : decode cX9_reach 42 = .ok (.ineg, 1) := by decide +kernel
theorem dX9_reach_43 : decode cX9_reach 43 = .ok (.ireturn, 1) := by decide +kernel
theorem dX9_lead_0 : decode cX9_lead 0 = .ok (.aload_n 0, 1) := by decide +kernel
theorem dX9_lead_1 : decode cX9_lead 1 = .ok (.getfield 31, 3) := by decide +kernel
theorem dX9_lead_4 : decode cX9_lead 4 = .ok (.iload_n 1, 1) := by decide +kernel
theorem dX9_lead_5 : decode cX9_lead 5 = .ok (.invokevirtual 122, 3) := by decide +kernel
theorem dX9_lead_8 : decode cX9_lead 8 = .ok (.ifCond .ne 5, 3) := by decide +kernel
theorem dX9_lead_11 : decode cX9_lead 11 = .ok (.iconst (-1), 1) := by decide +kernel
theorem dX9_lead_12 : decode cX9_lead 12 = .ok (.ireturn, 1) := by decide +kernel
theorem dX9_lead_13 : decode cX9_lead 13 = .ok (.aload_n 0, 1) := by decide +kernel
theorem dX9_lead_14 : decode cX9_lead 14 = .ok (.getfield 54, 3) := by decide +kernel
theorem dX9_lead_17 : decode cX9_lead 17 = .ok (.invokevirtual 156, 3) := by decide +kernel
theorem dX9_lead_20 : decode cX9_lead 20 = .ok (.aload_n 0, 1) := by decide +kernel
theorem dX9_lead_21 : decode cX9_lead 21 = .ok (.getfield 54, 3) := by decide +kernel
theorem dX9_lead_24 : decode cX9_lead 24 = .ok (.getfield 163, 3) := by decide +kernel
theorem dX9_lead_27 : decode cX9_lead 27 = .ok (.iload_n 1, 1) := by decide +kernel
theorem dX9_lead_28 : decode cX9_lead 28 = .ok (.iaload, 1) := by decide +kernel
theorem dX9_lead_29 : decode cX9_lead 29 = .ok (.ireturn, 1) := by decide +kernel
theorem dX9_safe_0 : decode cX9_safe 0 = .ok (.iload_n 1, 1) := by decide +kernel
theorem dX9_safe_1 : decode cX9_safe 1 = .ok (.ifCond .lt 14, 3) := by decide +kernel
theorem dX9_safe_4 : decode cX9_safe 4 = .ok (.iload_n 1, 1) := by decide +kernel
theorem dX9_safe_5 : decode cX9_safe 5 = .ok (.aload_n 0, 1) := by decide +kernel
theorem dX9_safe_6 : decode cX9_safe 6 = .ok (.getfield 31, 3) := by decide +kernel
theorem dX9_safe_9 : decode cX9_safe 9 = .ok (.getfield 166, 3) := by decide +kernel
theorem dX9_safe_12 : decode cX9_safe 12 = .ok (.if_icmp .le 5, 3) := by decide +kernel
theorem dX9_safe_15 : decode cX9_safe 15 = .ok (.iconst (-1), 1) := by decide +kernel
theorem dX9_safe_16 : decode cX9_safe 16 = .ok (.ireturn, 1) := by decide +kernel
theorem dX9_safe_17 : decode cX9_safe 17 = .ok (.aload_n 0, 1) := by decide +kernel
theorem dX9_safe_18 : decode cX9_safe 18 = .ok (.getfield 54, 3) := by decide +kernel
theorem dX9_safe_21 : decode cX9_safe 21 = .ok (.invokevirtual 146, 3) := by decide +kernel
theorem dX9_safe_24 : decode cX9_safe 24 = .ok (.aload_n 0, 1) := by decide +kernel
theorem dX9_safe_25 : decode cX9_safe 25 = .ok (.getfield 54, 3) := by decide +kernel
theorem dX9_safe_28 : decode cX9_safe 28 = .ok (.iload_n 1, 1) := by decide +kernel
theorem dX9_safe_29 : decode cX9_safe 29 = .ok (.sipush 231, 3) := by decide +kernel
theorem dX9_safe_32 : decode cX9_safe 32 = .ok (.imul, 1) := by decide +kernel
theorem dX9_safe_33 : decode cX9_safe 33 = .ok (.iload_n 1, 1) := by decide +kernel
theorem dX9_safe_34 : decode cX9_safe 34 = .ok (.iconst 1, 1) := by decide +kernel
theorem dX9_safe_35 : decode cX9_safe 35 = .ok (.iadd, 1) := by decide +kernel
theorem dX9_safe_36 : decode cX9_safe 36 = .ok (.sipush 231, 3) := by decide +kernel
theorem dX9_safe_39 : decode cX9_safe 39 = .ok (.imul, 1) := by decide +kernel
theorem dX9_safe_40 : decode cX9_safe 40 = .ok (.invokevirtual 169, 3) := by decide +kernel
theorem dX9_safe_43 : decode cX9_safe 43 = .ok (.ireturn, 1) := by decide +kernel
theorem dX9_edge_0 : decode cX9_edge 0 = .ok (.aload_n 0, 1) := by decide +kernel
theorem dX9_edge_1 : decode cX9_edge 1 = .ok (.getfield 31, 3) := by decide +kernel
theorem dX9_edge_4 : decode cX9_edge 4 = .ok (.iload_n 1, 1) := by decide +kernel
theorem dX9_edge_5 : decode cX9_edge 5 = .ok (.iconst 0, 1) := by decide +kernel
theorem dX9_edge_6 : decode cX9_edge 6 = .ok (.iload_n 2, 1) := by decide +kernel
theorem dX9_edge_7 : decode cX9_edge 7 = .ok (.invokevirtual 118, 3) := by decide +kernel
theorem dX9_edge_10 : decode cX9_edge 10 = .ok (.iconst (-1), 1) := by decide +kernel
theorem dX9_edge_11 : decode cX9_edge 11 = .ok (.if_icmp .ne 6, 3) := by decide +kernel
theorem dX9_edge_14 : decode cX9_edge 14 = .ok (.bipush (-100), 2) := by decide +kernel
theorem dX9_edge_16 : decode cX9_edge 16 = .ok (.ireturn, 1) := by decide +kernel
theorem dX9_edge_17 : decode cX9_edge 17 = .ok (.aload_n 0, 1) := by decide +kernel
theorem dX9_edge_18 : decode cX9_edge 18 = .ok (.getfield 54, 3) := by decide +kernel
theorem dX9_edge_21 : decode cX9_edge 21 = .ok (.invokevirtual 146, 3) := by decide +kernel
theorem dX9_edge_24 : decode cX9_edge 24 = .ok (.aload_n 0, 1) := by decide +kernel
theorem dX9_edge_25 : decode cX9_edge 25 = .ok (.getfield 31, 3) := by decide +kernel
theorem dX9_edge_28 : decode cX9_edge 28 = .ok (.getfield 173, 3) := by decide +kernel
theorem dX9_edge_31 : decode cX9_edge 31 = .ok (.ineg, 1) := by decide +kernel
theorem dX9_edge_32 : decode cX9_edge 32 = .ok (.istore 4, 2) := by decide +kernel
theorem dX9_edge_34 : decode cX9_edge 34 = .ok (.iload 4, 2) := by decide +kernel
theorem dX9_edge_36 : decode cX9_edge 36 = .ok (.aload_n 0, 1) := by decide +kernel
theorem dX9_edge_37 : decode cX9_edge 37 = .ok (.getfield 31, 3) := by decide +kernel
theorem dX9_edge_40 : decode cX9_edge 40 = .ok (.getfield 173, 3) := by decide +kernel
theorem dX9_edge_43 : decode cX9_edge 43 = .ok (.if_icmp .gt 47, 3) := by decide +kernel
theorem dX9_edge_46 : decode cX9_edge 46 = .ok (.iload_n 3, 1) := by decide +kernel
theorem dX9_edge_47 : decode cX9_edge 47 = .ok (.ifCond .eq 9, 3) := by decide +kernel
theorem dX9_edge_50 : decode cX9_edge 50 = .ok (.iload 4, 2) := by decide +kernel
theorem dX9_edge_52 : decode cX9_edge 52 = .ok (.ineg, 1) := by decide +kernel
theorem dX9_edge_53 : decode cX9_edge 53 = .ok (.goto 5, 3) := by decide +kernel
theorem dX9_edge_56 : decode cX9_edge 56 = .ok (.iload 4, 2) := by decide +kernel
theorem dX9_edge_58 : decode cX9_edge 58 = .ok (.istore 5, 2) := by decide +kernel
theorem dX9_edge_60 : decode cX9_edge 60 = .ok (.aload_n 0, 1) := by decide +kernel
theorem dX9_edge_61 : decode cX9_edge 61 = .ok (.getfield 54, 3) := by decide +kernel
theorem dX9_edge_64 : decode cX9_edge 64 = .ok (.aload_n 0, 1) := by decide +kernel
theorem dX9_edge_65 : decode cX9_edge 65 = .ok (.getfield 31, 3) := by decide +kernel
theorem dX9_edge_68 : decode cX9_edge 68 = .ok (.iload_n 1, 1) := by decide +kernel
theorem dX9_edge_69 : decode cX9_edge 69 = .ok (.iload 5, 2) := by decide +kernel
theorem dX9_edge_71 : decode cX9_edge 71 = .ok (.iload_n 2, 1) := by decide +kernel
theorem dX9_edge_72 : decode cX9_edge 72 = .ok (.invokevirtual 118, 3) := by decide +kernel
theorem dX9_edge_75 : decode cX9_edge 75 = .ok (.invokevirtual 176, 3) := by decide +kernel
theorem dX9_edge_78 : decode cX9_edge 78 = .ok (.ifCond .eq 6, 3) := by decide +kernel
theorem dX9_edge_81 : decode cX9_edge 81 = .ok (.iload 5, 2) := by decide +kernel
theorem dX9_edge_83 : decode cX9_edge 83 = .ok (.ireturn, 1) := by decide +kernel
theorem dX9_edge_84 : decode cX9_edge 84 = .ok (.iinc 4 1, 3) := by decide +kernel
theorem dX9_edge_87 : decode cX9_edge 87 = .ok (.goto (-53), 3) := by decide +kernel
theorem dX9_edge_90 : decode cX9_edge 90 = .ok (.bipush (-100), 2) := by decide +kernel
theorem dX9_edge_92 : decode cX9_edge 92 = .ok (.ireturn, 1) := by decide +kernel
theorem dX9_doom_0 : decode cX9_doom 0 = .ok (.aload_n 0, 1) := by decide +kernel
theorem dX9_doom_1 : decode cX9_doom 1 = .ok (.getfield 54, 3) := by decide +kernel
theorem dX9_doom_4 : decode cX9_doom 4 = .ok (.invokevirtual 146, 3) := by decide +kernel
theorem dX9_doom_7 : decode cX9_doom 7 = .ok (.aload_n 0, 1) := by decide +kernel
theorem dX9_doom_8 : decode cX9_doom 8 = .ok (.getfield 54, 3) := by decide +kernel
theorem dX9_doom_11 : decode cX9_doom 11 = .ok (.invokevirtual 179, 3) := by decide +kernel
theorem dX9_doom_14 : decode cX9_doom 14 = .ok (.ireturn, 1) := by decide +kernel
theorem dX9_borne_0 : decode cX9_borne 0 = .ok (.aload_n 0, 1) := by decide +kernel
theorem dX9_borne_1 : decode cX9_borne 1 = .ok (.getfield 31, 3) := by decide +kernel
theorem dX9_borne_4 : decode cX9_borne 4 = .ok (.iload_n 1, 1) := by decide +kernel
theorem dX9_borne_5 : decode cX9_borne 5 = .ok (.invokevirtual 122, 3) := by decide +kernel
theorem dX9_borne_8 : decode cX9_borne 8 = .ok (.ifCond .ne 5, 3) := by decide +kernel
theorem dX9_borne_11 : decode cX9_borne 11 = .ok (.iconst (-1), 1) := by decide +kernel
theorem dX9_borne_12 : decode cX9_borne 12 = .ok (.ireturn, 1) := by decide +kernel
theorem dX9_borne_13 : decode cX9_borne 13 = .ok (.aload_n 0, 1) := by decide +kernel
theorem dX9_borne_14 : decode cX9_borne 14 = .ok (.getfield 54, 3) := by decide +kernel
theorem dX9_borne_17 : decode cX9_borne 17 = .ok (.invokevirtual 146, 3) := by decide +kernel
theorem dX9_borne_20 : decode cX9_borne 20 = .ok (.aload_n 0, 1) := by decide +kernel
theorem dX9_borne_21 : decode cX9_borne 21 = .ok (.getfield 54, 3) := by decide +kernel
theorem dX9_borne_24 : decode cX9_borne 24 = .ok (.iload_n 1, 1) := by decide +kernel
theorem dX9_borne_25 : decode cX9_borne 25 = .ok (.invokevirtual 182, 3) := by decide +kernel
theorem dX9_borne_28 : decode cX9_borne 28 = .ok (.ireturn, 1) := by decide +kernel
theorem dX9_poles_0 : decode cX9_poles 0 = .ok (.aload_n 0, 1) := by decide +kernel
theorem dX9_poles_1 : decode cX9_poles 1 = .ok (.getfield 31, 3) := by decide +kernel
theorem dX9_poles_4 : decode cX9_poles 4 = .ok (.iload_n 1, 1) := by decide +kernel
theorem dX9_poles_5 : decode cX9_poles 5 = .ok (.invokevirtual 122, 3) := by decide +kernel
theorem dX9_poles_8 : decode cX9_poles 8 = .ok (.ifCond .eq 14, 3) := by decide +kernel
theorem dX9_poles_11 : decode cX9_poles 11 = .ok (.aload_n 0, 1) := by decide +kernel
theorem dX9_poles_12 : decode cX9_poles 12 = .ok (.getfield 54, 3) := by decide +kernel
theorem dX9_poles_15 : decode cX9_poles 15 = .ok (.iload_n 1, 1) := by decide +kernel
theorem dX9_poles_16 : decode cX9_poles 16 = .ok (.invokevirtual 185, 3) := by decide +kernel
theorem dX9_poles_19 : decode cX9_poles 19 = .ok (.goto 4, 3) := by decide +kernel
theorem dX9_poles_22 : decode cX9_poles 22 = .ok (.iconst (-1), 1) := by decide +kernel
theorem dX9_poles_23 : decode cX9_poles 23 = .ok (.ireturn, 1) := by decide +kernel
theorem dX9_forecast_0 : decode cX9_forecast 0 = .ok (.iload_n 1, 1) := by decide +kernel
theorem dX9_forecast_1 : decode cX9_forecast 1 = .ok (.invokestatic 140, 3) := by decide +kernel
theorem dX9_forecast_4 : decode cX9_forecast 4 = .ok (.ifCond .eq 14, 3) := by decide +kernel
theorem dX9_forecast_7 : decode cX9_forecast 7 = .ok (.aload_n 0, 1) := by decide +kernel
theorem dX9_forecast_8 : decode cX9_forecast 8 = .ok (.getfield 68, 3) := by decide +kernel
theorem dX9_forecast_11 : decode cX9_forecast 11 = .ok (.iload_n 1, 1) := by decide +kernel
theorem dX9_forecast_12 : decode cX9_forecast 12 = .ok (.invokevirtual 188, 3) := by decide +kernel
theorem dX9_forecast_15 : decode cX9_forecast 15 = .ok (.goto 4, 3) := by decide +kernel
theorem dX9_forecast_18 : decode cX9_forecast 18 = .ok (.iconst (-1), 1) := by decide +kernel
theorem dX9_forecast_19 : decode cX9_forecast 19 = .ok (.ireturn, 1) := by decide +kernel
theorem dX9_clear_0 : decode cX9_clear 0 = .ok (.aload_n 0, 1) := by decide +kernel
theorem dX9_clear_1 : decode cX9_clear 1 = .ok (.getfield 68, 3) := by decide +kernel
theorem dX9_clear_4 : decode cX9_clear 4 = .ok (.invokevirtual 93, 3) := by decide +kernel
theorem dX9_clear_7 : decode cX9_clear 7 = .ok (.return_, 1) := by decide +kernel
theorem dX9_known_0 : decode cX9_known 0 = .ok (.aload_n 0, 1) := by decide +kernel
theorem dX9_known_1 : decode cX9_known 1 = .ok (.getfield 31, 3) := by decide +kernel
theorem dX9_known_4 : decode cX9_known 4 = .ok (.iload_n 1, 1) := by decide +kernel
theorem dX9_known_5 : decode cX9_known 5 = .ok (.invokevirtual 122, 3) := by decide +kernel
theorem dX9_known_8 : decode cX9_known 8 = .ok (.ifCond .ne 5, 3) := by decide +kernel
theorem dX9_known_11 : decode cX9_known 11 = .ok (.iconst (-1), 1) := by decide +kernel
theorem dX9_known_12 : decode cX9_known 12 = .ok (.ireturn, 1) := by decide +kernel
theorem dX9_known_13 : decode cX9_known 13 = .ok (.aload_n 0, 1) := by decide +kernel
theorem dX9_known_14 : decode cX9_known 14 = .ok (.getfield 68, 3) := by decide +kernel
theorem dX9_known_17 : decode cX9_known 17 = .ok (.iload_n 1, 1) := by decide +kernel
theorem dX9_known_18 : decode cX9_known 18 = .ok (.invokevirtual 191, 3) := by decide +kernel
theorem dX9_known_21 : decode cX9_known 21 = .ok (.aload_n 0, 1) := by decide +kernel
theorem dX9_known_22 : decode cX9_known 22 = .ok (.getfield 68, 3) := by decide +kernel
theorem dX9_known_25 : decode cX9_known 25 = .ok (.getfield 194, 3) := by decide +kernel
theorem dX9_known_28 : decode cX9_known 28 = .ok (.ireturn, 1) := by decide +kernel
theorem dX9_knownAct_0 : decode cX9_knownAct 0 = .ok (.aload_n 0, 1) := by decide +kernel
theorem dX9_knownAct_1 : decode cX9_knownAct 1 = .ok (.getfield 31, 3) := by decide +kernel
theorem dX9_knownAct_4 : decode cX9_knownAct 4 = .ok (.iload_n 1, 1) := by decide +kernel
theorem dX9_knownAct_5 : decode cX9_knownAct 5 = .ok (.invokevirtual 122, 3) := by decide +kernel
theorem dX9_knownAct_8 : decode cX9_knownAct 8 = .ok (.ifCond .ne 5, 3) := by decide +kernel
theorem dX9_knownAct_11 : decode cX9_knownAct 11 = .ok (.iconst (-1), 1) := by decide +kernel
theorem dX9_knownAct_12 : decode cX9_knownAct 12 = .ok (.ireturn, 1) := by decide +kernel
theorem dX9_knownAct_13 : decode cX9_knownAct 13 = .ok (.aload_n 0, 1) := by decide +kernel
theorem dX9_knownAct_14 : decode cX9_knownAct 14 = .ok (.getfield 68, 3) := by decide +kernel
theorem dX9_knownAct_17 : decode cX9_knownAct 17 = .ok (.iload_n 1, 1) := by decide +kernel
theorem dX9_knownAct_18 : decode cX9_knownAct 18 = .ok (.invokevirtual 191, 3) := by decide +kernel
theorem dX9_knownAct_21 : decode cX9_knownAct 21 = .ok (.aload_n 0, 1) := by decide +kernel
theorem dX9_knownAct_22 : decode cX9_knownAct 22 = .ok (.getfield 68, 3) := by decide +kernel
theorem dX9_knownAct_25 : decode cX9_knownAct 25 = .ok (.iload_n 2, 1) := by decide +kernel
theorem dX9_knownAct_26 : decode cX9_knownAct 26 = .ok (.invokevirtual 197, 3) := by decide +kernel
theorem dX9_knownAct_29 : decode cX9_knownAct 29 = .ok (.ireturn, 1) := by decide +kernel
theorem dX9_blind_0 : decode cX9_blind 0 = .ok (.aload_n 0, 1) := by decide +kernel
theorem dX9_blind_1 : decode cX9_blind 1 = .ok (.getfield 31, 3) := by decide +kernel
theorem dX9_blind_4 : decode cX9_blind 4 = .ok (.iload_n 1, 1) := by decide +kernel
theorem dX9_blind_5 : decode cX9_blind 5 = .ok (.invokevirtual 122, 3) := by decide +kernel
theorem dX9_blind_8 : decode cX9_blind 8 = .ok (.ifCond .eq 13, 3) := by decide +kernel
theorem dX9_blind_11 : decode cX9_blind 11 = .ok (.iload_n 2, 1) := by decide +kernel
theorem dX9_blind_12 : decode cX9_blind 12 = .ok (.iconst 1, 1) := by decide +kernel
theorem dX9_blind_13 : decode cX9_blind 13 = .ok (.if_icmp .lt 8, 3) := by decide +kernel
theorem dX9_blind_16 : decode cX9_blind 16 = .ok (.iload_n 2, 1) := by decide +kernel
theorem dX9_blind_17 : decode cX9_blind 17 = .ok (.iconst 4, 1) := by decide +kernel
theorem dX9_blind_18 : decode cX9_blind 18 = .ok (.if_icmp .le 5, 3) := by decide +kernel
theorem dX9_blind_21 : decode cX9_blind 21 = .ok (.iconst (-1), 1) := by decide +kernel
theorem dX9_blind_22 : decode cX9_blind 22 = .ok (.ireturn, 1) := by decide +kernel
theorem dX9_blind_23 : decode cX9_blind 23 = .ok (.aload_n 0, 1) := by decide +kernel
theorem dX9_blind_24 : decode cX9_blind 24 = .ok (.getfield 68, 3) := by decide +kernel
theorem dX9_blind_27 : decode cX9_blind 27 = .ok (.iload_n 1, 1) := by decide +kernel
theorem dX9_blind_28 : decode cX9_blind 28 = .ok (.iload_n 2, 1) := by decide +kernel
theorem dX9_blind_29 : decode cX9_blind 29 = .ok (.iconst 0, 1) := by decide +kernel
theorem dX9_blind_30 : decode cX9_blind 30 = .ok (.invokevirtual 200, 3) := by decide +kernel
theorem dX9_blind_33 : decode cX9_blind 33 = .ok (.ireturn, 1) := by decide +kernel
theorem dX9_blindAct_0 : decode cX9_blindAct 0 = .ok (.aload_n 0, 1) := by decide +kernel
theorem dX9_blindAct_1 : decode cX9_blindAct 1 = .ok (.getfield 31, 3) := by decide +kernel
theorem dX9_blindAct_4 : decode cX9_blindAct 4 = .ok (.iload_n 1, 1) := by decide +kernel
theorem dX9_blindAct_5 : decode cX9_blindAct 5 = .ok (.invokevirtual 122, 3) := by decide +kernel
theorem dX9_blindAct_8 : decode cX9_blindAct 8 = .ok (.ifCond .eq 22, 3) := by decide +kernel
theorem dX9_blindAct_11 : decode cX9_blindAct 11 = .ok (.iload_n 2, 1) := by decide +kernel
theorem dX9_blindAct_12 : decode cX9_blindAct 12 = .ok (.iconst 1, 1) := by decide +kernel
theorem dX9_blindAct_13 : decode cX9_blindAct 13 = .ok (.if_icmp .lt 17, 3) := by decide +kernel
theorem dX9_blindAct_16 : decode cX9_blindAct 16 = .ok (.iload_n 2, 1) := by decide +kernel
theorem dX9_blindAct_17 : decode cX9_blindAct 17 = .ok (.iconst 4, 1) := by decide +kernel
theorem dX9_blindAct_18 : decode cX9_blindAct 18 = .ok (.if_icmp .gt 12, 3) := by decide +kernel
theorem dX9_blindAct_21 : decode cX9_blindAct 21 = .ok (.iload_n 3, 1) := by decide +kernel
theorem dX9_blindAct_22 : decode cX9_blindAct 22 = .ok (.ifCond .lt 8, 3) := by decide +kernel
theorem dX9_blindAct_25 : decode cX9_blindAct 25 = .ok (.iload_n 3, 1) := by decide +kernel
theorem dX9_blindAct_26 : decode cX9_blindAct 26 = .ok (.iload_n 2, 1) := by decide +kernel
theorem dX9_blindAct_27 : decode cX9_blindAct 27 = .ok (.if_icmp .lt 5, 3) := by decide +kernel
theorem dX9_blindAct_30 : decode cX9_blindAct 30 = .ok (.iconst (-1), 1) := by decide +kernel
theorem dX9_blindAct_31 : decode cX9_blindAct 31 = .ok (.ireturn, 1) := by decide +kernel
theorem dX9_blindAct_32 : decode cX9_blindAct 32 = .ok (.aload_n 0, 1) := by decide +kernel
theorem dX9_blindAct_33 : decode cX9_blindAct 33 = .ok (.getfield 68, 3) := by decide +kernel
theorem dX9_blindAct_36 : decode cX9_blindAct 36 = .ok (.iload_n 1, 1) := by decide +kernel
theorem dX9_blindAct_37 : decode cX9_blindAct 37 = .ok (.iload_n 2, 1) := by decide +kernel
theorem dX9_blindAct_38 : decode cX9_blindAct 38 = .ok (.iconst 1, 1) := by decide +kernel
theorem dX9_blindAct_39 : decode cX9_blindAct 39 = .ok (.invokevirtual 200, 3) := by decide +kernel
theorem dX9_blindAct_42 : decode cX9_blindAct 42 = .ok (.ifCond .le 15, 3) := by decide +kernel
theorem dX9_blindAct_45 : decode cX9_blindAct 45 = .ok (.aload_n 0, 1) := by decide +kernel
theorem dX9_blindAct_46 : decode cX9_blindAct 46 = .ok (.getfield 68, 3) := by decide +kernel
theorem dX9_blindAct_49 : decode cX9_blindAct 49 = .ok (.getfield 204, 3) := by decide +kernel
theorem dX9_blindAct_52 : decode cX9_blindAct 52 = .ok (.iload_n 3, 1) := by decide +kernel
theorem dX9_blindAct_53 : decode cX9_blindAct 53 = .ok (.iaload, 1) := by decide +kernel
theorem dX9_blindAct_54 : decode cX9_blindAct 54 = .ok (.goto 4, 3) := by decide +kernel
theorem dX9_blindAct_57 : decode cX9_blindAct 57 = .ok (.iconst (-1), 1) := by decide +kernel
theorem dX9_blindAct_58 : decode cX9_blindAct 58 = .ok (.ireturn, 1) := by decide +kernel
theorem dX9_reflex_0 : decode cX9_reflex 0 = .ok (.aload_n 0, 1) := by decide +kernel
theorem dX9_reflex_1 : decode cX9_reflex 1 = .ok (.getfield 31, 3) := by decide +kernel
theorem dX9_reflex_4 : decode cX9_reflex 4 = .ok (.iload_n 1, 1) := by decide +kernel
theorem dX9_reflex_5 : decode cX9_reflex 5 = .ok (.invokevirtual 122, 3) := by decide +kernel
theorem dX9_reflex_8 : decode cX9_reflex 8 = .ok (.ifCond .eq 14, 3) := by decide +kernel
theorem dX9_reflex_11 : decode cX9_reflex 11 = .ok (.aload_n 0, 1) := by decide +kernel
theorem dX9_reflex_12 : decode cX9_reflex 12 = .ok (.getfield 61, 3) := by decide +kernel
theorem dX9_reflex_15 : decode cX9_reflex 15 = .ok (.iload_n 1, 1) := by decide +kernel
theorem dX9_reflex_16 : decode cX9_reflex 16 = .ok (.invokevirtual 207, 3) := by decide +kernel
theorem dX9_reflex_19 : decode cX9_reflex 19 = .ok (.goto 4, 3) := by decide +kernel
theorem dX9_reflex_22 : decode cX9_reflex 22 = .ok (.iconst (-1), 1) := by decide +kernel
theorem dX9_reflex_23 : decode cX9_reflex 23 = .ok (.ireturn, 1) := by decide +kernel
theorem dX9_proof_0 : decode cX9_proof 0 = .ok (.aload_n 0, 1) := by decide +kernel
theorem dX9_proof_1 : decode cX9_proof 1 = .ok (.getfield 31, 3) := by decide +kernel
theorem dX9_proof_4 : decode cX9_proof 4 = .ok (.iload_n 1, 1) := by decide +kernel
theorem dX9_proof_5 : decode cX9_proof 5 = .ok (.invokevirtual 122, 3) := by decide +kernel
theorem dX9_proof_8 : decode cX9_proof 8 = .ok (.ifCond .ne 5, 3) := by decide +kernel
theorem dX9_proof_11 : decode cX9_proof 11 = .ok (.iconst (-1), 1) := by decide +kernel
theorem dX9_proof_12 : decode cX9_proof 12 = .ok (.ireturn, 1) := by decide +kernel
theorem dX9_proof_13 : decode cX9_proof 13 = .ok (.aload_n 0, 1) := by decide +kernel
theorem dX9_proof_14 : decode cX9_proof 14 = .ok (.getfield 61, 3) := by decide +kernel
theorem dX9_proof_17 : decode cX9_proof 17 = .ok (.iload_n 1, 1) := by decide +kernel
theorem dX9_proof_18 : decode cX9_proof 18 = .ok (.invokevirtual 210, 3) := by decide +kernel
theorem dX9_proof_21 : decode cX9_proof 21 = .ok (.aload_n 0, 1) := by decide +kernel
theorem dX9_proof_22 : decode cX9_proof 22 = .ok (.getfield 61, 3) := by decide +kernel
theorem dX9_proof_25 : decode cX9_proof 25 = .ok (.invokevirtual 213, 3) := by decide +kernel
theorem dX9_proof_28 : decode cX9_proof 28 = .ok (.ireturn, 1) := by decide +kernel
theorem dX9_witness_0 : decode cX9_witness 0 = .ok (.aload_n 0, 1) := by decide +kernel
theorem dX9_witness_1 : decode cX9_witness 1 = .ok (.getfield 31, 3) := by decide +kernel
theorem dX9_witness_4 : decode cX9_witness 4 = .ok (.iload_n 1, 1) := by decide +kernel
theorem dX9_witness_5 : decode cX9_witness 5 = .ok (.invokevirtual 122, 3) := by decide +kernel
theorem dX9_witness_8 : decode cX9_witness 8 = .ok (.ifCond .ne 6, 3) := by decide +kernel
theorem dX9_witness_11 : decode cX9_witness 11 = .ok (.bipush (-100), 2) := by decide +kernel
theorem dX9_witness_13 : decode cX9_witness 13 = .ok (.ireturn, 1) := by decide +kernel
theorem dX9_witness_14 : decode cX9_witness 14 = .ok (.aload_n 0, 1) := by decide +kernel
theorem dX9_witness_15 : decode cX9_witness 15 = .ok (.getfield 61, 3) := by decide +kernel
theorem dX9_witness_18 : decode cX9_witness 18 = .ok (.iload_n 1, 1) := by decide +kernel
theorem dX9_witness_19 : decode cX9_witness 19 = .ok (.invokevirtual 210, 3) := by decide +kernel
theorem dX9_witness_22 : decode cX9_witness 22 = .ok (.aload_n 0, 1) := by decide +kernel
theorem dX9_witness_23 : decode cX9_witness 23 = .ok (.getfield 61, 3) := by decide +kernel
theorem dX9_witness_26 : decode cX9_witness 26 = .ok (.iload_n 2, 1) := by decide +kernel
theorem dX9_witness_27 : decode cX9_witness 27 = .ok (.invokevirtual 216, 3) := by decide +kernel
theorem dX9_witness_30 : decode cX9_witness 30 = .ok (.ireturn, 1) := by decide +kernel
theorem dX9_arrives_0 : decode cX9_arrives 0 = .ok (.aload_n 0, 1) := by decide +kernel
theorem dX9_arrives_1 : decode cX9_arrives 1 = .ok (.getfield 31, 3) := by decide +kernel
theorem dX9_arrives_4 : decode cX9_arrives 4 = .ok (.iload_n 1, 1) := by decide +kernel
theorem dX9_arrives_5 : decode cX9_arrives 5 = .ok (.invokevirtual 122, 3) := by decide +kernel
theorem dX9_arrives_8 : decode cX9_arrives 8 = .ok (.ifCond .ne 5, 3) := by decide +kernel
theorem dX9_arrives_11 : decode cX9_arrives 11 = .ok (.iconst (-1), 1) := by decide +kernel
theorem dX9_arrives_12 : decode cX9_arrives 12 = .ok (.ireturn, 1) := by decide +kernel
theorem dX9_arrives_13 : decode cX9_arrives 13 = .ok (.aload_n 0, 1) := by decide +kernel
theorem dX9_arrives_14 : decode cX9_arrives 14 = .ok (.getfield 61, 3) := by decide +kernel
theorem dX9_arrives_17 : decode cX9_arrives 17 = .ok (.iload_n 1, 1) := by decide +kernel
theorem dX9_arrives_18 : decode cX9_arrives 18 = .ok (.invokevirtual 210, 3) := by decide +kernel
theorem dX9_arrives_21 : decode cX9_arrives 21 = .ok (.aload_n 0, 1) := by decide +kernel
theorem dX9_arrives_22 : decode cX9_arrives 22 = .ok (.getfield 61, 3) := by decide +kernel
theorem dX9_arrives_25 : decode cX9_arrives 25 = .ok (.iload_n 1, 1) := by decide +kernel
theorem dX9_arrives_26 : decode cX9_arrives 26 = .ok (.invokevirtual 219, 3) := by decide +kernel
theorem dX9_arrives_29 : decode cX9_arrives 29 = .ok (.ireturn, 1) := by decide +kernel
theorem dX9_odds_0 : decode cX9_odds 0 = .ok (.aload_n 0, 1) := by decide +kernel
theorem dX9_odds_1 : decode cX9_odds 1 = .ok (.getfield 31, 3) := by decide +kernel
theorem dX9_odds_4 : decode cX9_odds 4 = .ok (.iload_n 1, 1) := by decide +kernel
theorem dX9_odds_5 : decode cX9_odds 5 = .ok (.invokevirtual 122, 3) := by decide +kernel
theorem dX9_odds_8 : decode cX9_odds 8 = .ok (.ifCond .eq 22, 3) := by decide +kernel
theorem dX9_odds_11 : decode cX9_odds 11 = .ok (.iload_n 2, 1) := by decide +kernel
theorem dX9_odds_12 : decode cX9_odds 12 = .ok (.ifCond .lt 18, 3) := by decide +kernel
theorem dX9_odds_15 : decode cX9_odds 15 = .ok (.iload_n 2, 1) := by decide +kernel
theorem dX9_odds_16 : decode cX9_odds 16 = .ok (.bipush 12, 2) := by decide +kernel
theorem dX9_odds_18 : decode cX9_odds 18 = .ok (.if_icmp .gt 12, 3) := by decide +kernel
theorem dX9_odds_21 : decode cX9_odds 21 = .ok (.iload_n 3, 1) := by decide +kernel
theorem dX9_odds_22 : decode cX9_odds 22 = .ok (.ifCond .lt 8, 3) := by decide +kernel
theorem dX9_odds_25 : decode cX9_odds 25 = .ok (.iload_n 3, 1) := by decide +kernel
theorem dX9_odds_26 : decode cX9_odds 26 = .ok (.iconst 2, 1) := by decide +kernel
theorem dX9_odds_27 : decode cX9_odds 27 = .ok (.if_icmp .le 7, 3) := by decide +kernel
theorem dX9_odds_30 : decode cX9_odds 30 = .ok (.ldc2_w 222, 3) := by decide +kernel
theorem dX9_odds_33 : decode cX9_odds 33 = .ok (.lreturn, 1) := by decide +kernel
theorem dX9_odds_34 : decode cX9_odds 34 = .ok (.aload_n 0, 1) := by decide +kernel
theorem dX9_odds_35 : decode cX9_odds 35 = .ok (.getfield 61, 3) := by decide +kernel
theorem dX9_odds_38 : decode cX9_odds 38 = .ok (.iload_n 1, 1) := by decide +kernel
theorem dX9_odds_39 : decode cX9_odds 39 = .ok (.iload_n 2, 1) := by decide +kernel
theorem dX9_odds_40 : decode cX9_odds 40 = .ok (.iload_n 3, 1) := by decide +kernel
theorem dX9_odds_41 : decode cX9_odds 41 = .ok (.invokevirtual 224, 3) := by decide +kernel
theorem dX9_odds_44 : decode cX9_odds 44 = .ok (.lreturn, 1) := by decide +kernel
theorem dX9_learn_0 : decode cX9_learn 0 = .ok (.aload_n 0, 1) := by decide +kernel
theorem dX9_learn_1 : decode cX9_learn 1 = .ok (.getfield 31, 3) := by decide +kernel
theorem dX9_learn_4 : decode cX9_learn 4 = .ok (.iload_n 1, 1) := by decide +kernel
theorem dX9_learn_5 : decode cX9_learn 5 = .ok (.invokevirtual 122, 3) := by decide +kernel
theorem dX9_learn_8 : decode cX9_learn 8 = .ok (.ifCond .ne 5, 3) := by decide +kernel
theorem dX9_learn_11 : decode cX9_learn 11 = .ok (.iconst (-1), 1) := by decide +kernel
theorem dX9_learn_12 : decode cX9_learn 12 = .ok (.ireturn, 1) := by decide +kernel
theorem dX9_learn_13 : decode cX9_learn 13 = .ok (.aload_n 0, 1) := by decide +kernel
theorem dX9_learn_14 : decode cX9_learn 14 = .ok (.getfield 54, 3) := by decide +kernel
theorem dX9_learn_17 : decode cX9_learn 17 = .ok (.invokevirtual 146, 3) := by decide +kernel
theorem dX9_learn_20 : decode cX9_learn 20 = .ok (.aload_n 0, 1) := by decide +kernel
theorem dX9_learn_21 : decode cX9_learn 21 = .ok (.getfield 61, 3) := by decide +kernel
theorem dX9_learn_24 : decode cX9_learn 24 = .ok (.iload_n 1, 1) := by decide +kernel
theorem dX9_learn_25 : decode cX9_learn 25 = .ok (.aload_n 0, 1) := by decide +kernel
theorem dX9_learn_26 : decode cX9_learn 26 = .ok (.getfield 54, 3) := by decide +kernel
theorem dX9_learn_29 : decode cX9_learn 29 = .ok (.invokevirtual 228, 3) := by decide +kernel
theorem dX9_learn_32 : decode cX9_learn 32 = .ok (.ireturn, 1) := by decide +kernel
theorem dX9_learned_0 : decode cX9_learned 0 = .ok (.iload_n 1, 1) := by decide +kernel
theorem dX9_learned_1 : decode cX9_learned 1 = .ok (.ifCond .lt 26, 3) := by decide +kernel
theorem dX9_learned_4 : decode cX9_learned 4 = .ok (.iload_n 1, 1) := by decide +kernel
theorem dX9_learned_5 : decode cX9_learned 5 = .ok (.aload_n 0, 1) := by decide +kernel
theorem dX9_learned_6 : decode cX9_learned 6 = .ok (.getfield 61, 3) := by decide +kernel
theorem dX9_learned_9 : decode cX9_learned 9 = .ok (.getfield 232, 3) := by decide +kernel
theorem dX9_learned_12 : decode cX9_learned 12 = .ok (.if_icmp .ge 15, 3) := by decide +kernel
theorem dX9_learned_15 : decode cX9_learned 15 = .ok (.aload_n 0, 1) := by decide +kernel
theorem dX9_learned_16 : decode cX9_learned 16 = .ok (.getfield 61, 3) := by decide +kernel
theorem dX9_learned_19 : decode cX9_learned 19 = .ok (.getfield 235, 3) := by decide +kernel
theorem dX9_learned_22 : decode cX9_learned 22 = .ok (.iload_n 1, 1) := by decide +kernel
theorem dX9_learned_23 : decode cX9_learned 23 = .ok (.iaload, 1) := by decide +kernel
theorem dX9_learned_24 : decode cX9_learned 24 = .ok (.goto 4, 3) := by decide +kernel
theorem dX9_learned_27 : decode cX9_learned 27 = .ok (.iconst (-1), 1) := by decide +kernel
theorem dX9_learned_28 : decode cX9_learned 28 = .ok (.ireturn, 1) := by decide +kernel
theorem dX9_forget_0 : decode cX9_forget 0 = .ok (.aload_n 0, 1) := by decide +kernel
theorem dX9_forget_1 : decode cX9_forget 1 = .ok (.getfield 61, 3) := by decide +kernel
theorem dX9_forget_4 : decode cX9_forget 4 = .ok (.invokevirtual 108, 3) := by decide +kernel
theorem dX9_forget_7 : decode cX9_forget 7 = .ok (.ireturn, 1) := by decide +kernel
theorem dX9_stand_0 : decode cX9_stand 0 = .ok (.aload_n 0, 1) := by decide +kernel
theorem dX9_stand_1 : decode cX9_stand 1 = .ok (.getfield 31, 3) := by decide +kernel
theorem dX9_stand_4 : decode cX9_stand 4 = .ok (.iload_n 1, 1) := by decide +kernel
theorem dX9_stand_5 : decode cX9_stand 5 = .ok (.invokevirtual 122, 3) := by decide +kernel
theorem dX9_stand_8 : decode cX9_stand 8 = .ok (.ifCond .ne 5, 3) := by decide +kernel
theorem dX9_stand_11 : decode cX9_stand 11 = .ok (.iconst 0, 1) := by decide +kernel
theorem dX9_stand_12 : decode cX9_stand 12 = .ok (.ireturn, 1) := by decide +kernel
theorem dX9_stand_13 : decode cX9_stand 13 = .ok (.aload_n 0, 1) := by decide +kernel
theorem dX9_stand_14 : decode cX9_stand 14 = .ok (.getfield 75, 3) := by decide +kernel
theorem dX9_stand_17 : decode cX9_stand 17 = .ok (.iload_n 1, 1) := by decide +kernel
theorem dX9_stand_18 : decode cX9_stand 18 = .ok (.invokevirtual 238, 3) := by decide +kernel
theorem dX9_stand_21 : decode cX9_stand 21 = .ok (.iconst 1, 1) := by decide +kernel
theorem dX9_stand_22 : decode cX9_stand 22 = .ok (.ireturn, 1) := by decide +kernel
theorem dX9_beat_0 : decode cX9_beat 0 = .ok (.aload_n 0, 1) := by decide +kernel
theorem dX9_beat_1 : decode cX9_beat 1 = .ok (.getfield 75, 3) := by decide +kernel
theorem dX9_beat_4 : decode cX9_beat 4 = .ok (.invokevirtual 241, 3) := by decide +kernel
theorem dX9_beat_7 : decode cX9_beat 7 = .ok (.istore_n 3, 1) := by decide +kernel
theorem dX9_beat_8 : decode cX9_beat 8 = .ok (.iload_n 3, 1) := by decide +kernel
theorem dX9_beat_9 : decode cX9_beat 9 = .ok (.ifCond .lt 27, 3) := by decide +kernel
theorem dX9_beat_12 : decode cX9_beat 12 = .ok (.aload_n 0, 1) := by decide +kernel
theorem dX9_beat_13 : decode cX9_beat 13 = .ok (.getfield 31, 3) := by decide +kernel
theorem dX9_beat_16 : decode cX9_beat 16 = .ok (.iload_n 3, 1) := by decide +kernel
theorem dX9_beat_17 : decode cX9_beat 17 = .ok (.invokevirtual 244, 3) := by decide +kernel
theorem dX9_beat_20 : decode cX9_beat 20 = .ok (.ifCond .ne 16, 3) := by decide +kernel
theorem dX9_beat_23 : decode cX9_beat 23 = .ok (.aload_n 0, 1) := by decide +kernel
theorem dX9_beat_24 : decode cX9_beat 24 = .ok (.getfield 75, 3) := by decide +kernel
theorem dX9_beat_27 : decode cX9_beat 27 = .ok (.getfield 247, 3) := by decide +kernel
theorem dX9_beat_30 : decode cX9_beat 30 = .ok (.sipush 200, 3) := by decide +kernel
theorem dX9_beat_33 : decode cX9_beat 33 = .ok (.if_icmp .lt 13, 3) := by decide +kernel
theorem dX9_beat_36 : decode cX9_beat 36 = .ok (.new 250, 3) := by decide +kernel
theorem dX9_beat_39 : decode cX9_beat 39 = .ok (.dup, 1) := by decide +kernel
theorem dX9_beat_40 : decode cX9_beat 40 = .ok (.ldc 252, 2) := by decide +kernel
theorem dX9_beat_42 : decode cX9_beat 42 = .ok (.invokespecial 254, 3) := by decide +kernel
theorem dX9_beat_45 : decode cX9_beat 45 = .ok (.athrow, 1) := by decide +kernel
theorem dX9_beat_46 : decode cX9_beat 46 = .ok (.aload_n 0, 1) := by decide +kernel
theorem dX9_beat_47 : decode cX9_beat 47 = .ok (.getfield 31, 3) := by decide +kernel
theorem dX9_beat_50 : decode cX9_beat 50 = .ok (.iload_n 1, 1) := by decide +kernel
theorem dX9_beat_51 : decode cX9_beat 51 = .ok (.invokevirtual 126, 3) := by decide +kernel
theorem dX9_beat_54 : decode cX9_beat 54 = .ok (.ifCond .eq 15, 3) := by decide +kernel
theorem dX9_beat_57 : decode cX9_beat 57 = .ok (.aload_n 0, 1) := by decide +kernel
theorem dX9_beat_58 : decode cX9_beat 58 = .ok (.getfield 45, 3) := by decide +kernel
theorem dX9_beat_61 : decode cX9_beat 61 = .ok (.iload_n 3, 1) := by decide +kernel
theorem dX9_beat_62 : decode cX9_beat 62 = .ok (.iload_n 1, 1) := by decide +kernel
theorem dX9_beat_63 : decode cX9_beat 63 = .ok (.invokevirtual 129, 3) := by decide +kernel
theorem dX9_beat_66 : decode cX9_beat 66 = .ok (.ifCond .ne 14, 3) := by decide +kernel
theorem dX9_beat_69 : decode cX9_beat 69 = .ok (.new 257, 3) := by decide +kernel
theorem dX9_beat_72 : decode cX9_beat 72 = .ok (.dup, 1) := by decide +kernel
theorem dX9_beat_73 : decode cX9_beat 73 = .ok (.ldc_w 259, 3) := by decide +kernel
theorem dX9_beat_76 : decode cX9_beat 76 = .ok (.invokespecial 261, 3) := by decide +kernel
theorem dX9_beat_79 : decode cX9_beat 79 = .ok (.athrow, 1) := by decide +kernel
theorem dX9_beat_80 : decode cX9_beat 80 = .ok (.iload_n 2, 1) := by decide +kernel
theorem dX9_beat_81 : decode cX9_beat 81 = .ok (.aload_n 0, 1) := by decide +kernel
theorem dX9_beat_82 : decode cX9_beat 82 = .ok (.getfield 45, 3) := by decide +kernel
theorem dX9_beat_85 : decode cX9_beat 85 = .ok (.iload_n 3, 1) := by decide +kernel
theorem dX9_beat_86 : decode cX9_beat 86 = .ok (.invokevirtual 137, 3) := by decide +kernel
theorem dX9_beat_89 : decode cX9_beat 89 = .ok (.if_icmp .lt 15, 3) := by decide +kernel
theorem dX9_beat_92 : decode cX9_beat 92 = .ok (.iload_n 2, 1) := by decide +kernel
theorem dX9_beat_93 : decode cX9_beat 93 = .ok (.aload_n 0, 1) := by decide +kernel
theorem dX9_beat_94 : decode cX9_beat 94 = .ok (.getfield 45, 3) := by decide +kernel
theorem dX9_beat_97 : decode cX9_beat 97 = .ok (.iload_n 3, 1) := by decide +kernel
theorem dX9_beat_98 : decode cX9_beat 98 = .ok (.invokevirtual 133, 3) := by decide +kernel
theorem dX9_beat_101 : decode cX9_beat 101 = .ok (.if_icmp .le 14, 3) := by decide +kernel
theorem dX9_beat_104 : decode cX9_beat 104 = .ok (.new 257, 3) := by decide +kernel
theorem dX9_beat_107 : decode cX9_beat 107 = .ok (.dup, 1) := by decide +kernel
theorem dX9_beat_108 : decode cX9_beat 108 = .ok (.ldc_w 262, 3) := by decide +kernel
theorem dX9_beat_111 : decode cX9_beat 111 = .ok (.invokespecial 261, 3) := by decide +kernel
theorem dX9_beat_114 : decode cX9_beat 114 = .ok (.athrow, 1) := by decide +kernel
theorem dX9_beat_115 : decode cX9_beat 115 = .ok (.aload_n 0, 1) := by decide +kernel
theorem dX9_beat_116 : decode cX9_beat 116 = .ok (.getfield 45, 3) := by decide +kernel
theorem dX9_beat_119 : decode cX9_beat 119 = .ok (.iload_n 3, 1) := by decide +kernel
theorem dX9_beat_120 : decode cX9_beat 120 = .ok (.iload_n 1, 1) := by decide +kernel
theorem dX9_beat_121 : decode cX9_beat 121 = .ok (.iload_n 2, 1) := by decide +kernel
theorem dX9_beat_122 : decode cX9_beat 122 = .ok (.invokevirtual 143, 3) := by decide +kernel
theorem dX9_beat_125 : decode cX9_beat 125 = .ok (.istore 4, 2) := by decide +kernel
theorem dX9_beat_127 : decode cX9_beat 127 = .ok (.aload_n 0, 1) := by decide +kernel
theorem dX9_beat_128 : decode cX9_beat 128 = .ok (.getfield 75, 3) := by decide +kernel
theorem dX9_beat_131 : decode cX9_beat 131 = .ok (.iload_n 1, 1) := by decide +kernel
theorem dX9_beat_132 : decode cX9_beat 132 = .ok (.iload_n 2, 1) := by decide +kernel
theorem dX9_beat_133 : decode cX9_beat 133 = .ok (.iload 4, 2) := by decide +kernel
theorem dX9_beat_135 : decode cX9_beat 135 = .ok (.invokevirtual 264, 3) := by decide +kernel
theorem dX9_beat_138 : decode cX9_beat 138 = .ok (.iload 4, 2) := by decide +kernel
theorem dX9_beat_140 : decode cX9_beat 140 = .ok (.ireturn, 1) := by decide +kernel
theorem dX9_undo_0 : decode cX9_undo 0 = .ok (.aload_n 0, 1) := by decide +kernel
theorem dX9_undo_1 : decode cX9_undo 1 = .ok (.getfield 75, 3) := by decide +kernel
theorem dX9_undo_4 : decode cX9_undo 4 = .ok (.invokevirtual 268, 3) := by decide +kernel
theorem dX9_undo_7 : decode cX9_undo 7 = .ok (.ireturn, 1) := by decide +kernel
theorem dX9_walked_0 : decode cX9_walked 0 = .ok (.aload_n 0, 1) := by decide +kernel
theorem dX9_walked_1 : decode cX9_walked 1 = .ok (.getfield 75, 3) := by decide +kernel
theorem dX9_walked_4 : decode cX9_walked 4 = .ok (.iload_n 1, 1) := by decide +kernel
theorem dX9_walked_5 : decode cX9_walked 5 = .ok (.iload_n 2, 1) := by decide +kernel
theorem dX9_walked_6 : decode cX9_walked 6 = .ok (.invokevirtual 272, 3) := by decide +kernel
theorem dX9_walked_9 : decode cX9_walked 9 = .ok (.ireturn, 1) := by decide +kernel
theorem dX9_blame_0 : decode cX9_blame 0 = .ok (.aload_n 0, 1) := by decide +kernel
theorem dX9_blame_1 : decode cX9_blame 1 = .ok (.getfield 75, 3) := by decide +kernel
theorem dX9_blame_4 : decode cX9_blame 4 = .ok (.getfield 247, 3) := by decide +kernel
theorem dX9_blame_7 : decode cX9_blame 7 = .ok (.ifCond .ge 5, 3) := by decide +kernel
theorem dX9_blame_10 : decode cX9_blame 10 = .ok (.iconst (-1), 1) := by decide +kernel
theorem dX9_blame_11 : decode cX9_blame 11 = .ok (.ireturn, 1) := by decide +kernel
theorem dX9_blame_12 : decode cX9_blame 12 = .ok (.aload_n 0, 1) := by decide +kernel
theorem dX9_blame_13 : decode cX9_blame 13 = .ok (.getfield 54, 3) := by decide +kernel
theorem dX9_blame_16 : decode cX9_blame 16 = .ok (.invokevirtual 146, 3) := by decide +kernel
theorem dX9_blame_19 : decode cX9_blame 19 = .ok (.iconst 0, 1) := by decide +kernel
theorem dX9_blame_20 : decode cX9_blame 20 = .ok (.istore_n 1, 1) := by decide +kernel
theorem dX9_blame_21 : decode cX9_blame 21 = .ok (.iload_n 1, 1) := by decide +kernel
theorem dX9_blame_22 : decode cX9_blame 22 = .ok (.aload_n 0, 1) := by decide +kernel
theorem dX9_blame_23 : decode cX9_blame 23 = .ok (.getfield 75, 3) := by decide +kernel
theorem dX9_blame_26 : decode cX9_blame 26 = .ok (.getfield 247, 3) := by decide +kernel
theorem dX9_blame_29 : decode cX9_blame 29 = .ok (.if_icmp .ge 52, 3) := by decide +kernel
theorem dX9_blame_32 : decode cX9_blame 32 = .ok (.aload_n 0, 1) := by decide +kernel
theorem dX9_blame_33 : decode cX9_blame 33 = .ok (.getfield 75, 3) := by decide +kernel
theorem dX9_blame_36 : decode cX9_blame 36 = .ok (.iload_n 1, 1) := by decide +kernel
theorem dX9_blame_37 : decode cX9_blame 37 = .ok (.iconst 0, 1) := by decide +kernel
theorem dX9_blame_38 : decode cX9_blame 38 = .ok (.invokevirtual 272, 3) := by decide +kernel
theorem dX9_blame_41 : decode cX9_blame 41 = .ok (.istore_n 2, 1) := by decide +kernel
theorem dX9_blame_42 : decode cX9_blame 42 = .ok (.aload_n 0, 1) := by decide +kernel
theorem dX9_blame_43 : decode cX9_blame 43 = .ok (.getfield 54, 3) := by decide +kernel
theorem dX9_blame_46 : decode cX9_blame 46 = .ok (.iload_n 2, 1) := by decide +kernel
theorem dX9_blame_47 : decode cX9_blame 47 = .ok (.invokevirtual 176, 3) := by decide +kernel
theorem dX9_blame_50 : decode cX9_blame 50 = .ok (.ifCond .eq 25, 3) := by decide +kernel
theorem dX9_blame_53 : decode cX9_blame 53 = .ok (.aload_n 0, 1) := by decide +kernel
theorem dX9_blame_54 : decode cX9_blame 54 = .ok (.getfield 54, 3) := by decide +kernel
theorem dX9_blame_57 : decode cX9_blame 57 = .ok (.iload_n 2, 1) := by decide +kernel
theorem dX9_blame_58 : decode cX9_blame 58 = .ok (.aload_n 0, 1) := by decide +kernel
theorem dX9_blame_59 : decode cX9_blame 59 = .ok (.getfield 75, 3) := by decide +kernel
theorem dX9_blame_62 : decode cX9_blame 62 = .ok (.iload_n 1, 1) := by decide +kernel
theorem dX9_blame_63 : decode cX9_blame 63 = .ok (.iconst 1, 1) := by decide +kernel
theorem dX9_blame_64 : decode cX9_blame 64 = .ok (.invokevirtual 272, 3) := by decide +kernel
theorem dX9_blame_67 : decode cX9_blame 67 = .ok (.invokevirtual 275, 3) := by decide +kernel
theorem dX9_blame_70 : decode cX9_blame 70 = .ok (.ifCond .ne 5, 3) := by decide +kernel
theorem dX9_blame_73 : decode cX9_blame 73 = .ok (.iload_n 1, 1) := by decide +kernel
theorem dX9_blame_74 : decode cX9_blame 74 = .ok (.ireturn, 1) := by decide +kernel
theorem dX9_blame_75 : decode cX9_blame 75 = .ok (.iinc 1 1, 3) := by decide +kernel
theorem dX9_blame_78 : decode cX9_blame 78 = .ok (.goto (-57), 3) := by decide +kernel
theorem dX9_blame_81 : decode cX9_blame 81 = .ok (.bipush (-2), 2) := by decide +kernel
theorem dX9_blame_83 : decode cX9_blame 83 = .ok (.ireturn, 1) := by decide +kernel
theorem dX9_drill_0 : decode cX9_drill 0 = .ok (.aload_n 0, 1) := by decide +kernel
theorem dX9_drill_1 : decode cX9_drill 1 = .ok (.getfield 31, 3) := by decide +kernel
theorem dX9_drill_4 : decode cX9_drill 4 = .ok (.iload_n 1, 1) := by decide +kernel
theorem dX9_drill_5 : decode cX9_drill 5 = .ok (.invokevirtual 122, 3) := by decide +kernel
theorem dX9_drill_8 : decode cX9_drill 8 = .ok (.ifCond .eq 37, 3) := by decide +kernel
theorem dX9_drill_11 : decode cX9_drill 11 = .ok (.iload_n 3, 1) := by decide +kernel
theorem dX9_drill_12 : decode cX9_drill 12 = .ok (.iconst 1, 1) := by decide +kernel
theorem dX9_drill_13 : decode cX9_drill 13 = .ok (.if_icmp .lt 32, 3) := by decide +kernel
theorem dX9_drill_16 : decode cX9_drill 16 = .ok (.iload_n 3, 1) := by decide +kernel
theorem dX9_drill_17 : decode cX9_drill 17 = .ok (.bipush 100, 2) := by decide +kernel
theorem dX9_drill_19 : decode cX9_drill 19 = .ok (.if_icmp .gt 26, 3) := by decide +kernel
theorem dX9_drill_22 : decode cX9_drill 22 = .ok (.iload 4, 2) := by decide +kernel
theorem dX9_drill_24 : decode cX9_drill 24 = .ok (.ifCond .lt 21, 3) := by decide +kernel
theorem dX9_drill_27 : decode cX9_drill 27 = .ok (.iload 4, 2) := by decide +kernel
theorem dX9_drill_29 : decode cX9_drill 29 = .ok (.bipush 60, 2) := by decide +kernel
theorem dX9_drill_31 : decode cX9_drill 31 = .ok (.if_icmp .gt 14, 3) := by decide +kernel
theorem dX9_drill_34 : decode cX9_drill 34 = .ok (.iload 5, 2) := by decide +kernel
theorem dX9_drill_36 : decode cX9_drill 36 = .ok (.ifCond .lt 9, 3) := by decide +kernel
theorem dX9_drill_39 : decode cX9_drill 39 = .ok (.iload 5, 2) := by decide +kernel
theorem dX9_drill_41 : decode cX9_drill 41 = .ok (.iconst 1, 1) := by decide +kernel
theorem dX9_drill_42 : decode cX9_drill 42 = .ok (.if_icmp .le 5, 3) := by decide +kernel
theorem dX9_drill_45 : decode cX9_drill 45 = .ok (.iconst (-1), 1) := by decide +kernel
theorem dX9_drill_46 : decode cX9_drill 46 = .ok (.ireturn, 1) := by decide +kernel
theorem dX9_drill_47 : decode cX9_drill 47 = .ok (.iconst 0, 1) := by decide +kernel
theorem dX9_drill_48 : decode cX9_drill 48 = .ok (.istore 6, 2) := by decide +kernel
theorem dX9_drill_50 : decode cX9_drill 50 = .ok (.iconst 0, 1) := by decide +kernel
theorem dX9_drill_51 : decode cX9_drill 51 = .ok (.istore 7, 2) := by decide +kernel
theorem dX9_drill_53 : decode cX9_drill 53 = .ok (.iload 7, 2) := by decide +kernel
theorem dX9_drill_55 : decode cX9_drill 55 = .ok (.iload_n 3, 1) := by decide +kernel
theorem dX9_drill_56 : decode cX9_drill 56 = .ok (.if_icmp .ge 60, 3) := by decide +kernel
theorem dX9_drill_59 : decode cX9_drill 59 = .ok (.aload_n 0, 1) := by decide +kernel
theorem dX9_drill_60 : decode cX9_drill 60 = .ok (.getfield 61, 3) := by decide +kernel
theorem dX9_drill_63 : decode cX9_drill 63 = .ok (.iload_n 1, 1) := by decide +kernel
theorem dX9_drill_64 : decode cX9_drill 64 = .ok (.iload_n 2, 1) := by decide +kernel
theorem dX9_drill_65 : decode cX9_drill 65 = .ok (.iload 7, 2) := by decide +kernel
theorem dX9_drill_67 : decode cX9_drill 67 = .ok (.iadd, 1) := by decide +kernel
theorem dX9_drill_68 : decode cX9_drill 68 = .ok (.iload 4, 2) := by decide +kernel
theorem dX9_drill_70 : decode cX9_drill 70 = .ok (.invokevirtual 278, 3) := by decide +kernel
theorem dX9_drill_73 : decode cX9_drill 73 = .ok (.istore 8, 2) := by decide +kernel
theorem dX9_drill_75 : decode cX9_drill 75 = .ok (.iload 5, 2) := by decide +kernel
theorem dX9_drill_77 : decode cX9_drill 77 = .ok (.ifCond .ne 13, 3) := by decide +kernel
theorem dX9_drill_80 : decode cX9_drill 80 = .ok (.iload 8, 2) := by decide +kernel
theorem dX9_drill_82 : decode cX9_drill 82 = .ok (.bipush (-2), 2) := by decide +kernel
theorem dX9_drill_84 : decode cX9_drill 84 = .ok (.if_icmp .ne 26, 3) := by decide +kernel
theorem dX9_drill_87 : decode cX9_drill 87 = .ok (.goto 20, 3) := by decide +kernel
theorem dX9_drill_90 : decode cX9_drill 90 = .ok (.iload 8, 2) := by decide +kernel
theorem dX9_drill_92 : decode cX9_drill 92 = .ok (.ifCond .lt 18, 3) := by decide +kernel
theorem dX9_drill_95 : decode cX9_drill 95 = .ok (.aload_n 0, 1) := by decide +kernel
theorem dX9_drill_96 : decode cX9_drill 96 = .ok (.getfield 31, 3) := by decide +kernel
theorem dX9_drill_99 : decode cX9_drill 99 = .ok (.iload 8, 2) := by decide +kernel
theorem dX9_drill_101 : decode cX9_drill 101 = .ok (.invokevirtual 244, 3) := by decide +kernel
theorem dX9_drill_104 : decode cX9_drill 104 = .ok (.ifCond .eq 6, 3) := by decide +kernel
theorem dX9_drill_107 : decode cX9_drill 107 = .ok (.iinc 6 1, 3) := by decide +kernel
theorem dX9_drill_110 : decode cX9_drill 110 = .ok (.iinc 7 1, 3) := by decide +kernel
theorem dX9_drill_113 : decode cX9_drill 113 = .ok (.goto (-60), 3) := by decide +kernel
theorem dX9_drill_116 : decode cX9_drill 116 = .ok (.iload 6, 2) := by decide +kernel
theorem dX9_drill_118 : decode cX9_drill 118 = .ok (.ireturn, 1) := by decide +kernel
theorem dX9_hold_0 : decode cX9_hold 0 = .ok (.iload_n 1, 1) := by decide +kernel
theorem dX9_hold_1 : decode cX9_hold 1 = .ok (.ifCond .lt 8, 3) := by decide +kernel
theorem dX9_hold_4 : decode cX9_hold 4 = .ok (.iload_n 1, 1) := by decide +kernel
theorem dX9_hold_5 : decode cX9_hold 5 = .ok (.iconst 3, 1) := by decide +kernel
theorem dX9_hold_6 : decode cX9_hold 6 = .ok (.if_icmp .lt 5, 3) := by decide +kernel
theorem dX9_hold_9 : decode cX9_hold 9 = .ok (.iconst (-1), 1) := by decide +kernel
theorem dX9_hold_10 : decode cX9_hold 10 = .ok (.ireturn, 1) := by decide +kernel
theorem dX9_hold_11 : decode cX9_hold 11 = .ok (.aload_n 0, 1) := by decide +kernel
theorem dX9_hold_12 : decode cX9_hold 12 = .ok (.getfield 54, 3) := by decide +kernel
theorem dX9_hold_15 : decode cX9_hold 15 = .ok (.invokevirtual 146, 3) := by decide +kernel
theorem dX9_hold_18 : decode cX9_hold 18 = .ok (.iconst 0, 1) := by decide +kernel
theorem dX9_hold_19 : decode cX9_hold 19 = .ok (.istore_n 2, 1) := by decide +kernel
theorem dX9_hold_20 : decode cX9_hold 20 = .ok (.iconst 0, 1) := by decide +kernel
theorem dX9_hold_21 : decode cX9_hold 21 = .ok (.istore_n 3, 1) := by decide +kernel
theorem dX9_hold_22 : decode cX9_hold 22 = .ok (.iload_n 3, 1) := by decide +kernel
theorem dX9_hold_23 : decode cX9_hold 23 = .ok (.sipush 2079, 3) := by decide +kernel
theorem dX9_hold_26 : decode cX9_hold 26 = .ok (.if_icmp .ge 55, 3) := by decide +kernel
theorem dX9_hold_29 : decode cX9_hold 29 = .ok (.aload_n 0, 1) := by decide +kernel
theorem dX9_hold_30 : decode cX9_hold 30 = .ok (.getfield 54, 3) := by decide +kernel
theorem dX9_hold_33 : decode cX9_hold 33 = .ok (.iload_n 3, 1) := by decide +kernel
theorem dX9_hold_34 : decode cX9_hold 34 = .ok (.invokevirtual 176, 3) := by decide +kernel
theorem dX9_hold_37 : decode cX9_hold 37 = .ok (.ifCond .eq 7, 3) := by decide +kernel
theorem dX9_hold_40 : decode cX9_hold 40 = .ok (.iconst 1, 1) := by decide +kernel
theorem dX9_hold_41 : decode cX9_hold 41 = .ok (.goto 4, 3) := by decide +kernel
theorem dX9_hold_44 : decode cX9_hold 44 = .ok (.iconst 0, 1) := by decide +kernel
theorem dX9_hold_45 : decode cX9_hold 45 = .ok (.istore 4, 2) := by decide +kernel
theorem dX9_hold_47 : decode cX9_hold 47 = .ok (.aload_n 0, 1) := by decide +kernel
theorem dX9_hold_48 : decode cX9_hold 48 = .ok (.getfield 13, 3) := by decide +kernel
theorem dX9_hold_51 : decode cX9_hold 51 = .ok (.iload_n 3, 1) := by decide +kernel
theorem dX9_hold_52 : decode cX9_hold 52 = .ok (.aload_n 0, 1) := by decide +kernel
theorem dX9_hold_53 : decode cX9_hold 53 = .ok (.getfield 13, 3) := by decide +kernel
theorem dX9_hold_56 : decode cX9_hold 56 = .ok (.iload_n 3, 1) := by decide +kernel
theorem dX9_hold_57 : decode cX9_hold 57 = .ok (.iaload, 1) := by decide +kernel
theorem dX9_hold_58 : decode cX9_hold 58 = .ok (.iconst 1, 1) := by decide +kernel
theorem dX9_hold_59 : decode cX9_hold 59 = .ok (.iload_n 1, 1) := by decide +kernel
theorem dX9_hold_60 : decode cX9_hold 60 = .ok (.ishl, 1) := by decide +kernel
theorem dX9_hold_61 : decode cX9_hold 61 = .ok (.iconst (-1), 1) := by decide +kernel
theorem dX9_hold_62 : decode cX9_hold 62 = .ok (.ixor, 1) := by decide +kernel
theorem dX9_hold_63 : decode cX9_hold 63 = .ok (.iand, 1) := by decide +kernel
theorem dX9_hold_64 : decode cX9_hold 64 = .ok (.iload 4, 2) := by decide +kernel
theorem dX9_hold_66 : decode cX9_hold 66 = .ok (.iload_n 1, 1) := by decide +kernel
theorem dX9_hold_67 : decode cX9_hold 67 = .ok (.ishl, 1) := by decide +kernel
theorem dX9_hold_68 : decode cX9_hold 68 = .ok (.ior, 1) := by decide +kernel
theorem dX9_hold_69 : decode cX9_hold 69 = .ok (.iastore, 1) := by decide +kernel
theorem dX9_hold_70 : decode cX9_hold 70 = .ok (.iload_n 2, 1) := by decide +kernel
theorem dX9_hold_71 : decode cX9_hold 71 = .ok (.iload 4, 2) := by decide +kernel
theorem dX9_hold_73 : decode cX9_hold 73 = .ok (.iadd, 1) := by decide +kernel
theorem dX9_hold_74 : decode cX9_hold 74 = .ok (.istore_n 2, 1) := by decide +kernel
theorem dX9_hold_75 : decode cX9_hold 75 = .ok (.iinc 3 1, 3) := by decide +kernel
theorem dX9_hold_78 : decode cX9_hold 78 = .ok (.goto (-56), 3) := by decide +kernel
theorem dX9_hold_81 : decode cX9_hold 81 = .ok (.iload_n 2, 1) := by decide +kernel
theorem dX9_hold_82 : decode cX9_hold 82 = .ok (.ireturn, 1) := by decide +kernel
theorem dX9_compare_0 : decode cX9_compare 0 = .ok (.iload_n 1, 1) := by decide +kernel
theorem dX9_compare_1 : decode cX9_compare 1 = .ok (.ifCond .lt 17, 3) := by decide +kernel
theorem dX9_compare_4 : decode cX9_compare 4 = .ok (.iload_n 1, 1) := by decide +kernel
theorem dX9_compare_5 : decode cX9_compare 5 = .ok (.iconst 3, 1) := by decide +kernel
theorem dX9_compare_6 : decode cX9_compare 6 = .ok (.if_icmp .ge 12, 3) := by decide +kernel
theorem dX9_compare_9 : decode cX9_compare 9 = .ok (.iload_n 2, 1) := by decide +kernel
theorem dX9_compare_10 : decode cX9_compare 10 = .ok (.ifCond .lt 8, 3) := by decide +kernel
theorem dX9_compare_13 : decode cX9_compare 13 = .ok (.iload_n 2, 1) := by decide +kernel
theorem dX9_compare_14 : decode cX9_compare 14 = .ok (.iconst 2, 1) := by decide +kernel
theorem dX9_compare_15 : decode cX9_compare 15 = .ok (.if_icmp .le 5, 3) := by decide +kernel
theorem dX9_compare_18 : decode cX9_compare 18 = .ok (.iconst (-1), 1) := by decide +kernel
theorem dX9_compare_19 : decode cX9_compare 19 = .ok (.ireturn, 1) := by decide +kernel
theorem dX9_compare_20 : decode cX9_compare 20 = .ok (.aload_n 0, 1) := by decide +kernel
theorem dX9_compare_21 : decode cX9_compare 21 = .ok (.getfield 54, 3) := by decide +kernel
theorem dX9_compare_24 : decode cX9_compare 24 = .ok (.invokevirtual 146, 3) := by decide +kernel
theorem dX9_compare_27 : decode cX9_compare 27 = .ok (.iconst 0, 1) := by decide +kernel
theorem dX9_compare_28 : decode cX9_compare 28 = .ok (.istore_n 3, 1) := by decide +kernel
theorem dX9_compare_29 : decode cX9_compare 29 = .ok (.iconst 0, 1) := by decide +kernel
theorem dX9_compare_30 : decode cX9_compare 30 = .ok (.istore 4, 2) := by decide +kernel
theorem dX9_compare_32 : decode cX9_compare 32 = .ok (.iload 4, 2) := by decide +kernel
theorem dX9_compare_34 : decode cX9_compare 34 = .ok (.sipush 2079, 3) := by decide +kernel
theorem dX9_compare_37 : decode cX9_compare 37 = .ok (.if_icmp .ge 75, 3) := by decide +kernel
theorem dX9_compare_40 : decode cX9_compare 40 = .ok (.aload_n 0, 1) := by decide +kernel
theorem dX9_compare_41 : decode cX9_compare 41 = .ok (.getfield 54, 3) := by decide +kernel
theorem dX9_compare_44 : decode cX9_compare 44 = .ok (.iload 4, 2) := by decide +kernel
theorem dX9_compare_46 : decode cX9_compare 46 = .ok (.invokevirtual 176, 3) := by decide +kernel
theorem dX9_compare_49 : decode cX9_compare 49 = .ok (.istore 5, 2) := by decide +kernel
theorem dX9_compare_51 : decode cX9_compare 51 = .ok (.aload_n 0, 1) := by decide +kernel
theorem dX9_compare_52 : decode cX9_compare 52 = .ok (.getfield 13, 3) := by decide +kernel
theorem dX9_compare_55 : decode cX9_compare 55 = .ok (.iload 4, 2) := by decide +kernel
theorem dX9_compare_57 : decode cX9_compare 57 = .ok (.iaload, 1) := by decide +kernel
theorem dX9_compare_58 : decode cX9_compare 58 = .ok (.iload_n 1, 1) := by decide +kernel
theorem dX9_compare_59 : decode cX9_compare 59 = .ok (.ishr, 1) := by decide +kernel
theorem dX9_compare_60 : decode cX9_compare 60 = .ok (.iconst 1, 1) := by decide +kernel
theorem dX9_compare_61 : decode cX9_compare 61 = .ok (.iand, 1) := by decide +kernel
theorem dX9_compare_62 : decode cX9_compare 62 = .ok (.iconst 1, 1) := by decide +kernel
theorem dX9_compare_63 : decode cX9_compare 63 = .ok (.if_icmp .ne 7, 3) := by decide +kernel
theorem dX9_compare_66 : decode cX9_compare 66 = .ok (.iconst 1, 1) := by decide +kernel
theorem dX9_compare_67 : decode cX9_compare 67 = .ok (.goto 4, 3) := by decide +kernel
theorem dX9_compare_70 : decode cX9_compare 70 = .ok (.iconst 0, 1) := by decide +kernel
theorem dX9_compare_71 : decode cX9_compare 71 = .ok (.istore 6, 2) := by decide +kernel
theorem dX9_compare_73 : decode cX9_compare 73 = .ok (.iload 5, 2) := by decide +kernel
theorem dX9_compare_75 : decode cX9_compare 75 = .ok (.iload_n 2, 1) := by decide +kernel
theorem dX9_compare_76 : decode cX9_compare 76 = .ok (.iconst 2, 1) := by decide +kernel
theorem dX9_compare_77 : decode cX9_compare 77 = .ok (.if_icmp .eq 7, 3) := by decide +kernel
theorem dX9_compare_80 : decode cX9_compare 80 = .ok (.iconst 1, 1) := by decide +kernel
theorem dX9_compare_81 : decode cX9_compare 81 = .ok (.goto 4, 3) := by decide +kernel
theorem dX9_compare_84 : decode cX9_compare 84 = .ok (.iconst 0, 1) := by decide +kernel
theorem dX9_compare_85 : decode cX9_compare 85 = .ok (.if_icmp .ne 21, 3) := by decide +kernel
theorem dX9_compare_88 : decode cX9_compare 88 = .ok (.iload 6, 2) := by decide +kernel
theorem dX9_compare_90 : decode cX9_compare 90 = .ok (.iload_n 2, 1) := by decide +kernel
theorem dX9_compare_91 : decode cX9_compare 91 = .ok (.iconst 1, 1) := by decide +kernel
theorem dX9_compare_92 : decode cX9_compare 92 = .ok (.if_icmp .eq 7, 3) := by decide +kernel
theorem dX9_compare_95 : decode cX9_compare 95 = .ok (.iconst 1, 1) := by decide +kernel
theorem dX9_compare_96 : decode cX9_compare 96 = .ok (.goto 4, 3) := by decide +kernel
theorem dX9_compare_99 : decode cX9_compare 99 = .ok (.iconst 0, 1) := by decide +kernel
theorem dX9_compare_100 : decode cX9_compare 100 = .ok (.if_icmp .ne 6, 3) := by decide +kernel
theorem dX9_compare_103 : decode cX9_compare 103 = .ok (.iinc 3 1, 3) := by decide +kernel
theorem dX9_compare_106 : decode cX9_compare 106 = .ok (.iinc 4 1, 3) := by decide +kernel
theorem dX9_compare_109 : decode cX9_compare 109 = .ok (.goto (-77), 3) := by decide +kernel
theorem dX9_compare_112 : decode cX9_compare 112 = .ok (.iload_n 3, 1) := by decide +kernel
theorem dX9_compare_113 : decode cX9_compare 113 = .ok (.ireturn, 1) := by decide +kernel
theorem dX9_count_0 : decode cX9_count 0 = .ok (.iload_n 1, 1) := by decide +kernel
theorem dX9_count_1 : decode cX9_count 1 = .ok (.tableswitch 214 0 13 #[71, 79, 87, 95, 103, 111, 119, 124, 132, 140, 148, 153, 187, 206], 71) := by decide +kernel
theorem dX9_count_72 : decode cX9_count 72 = .ok (.aload_n 0, 1) := by decide +kernel
theorem dX9_count_73 : decode cX9_count 73 = .ok (.getfield 31, 3) := by decide +kernel
theorem dX9_count_76 : decode cX9_count 76 = .ok (.getfield 166, 3) := by decide +kernel
theorem dX9_count_79 : decode cX9_count 79 = .ok (.ireturn, 1) := by decide +kernel
theorem dX9_count_80 : decode cX9_count 80 = .ok (.aload_n 0, 1) := by decide +kernel
theorem dX9_count_81 : decode cX9_count 81 = .ok (.getfield 31, 3) := by decide +kernel
theorem dX9_count_84 : decode cX9_count 84 = .ok (.getfield 173, 3) := by decide +kernel
theorem dX9_count_87 : decode cX9_count 87 = .ok (.ireturn, 1) := by decide +kernel
theorem dX9_count_88 : decode cX9_count 88 = .ok (.aload_n 0, 1) := by decide +kernel
theorem dX9_count_89 : decode cX9_count 89 = .ok (.getfield 31, 3) := by decide +kernel
theorem dX9_count_92 : decode cX9_count 92 = .ok (.getfield 281, 3) := by decide +kernel
theorem dX9_count_95 : decode cX9_count 95 = .ok (.ireturn, 1) := by decide +kernel
theorem dX9_count_96 : decode cX9_count 96 = .ok (.aload_n 0, 1) := by decide +kernel
theorem dX9_count_97 : decode cX9_count 97 = .ok (.getfield 31, 3) := by decide +kernel
theorem dX9_count_100 : decode cX9_count 100 = .ok (.getfield 284, 3) := by decide +kernel
theorem dX9_count_103 : decode cX9_count 103 = .ok (.ireturn, 1) := by decide +kernel
theorem dX9_count_104 : decode cX9_count 104 = .ok (.aload_n 0, 1) := by decide +kernel
theorem dX9_count_105 : decode cX9_count 105 = .ok (.getfield 31, 3) := by decide +kernel
theorem dX9_count_108 : decode cX9_count 108 = .ok (.getfield 287, 3) := by decide +kernel
theorem dX9_count_111 : decode cX9_count 111 = .ok (.ireturn, 1) := by decide +kernel
theorem dX9_count_112 : decode cX9_count 112 = .ok (.aload_n 0, 1) := by decide +kernel
theorem dX9_count_113 : decode cX9_count 113 = .ok (.getfield 31, 3) := by decide +kernel
theorem dX9_count_116 : decode cX9_count 116 = .ok (.getfield 290, 3) := by decide +kernel
theorem dX9_count_119 : decode cX9_count 119 = .ok (.ireturn, 1) := by decide +kernel
theorem dX9_count_120 : decode cX9_count 120 = .ok (.aload_n 0, 1) := by decide +kernel
theorem dX9_count_121 : decode cX9_count 121 = .ok (.getfield 28, 3) := by decide +kernel
theorem dX9_count_124 : decode cX9_count 124 = .ok (.ireturn, 1) := by decide +kernel
theorem dX9_count_125 : decode cX9_count 125 = .ok (.aload_n 0, 1) := by decide +kernel
theorem dX9_count_126 : decode cX9_count 126 = .ok (.getfield 68, 3) := by decide +kernel
theorem dX9_count_129 : decode cX9_count 129 = .ok (.getfield 292, 3) := by decide +kernel
theorem dX9_count_132 : decode cX9_count 132 = .ok (.ireturn, 1) := by decide +kernel
theorem dX9_count_133 : decode cX9_count 133 = .ok (.aload_n 0, 1) := by decide +kernel
theorem dX9_count_134 : decode cX9_count 134 = .ok (.getfield 61, 3) := by decide +kernel
theorem dX9_count_137 : decode cX9_count 137 = .ok (.getfield 232, 3) := by decide +kernel
theorem dX9_count_140 : decode cX9_count 140 = .ok (.ireturn, 1) := by decide +kernel
theorem dX9_count_141 : decode cX9_count 141 = .ok (.aload_n 0, 1) := by decide +kernel
theorem dX9_count_142 : decode cX9_count 142 = .ok (.getfield 75, 3) := by decide +kernel
theorem dX9_count_145 : decode cX9_count 145 = .ok (.getfield 247, 3) := by decide +kernel
theorem dX9_count_148 : decode cX9_count 148 = .ok (.ireturn, 1) := by decide +kernel
theorem dX9_count_149 : decode cX9_count 149 = .ok (.aload_n 0, 1) := by decide +kernel
