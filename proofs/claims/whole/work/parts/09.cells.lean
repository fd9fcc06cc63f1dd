def ropeCs (t : Nat) : List Nat := [0, 0, 0, 0, 0, 0, 0, 0, 0, t + 4, t + 5, t + 6, t + 7, t + 8, t + 9, t + 10, t + 11]
def Y1 : gY := [(0, 9, [4, 0, 0, 0, 2, 2, 24, 30, 40, 50, 60, 69, 5]), (1, 2000, []), (1, 2079, []), (0, 4, ropeCs 3), (1, 800, []), (2, 6, []), (1, 6, []), (1, 6, []), (1, 6, []), (1, 40, []), (1, 12, []), (1, 12, []), (0, 4, ropeCs 12), (1, 800, []), (2, 6, []), (1, 6, []), (1, 6, []), (1, 6, []), (1, 40, []), (1, 12, []), (1, 12, []), (0, 1, [0, 0, 0, 0, 0, 0, 2, 0, 25, 26]), (1, 401, []), (0, 7, [27, 28, 29, 2, 0, 0]), (1, 401, []), (1, 401, []), (2, 401, []), (0, 0, [2, 0, 0, 31, 34, 35, 36, 37, 38, 39]), (0, 2, [32, 33, 0]), (1, 64, []), (1, 8, []), (1, 2079, []), (1, 2079, []), (1, 2079, []), (1, 2079, []), (1, 2079, []), (2, 87318, []), (0, 5, [30, 41, 42, 43, 44, 45, 46, 47, 48, 49, 0, 0, 0, 0]), (1, 2079, []), (1, 2079, []), (1, 2079, []), (1, 2079, []), (1, 2079, []), (1, 2079, []), (1, 2079, []), (1, 2079, []), (1, 2079, []), (0, 3, [30, 51, 0, 52, 0, 0, 0, 0, 53, 54, 55, 56, 57, 58, 59]), (1, 40, []), (1, 2079, []), (1, 2079, []), (1, 2079, []), (1, 2079, []), (1, 2079, []), (1, 2079, []), (2, 2079, []), (2, 2079, []), (0, 6, [30, 0, 61, 0, 0, 62, 63, 64, 65, 66, 67, 68, 0]), (1, 24, []), (1, 24, []), (1, 2079, []), (1, 2079, []), (1, 4, []), (1, 10395, []), (1, 5, []), (1, 2079, []), (0, 8, [0, 70, 71, 72]), (1, 201, []), (1, 200, []), (1, 200, []), (1, 0, [])]
def Y2 : gY := [(0, 10, [0, 0, 4, 0, 5, 6, 7, 8, 0, 0, 0, 0, 0, 0, 0, 9, 10, 11, 12, 13, 14, 15, 16, 17, 18, 19, 20, 21, 22, 23, 24, 25, 26, 27, 28, 29, 30, 31, 32, 33, 34, 35, 36, 37, 38, 39, 40, 0, 0, 41, 0, 42, 43, 0, 0, 44, 45, 46, 47, 0, 0, 48, 0, 0, 0, 0, 0, 0, 0, 0, 0, 49, 0, 0, 0, 0, 0, 50, 51, 52, 53, 54, 55, 56, 57, 58, 59, 60, 61, 62, 63, 64, 65]), (1, 2000, []), (1, 2001, []), (1, 2001, []), (1, 2001, []), (2, 2001, []), (1, 2, []), (1, 2, []), (1, 2, []), (1, 4, []), (1, 4, []), (1, 2, []), (2, 12, []), (1, 12, []), (1, 12, []), (1, 12, []), (1, 12, []), (1, 2, []), (1, 16, []), (1, 16, []), (1, 16, []), (1, 16, []), (1, 16, []), (1, 16, []), (1, 2, []), (1, 24, []), (1, 24, []), (1, 24, []), (1, 2, []), (1, 1000, []), (1, 1000, []), (1, 2, []), (3, 400, []), (1, 400, []), (1, 400, []), (1, 400, []), (1, 400, []), (1, 400, []), (1, 24, []), (1, 40, []), (1, 40, []), (1, 201, []), (1, 200, []), (1, 200, []), (3, 6237, []), (1, 500, []), (1, 500, []), (1, 2079, []), (1, 2079, []), (3, 12474, []), (1, 311850, []), (1, 2079, []), (1, 2079, []), (1, 2079, []), (1, 2079, []), (3, 2079, []), (1, 2079, []), (1, 2079, []), (1, 2079, []), (3, 51975, []), (3, 51975, []), (3, 4158, []), (2, 12474, [])]
theorem y1_0 : Y1[0]? = some (0, 9, [4, 0, 0, 0, 2, 2, 24, 30, 40, 50, 60, 69, 5]) := rfl
theorem y1_1 : Y1[1]? = some (1, 2000, []) := rfl
theorem y1_2 : Y1[2]? = some (1, 2079, []) := rfl
theorem y1_4 : Y1[4]? = some (1, 800, []) := rfl
theorem y1_5 : Y1[5]? = some (2, 6, []) := rfl
theorem y1_6 : Y1[6]? = some (1, 6, []) := rfl
theorem y1_7 : Y1[7]? = some (1, 6, []) := rfl
theorem y1_8 : Y1[8]? = some (1, 6, []) := rfl
theorem y1_9 : Y1[9]? = some (1, 40, []) := rfl
theorem y1_10 : Y1[10]? = some (1, 12, []) := rfl
theorem y1_11 : Y1[11]? = some (1, 12, []) := rfl
theorem y1_13 : Y1[13]? = some (1, 800, []) := rfl
theorem y1_14 : Y1[14]? = some (2, 6, []) := rfl
theorem y1_15 : Y1[15]? = some (1, 6, []) := rfl
theorem y1_16 : Y1[16]? = some (1, 6, []) := rfl
theorem y1_17 : Y1[17]? = some (1, 6, []) := rfl
theorem y1_18 : Y1[18]? = some (1, 40, []) := rfl
theorem y1_19 : Y1[19]? = some (1, 12, []) := rfl
theorem y1_20 : Y1[20]? = some (1, 12, []) := rfl
theorem y1_21 : Y1[21]? = some (0, 1, [0, 0, 0, 0, 0, 0, 2, 0, 25, 26]) := rfl
theorem y1_22 : Y1[22]? = some (1, 401, []) := rfl
theorem y1_23 : Y1[23]? = some (0, 7, [27, 28, 29, 2, 0, 0]) := rfl
theorem y1_24 : Y1[24]? = some (1, 401, []) := rfl
theorem y1_25 : Y1[25]? = some (1, 401, []) := rfl
theorem y1_26 : Y1[26]? = some (2, 401, []) := rfl
theorem y1_27 : Y1[27]? = some (0, 0, [2, 0, 0, 31, 34, 35, 36, 37, 38, 39]) := rfl
theorem y1_28 : Y1[28]? = some (0, 2, [32, 33, 0]) := rfl
theorem y1_29 : Y1[29]? = some (1, 64, []) := rfl
theorem y1_30 : Y1[30]? = some (1, 8, []) := rfl
theorem y1_31 : Y1[31]? = some (1, 2079, []) := rfl
theorem y1_32 : Y1[32]? = some (1, 2079, []) := rfl
theorem y1_33 : Y1[33]? = some (1, 2079, []) := rfl
theorem y1_34 : Y1[34]? = some (1, 2079, []) := rfl
theorem y1_35 : Y1[35]? = some (1, 2079, []) := rfl
theorem y1_36 : Y1[36]? = some (2, 87318, []) := rfl
theorem y1_37 : Y1[37]? = some (0, 5, [30, 41, 42, 43, 44, 45, 46, 47, 48, 49, 0, 0, 0, 0]) := rfl
theorem y1_38 : Y1[38]? = some (1, 2079, []) := rfl
theorem y1_39 : Y1[39]? = some (1, 2079, []) := rfl
theorem y1_40 : Y1[40]? = some (1, 2079, []) := rfl
theorem y1_41 : Y1[41]? = some (1, 2079, []) := rfl
theorem y1_42 : Y1[42]? = some (1, 2079, []) := rfl
theorem y1_43 : Y1[43]? = some (1, 2079, []) := rfl
theorem y1_44 : Y1[44]? = some (1, 2079, []) := rfl
theorem y1_45 : Y1[45]? = some (1, 2079, []) := rfl
theorem y1_46 : Y1[46]? = some (1, 2079, []) := rfl
theorem y1_47 : Y1[47]? = some (0, 3, [30, 51, 0, 52, 0, 0, 0, 0, 53, 54, 55, 56, 57, 58, 59]) := rfl
theorem y1_48 : Y1[48]? = some (1, 40, []) := rfl
theorem y1_49 : Y1[49]? = some (1, 2079, []) := rfl
theorem y1_50 : Y1[50]? = some (1, 2079, []) := rfl
theorem y1_51 : Y1[51]? = some (1, 2079, []) := rfl
theorem y1_52 : Y1[52]? = some (1, 2079, []) := rfl
theorem y1_53 : Y1[53]? = some (1, 2079, []) := rfl
theorem y1_54 : Y1[54]? = some (1, 2079, []) := rfl
theorem y1_55 : Y1[55]? = some (2, 2079, []) := rfl
theorem y1_56 : Y1[56]? = some (2, 2079, []) := rfl
theorem y1_57 : Y1[57]? = some (0, 6, [30, 0, 61, 0, 0, 62, 63, 64, 65, 66, 67, 68, 0]) := rfl
theorem y1_58 : Y1[58]? = some (1, 24, []) := rfl
theorem y1_59 : Y1[59]? = some (1, 24, []) := rfl
theorem y1_60 : Y1[60]? = some (1, 2079, []) := rfl
theorem y1_61 : Y1[61]? = some (1, 2079, []) := rfl
theorem y1_62 : Y1[62]? = some (1, 4, []) := rfl
theorem y1_63 : Y1[63]? = some (1, 10395, []) := rfl
theorem y1_64 : Y1[64]? = some (1, 5, []) := rfl
theorem y1_65 : Y1[65]? = some (1, 2079, []) := rfl
theorem y1_66 : Y1[66]? = some (0, 8, [0, 70, 71, 72]) := rfl
theorem y1_67 : Y1[67]? = some (1, 201, []) := rfl
theorem y1_68 : Y1[68]? = some (1, 200, []) := rfl
theorem y1_69 : Y1[69]? = some (1, 200, []) := rfl
theorem y1_70 : Y1[70]? = some (1, 0, []) := rfl
theorem y2_0 : Y2[0]? = some (0, 10, [0, 0, 4, 0, 5, 6, 7, 8, 0, 0, 0, 0, 0, 0, 0, 9, 10, 11, 12, 13, 14, 15, 16, 17, 18, 19, 20, 21, 22, 23, 24, 25, 26, 27, 28, 29, 30, 31, 32, 33, 34, 35, 36, 37, 38, 39, 40, 0, 0, 41, 0, 42, 43, 0, 0, 44, 45, 46, 47, 0, 0, 48, 0, 0, 0, 0, 0, 0, 0, 0, 0, 49, 0, 0, 0, 0, 0, 50, 51, 52, 53, 54, 55, 56, 57, 58, 59, 60, 61, 62, 63, 64, 65]) := rfl
theorem y2_1 : Y2[1]? = some (1, 2000, []) := rfl
theorem y2_2 : Y2[2]? = some (1, 2001, []) := rfl
theorem y2_3 : Y2[3]? = some (1, 2001, []) := rfl
theorem y2_4 : Y2[4]? = some (1, 2001, []) := rfl
theorem y2_5 : Y2[5]? = some (2, 2001, []) := rfl
theorem y2_6 : Y2[6]? = some (1, 2, []) := rfl
theorem y2_7 : Y2[7]? = some (1, 2, []) := rfl
theorem y2_8 : Y2[8]? = some (1, 2, []) := rfl
theorem y2_9 : Y2[9]? = some (1, 4, []) := rfl
theorem y2_10 : Y2[10]? = some (1, 4, []) := rfl
theorem y2_11 : Y2[11]? = some (1, 2, []) := rfl
theorem y2_12 : Y2[12]? = some (2, 12, []) := rfl
theorem y2_13 : Y2[13]? = some (1, 12, []) := rfl
theorem y2_14 : Y2[14]? = some (1, 12, []) := rfl
theorem y2_15 : Y2[15]? = some (1, 12, []) := rfl
theorem y2_16 : Y2[16]? = some (1, 12, []) := rfl
theorem y2_17 : Y2[17]? = some (1, 2, []) := rfl
theorem y2_18 : Y2[18]? = some (1, 16, []) := rfl
theorem y2_19 : Y2[19]? = some (1, 16, []) := rfl
theorem y2_20 : Y2[20]? = some (1, 16, []) := rfl
theorem y2_21 : Y2[21]? = some (1, 16, []) := rfl
theorem y2_22 : Y2[22]? = some (1, 16, []) := rfl
theorem y2_23 : Y2[23]? = some (1, 16, []) := rfl
theorem y2_24 : Y2[24]? = some (1, 2, []) := rfl
theorem y2_25 : Y2[25]? = some (1, 24, []) := rfl
theorem y2_26 : Y2[26]? = some (1, 24, []) := rfl
theorem y2_27 : Y2[27]? = some (1, 24, []) := rfl
theorem y2_28 : Y2[28]? = some (1, 2, []) := rfl
theorem y2_29 : Y2[29]? = some (1, 1000, []) := rfl
theorem y2_30 : Y2[30]? = some (1, 1000, []) := rfl
theorem y2_31 : Y2[31]? = some (1, 2, []) := rfl
theorem y2_32 : Y2[32]? = some (3, 400, []) := rfl
theorem y2_33 : Y2[33]? = some (1, 400, []) := rfl
theorem y2_34 : Y2[34]? = some (1, 400, []) := rfl
theorem y2_35 : Y2[35]? = some (1, 400, []) := rfl
theorem y2_36 : Y2[36]? = some (1, 400, []) := rfl
theorem y2_37 : Y2[37]? = some (1, 400, []) := rfl
theorem y2_38 : Y2[38]? = some (1, 24, []) := rfl
theorem y2_39 : Y2[39]? = some (1, 40, []) := rfl
theorem y2_40 : Y2[40]? = some (1, 40, []) := rfl
theorem y2_41 : Y2[41]? = some (1, 201, []) := rfl
theorem y2_42 : Y2[42]? = some (1, 200, []) := rfl
theorem y2_43 : Y2[43]? = some (1, 200, []) := rfl
theorem y2_44 : Y2[44]? = some (3, 6237, []) := rfl
theorem y2_45 : Y2[45]? = some (1, 500, []) := rfl
theorem y2_46 : Y2[46]? = some (1, 500, []) := rfl
theorem y2_47 : Y2[47]? = some (1, 2079, []) := rfl
theorem y2_48 : Y2[48]? = some (1, 2079, []) := rfl
theorem y2_49 : Y2[49]? = some (3, 12474, []) := rfl
theorem y2_50 : Y2[50]? = some (1, 311850, []) := rfl
theorem y2_51 : Y2[51]? = some (1, 2079, []) := rfl
theorem y2_52 : Y2[52]? = some (1, 2079, []) := rfl
theorem y2_53 : Y2[53]? = some (1, 2079, []) := rfl
theorem y2_54 : Y2[54]? = some (1, 2079, []) := rfl
theorem y2_55 : Y2[55]? = some (3, 2079, []) := rfl
theorem y2_56 : Y2[56]? = some (1, 2079, []) := rfl
theorem y2_57 : Y2[57]? = some (1, 2079, []) := rfl
theorem y2_58 : Y2[58]? = some (1, 2079, []) := rfl
theorem y2_59 : Y2[59]? = some (3, 51975, []) := rfl
theorem y2_60 : Y2[60]? = some (3, 51975, []) := rfl
theorem y2_61 : Y2[61]? = some (3, 4158, []) := rfl
theorem y2_62 : Y2[62]? = some (2, 12474, []) := rfl
theorem ro_0 {t : Nat} (h : t = 3 ∨ t = 12) : Y1[t]? = some (0, 4, [0, 0, 0, 0, 0, 0, 0, 0, 0, t + 4, t + 5, t + 6, t + 7, t + 8, t + 9, t + 10, t + 11]) := by rcases h with rfl | rfl <;> rfl
theorem ro_1 {t : Nat} (h : t = 3 ∨ t = 12) : Y1[t + 1]? = some (1, 800, []) := by rcases h with rfl | rfl <;> rfl
theorem ro_2 {t : Nat} (h : t = 3 ∨ t = 12) : Y1[t + 2]? = some (2, 6, []) := by rcases h with rfl | rfl <;> rfl
theorem ro_3 {t : Nat} (h : t = 3 ∨ t = 12) : Y1[t + 3]? = some (1, 6, []) := by rcases h with rfl | rfl <;> rfl
theorem ro_4 {t : Nat} (h : t = 3 ∨ t = 12) : Y1[t + 4]? = some (1, 6, []) := by rcases h with rfl | rfl <;> rfl
theorem ro_5 {t : Nat} (h : t = 3 ∨ t = 12) : Y1[t + 5]? = some (1, 6, []) := by rcases h with rfl | rfl <;> rfl
theorem ro_6 {t : Nat} (h : t = 3 ∨ t = 12) : Y1[t + 6]? = some (1, 40, []) := by rcases h with rfl | rfl <;> rfl
theorem ro_7 {t : Nat} (h : t = 3 ∨ t = 12) : Y1[t + 7]? = some (1, 12, []) := by rcases h with rfl | rfl <;> rfl
theorem ro_8 {t : Nat} (h : t = 3 ∨ t = 12) : Y1[t + 8]? = some (1, 12, []) := by rcases h with rfl | rfl <;> rfl
theorem clX0 : g_cls 0 RX0 TX0 10 tyX0 := ⟨rfl, fun w h => List.mem_filter.mpr ⟨(goodIn_r (big := lw_tbl) wsX00 [279, 281, 283, 285, 287, 289, 291, 293, 295, 297] (by decide +kernel) (by decide +kernel) w h).1, List.all_eq_true.mp (show wsX00.all goodWord = true by decide +kernel) w h⟩, tyX0_ok, nmX0⟩
theorem clX1 : g_cls 1 RX1 TX1 10 tyX1 := ⟨rfl, fun w h => List.mem_filter.mpr ⟨(goodIn_r (big := lw_tbl) wsX10 [345, 347, 349, 351, 353, 355, 357, 359, 361, 363] (by decide +kernel) (by decide +kernel) w h).1, List.all_eq_true.mp (show wsX10.all goodWord = true by decide +kernel) w h⟩, tyX1_ok, nmX1⟩
theorem clX2 : g_cls 2 RX2 TX2 3 tyX2 := ⟨rfl, fun w h => List.mem_filter.mpr ⟨(goodIn_r (big := lw_tbl) wsX20 [257, 259, 261] (by decide +kernel) (by decide +kernel) w h).1, List.all_eq_true.mp (show wsX20.all goodWord = true by decide +kernel) w h⟩, tyX2_ok, nmX2⟩
theorem clX3 : g_cls 3 RX3 TX3 15 tyX3 := ⟨rfl, fun w h => List.mem_filter.mpr ⟨(goodIn_r (big := lw_tbl) wsX30 [443, 445, 447, 449, 451, 453, 455, 457, 459, 461, 463, 465, 467, 469, 471] (by decide +kernel) (by decide +kernel) w h).1, List.all_eq_true.mp (show wsX30.all goodWord = true by decide +kernel) w h⟩, tyX3_ok, nmX3⟩
theorem clX4 : g_cls 4 RX4 TX4 17 tyX4 := ⟨rfl, fun w h => List.mem_filter.mpr ⟨(goodIn_r (big := lw_tbl) wsX40 [203, 205, 207, 209, 211, 213, 215, 217, 219, 221, 223, 225, 227, 229, 231, 233, 235] (by decide +kernel) (by decide +kernel) w h).1, List.all_eq_true.mp (show wsX40.all goodWord = true by decide +kernel) w h⟩, tyX4_ok, nmX4⟩
theorem clX5 : g_cls 5 RX5 TX5 14 tyX5 := ⟨rfl, fun w h => List.mem_filter.mpr ⟨(goodIn_r (big := lw_tbl) wsX50 [391, 393, 395, 397, 399, 401, 403, 405, 407, 409, 411, 413, 415, 417] (by decide +kernel) (by decide +kernel) w h).1, List.all_eq_true.mp (show wsX50.all goodWord = true by decide +kernel) w h⟩, tyX5_ok, nmX5⟩
theorem clX6 : g_cls 6 RX6 TX6 13 tyX6 := ⟨rfl, fun w h => List.mem_filter.mpr ⟨(goodIn_r (big := lw_tbl) wsX60 [496, 498, 500, 502, 504, 506, 508, 510, 512, 514, 516, 518, 520] (by decide +kernel) (by decide +kernel) w h).1, List.all_eq_true.mp (show wsX60.all goodWord = true by decide +kernel) w h⟩, tyX6_ok, nmX6⟩
theorem clX7 : g_cls 7 RX7 TX7 6 tyX7 := ⟨rfl, fun w h => List.mem_filter.mpr ⟨(goodIn_r (big := lw_tbl) wsX70 [321, 323, 325, 327, 329, 331] (by decide +kernel) (by decide +kernel) w h).1, List.all_eq_true.mp (show wsX70.all goodWord = true by decide +kernel) w h⟩, tyX7_ok, nmX7⟩
theorem clX8 : g_cls 8 RX8 TX8 4 tyX8 := ⟨rfl, fun w h => List.mem_filter.mpr ⟨(goodIn_r (big := lw_tbl) wsX80 [534, 536, 538, 540] (by decide +kernel) (by decide +kernel) w h).1, List.all_eq_true.mp (show wsX80.all goodWord = true by decide +kernel) w h⟩, tyX8_ok, nmX8⟩
theorem clX9 : g_cls 9 RX9 TX9 13 tyX9 := ⟨rfl, fun w h => List.mem_filter.mpr ⟨(goodIn_r (big := lw_tbl) wsX90 [556, 558, 560, 562, 564, 566, 568, 570, 572, 574, 576, 578, 580] (by decide +kernel) (by decide +kernel) w h).1, List.all_eq_true.mp (show wsX90.all goodWord = true by decide +kernel) w h⟩, tyX9_ok, nmX9⟩
theorem clX10 : g_cls 10 RX10 TX10 93 tyX10 := ⟨rfl, fun w h => List.mem_filter.mpr ⟨(goodIn_r (big := lw_tbl) wsX100 [1475, 1477, 1479, 1481, 1483, 1485, 1487, 1489, 1491, 1493, 1495, 1497, 1499, 1501, 1503, 1505, 1507, 1509, 1511, 1513, 1515, 1517, 1519, 1521, 1523, 1525, 1527, 1529, 1531, 1533, 1535, 1537, 1539, 1541, 1543, 1545, 1547, 1549, 1551, 1553, 1555, 1557, 1559, 1561, 1563, 1565, 1567, 1569, 1571, 1573, 1575, 1577, 1579, 1581, 1583, 1585, 1587, 1589, 1591, 1593, 1595, 1597, 1599, 1601, 1603, 1605, 1607, 1609, 1611, 1613, 1615, 1617, 1619, 1621, 1623, 1625, 1627, 1629, 1631, 1633, 1635, 1637, 1639, 1641, 1643, 1645, 1647, 1649, 1651, 1653, 1655, 1657, 1659] (by decide +kernel) (by decide +kernel) w h).1, List.all_eq_true.mp (show wsX100.all goodWord = true by decide +kernel) w h⟩, tyX10_ok, nmX10⟩
