theorem goodIn_r {big : List Cond} (ws : List Cond) (ps : List Nat) (hp : ws = ps.filterMap (fun i => big[i]?)) (h : ws.all goodWord = true) : GoodIn big ws := by
  intro w hw
  have h1 := List.all_eq_true.mp h w hw
  rw [hp] at hw
  obtain ⟨i, -, hi⟩ := List.mem_filterMap.mp hw
  exact ⟨List.mem_of_getElem? hi, good_of_word h1⟩
theorem g_ni {x : Int32} {n : Int32} (h : ¬ x = n) : x.toInt ≠ n.toInt := fun e => h (Int32.toInt_inj.mp e)
theorem mt_1 {w : Cond} (h : w ∈ tables_1_1) : w ∈ lw_tbl := List.mem_append_right _ (List.mem_append_left _ h)
theorem mt_2 {w : Cond} (h : w ∈ tables_1_2) : w ∈ lw_tbl := List.mem_append_right _ (List.mem_append_right _ (List.mem_append_left _ h))
theorem mt_3 {w : Cond} (h : w ∈ tables_1_3) : w ∈ lw_tbl := List.mem_append_right _ (List.mem_append_right _ (List.mem_append_right _ (List.mem_append_left _ h)))
theorem mt_4 {w : Cond} (h : w ∈ tables_1_4) : w ∈ lw_tbl := List.mem_append_right _ (List.mem_append_right _ (List.mem_append_right _ (List.mem_append_right _ (List.mem_append_left _ h))))
theorem mt_5 {w : Cond} (h : w ∈ tables_1_5) : w ∈ lw_tbl := List.mem_append_right _ (List.mem_append_right _ (List.mem_append_right _ (List.mem_append_right _ (List.mem_append_right _ (List.mem_append_left _ h)))))
theorem mt_6 {w : Cond} (h : w ∈ tables_1_6) : w ∈ lw_tbl := List.mem_append_right _ (List.mem_append_right _ (List.mem_append_right _ (List.mem_append_right _ (List.mem_append_right _ (List.mem_append_right _ (List.mem_append_left _ h))))))
theorem mt_7 {w : Cond} (h : w ∈ tables_1_7) : w ∈ lw_tbl := List.mem_append_right _ (List.mem_append_right _ (List.mem_append_right _ (List.mem_append_right _ (List.mem_append_right _ (List.mem_append_right _ (List.mem_append_right _ (List.mem_append_left _ h)))))))
theorem mt_8 {w : Cond} (h : w ∈ tables_1_8) : w ∈ lw_tbl := List.mem_append_right _ (List.mem_append_right _ (List.mem_append_right _ (List.mem_append_right _ (List.mem_append_right _ (List.mem_append_right _ (List.mem_append_right _ (List.mem_append_right _ (List.mem_append_left _ h))))))))
theorem mt_9 {w : Cond} (h : w ∈ tables_1_9) : w ∈ lw_tbl := List.mem_append_right _ (List.mem_append_right _ (List.mem_append_right _ (List.mem_append_right _ (List.mem_append_right _ (List.mem_append_right _ (List.mem_append_right _ (List.mem_append_right _ (List.mem_append_right _ h))))))))
theorem fl_X9_9 : Cond.fieldLink RX9 9 (TX9 0).1 (TX9 0).2.1 (TX9 0).2.2.1 ∈ gws := gw (mt_2 (List.mem_of_getElem? (i := 183) rfl)) rfl
theorem fl_X9_13 : Cond.fieldLink RX9 13 (TX9 12).1 (TX9 12).2.1 (TX9 12).2.2.1 ∈ gws := gw (mt_2 (List.mem_of_getElem? (i := 195) rfl)) rfl
theorem fl_X9_24 : Cond.fieldLink RX9 24 (TX9 2).1 (TX9 2).2.1 (TX9 2).2.2.1 ∈ gws := gw (mt_2 (List.mem_of_getElem? (i := 185) rfl)) rfl
theorem fl_X9_28 : Cond.fieldLink RX9 28 (TX9 3).1 (TX9 3).2.1 (TX9 3).2.2.1 ∈ gws := gw (mt_2 (List.mem_of_getElem? (i := 186) rfl)) rfl
theorem fl_X9_31 : Cond.fieldLink RX9 31 (TX9 4).1 (TX9 4).2.1 (TX9 4).2.2.1 ∈ gws := gw (mt_2 (List.mem_of_getElem? (i := 187) rfl)) rfl
theorem fl_X9_35 : Cond.fieldLink RX9 35 (TX9 5).1 (TX9 5).2.1 (TX9 5).2.2.1 ∈ gws := gw (mt_2 (List.mem_of_getElem? (i := 188) rfl)) rfl
theorem fl_X9_41 : Cond.fieldLink RX9 41 (TX9 6).1 (TX9 6).2.1 (TX9 6).2.2.1 ∈ gws := gw (mt_2 (List.mem_of_getElem? (i := 189) rfl)) rfl
theorem fl_X9_45 : Cond.fieldLink RX9 45 (TX9 7).1 (TX9 7).2.1 (TX9 7).2.2.1 ∈ gws := gw (mt_2 (List.mem_of_getElem? (i := 190) rfl)) rfl
theorem fl_X9_54 : Cond.fieldLink RX9 54 (TX9 8).1 (TX9 8).2.1 (TX9 8).2.2.1 ∈ gws := gw (mt_2 (List.mem_of_getElem? (i := 191) rfl)) rfl
theorem fl_X9_61 : Cond.fieldLink RX9 61 (TX9 9).1 (TX9 9).2.1 (TX9 9).2.2.1 ∈ gws := gw (mt_2 (List.mem_of_getElem? (i := 192) rfl)) rfl
theorem fl_X9_68 : Cond.fieldLink RX9 68 (TX9 10).1 (TX9 10).2.1 (TX9 10).2.2.1 ∈ gws := gw (mt_2 (List.mem_of_getElem? (i := 193) rfl)) rfl
theorem fl_X9_75 : Cond.fieldLink RX9 75 (TX9 11).1 (TX9 11).2.1 (TX9 11).2.2.1 ∈ gws := gw (mt_2 (List.mem_of_getElem? (i := 194) rfl)) rfl
theorem fl_X9_79 : Cond.fieldLink RX9 79 (TX9 1).1 (TX9 1).2.1 (TX9 1).2.2.1 ∈ gws := gw (mt_2 (List.mem_of_getElem? (i := 184) rfl)) rfl
theorem fl_X9_90 : Cond.fieldLink RX9 90 (TX1 0).1 (TX1 0).2.1 (TX1 0).2.2.1 ∈ gws := gw (mt_1 (List.mem_of_getElem? (i := 215) rfl)) rfl
theorem fl_X9_149 : Cond.fieldLink RX9 149 (TX5 1).1 (TX5 1).2.1 (TX5 1).2.2.1 ∈ gws := gw (mt_2 (List.mem_of_getElem? (i := 14) rfl)) rfl
theorem fl_X9_153 : Cond.fieldLink RX9 153 (TX5 2).1 (TX5 2).2.1 (TX5 2).2.2.1 ∈ gws := gw (mt_2 (List.mem_of_getElem? (i := 17) rfl)) rfl
theorem fl_X9_159 : Cond.fieldLink RX9 159 (TX5 3).1 (TX5 3).2.1 (TX5 3).2.2.1 ∈ gws := gw (mt_2 (List.mem_of_getElem? (i := 19) rfl)) rfl
theorem fl_X9_163 : Cond.fieldLink RX9 163 (TX5 4).1 (TX5 4).2.1 (TX5 4).2.2.1 ∈ gws := gw (mt_2 (List.mem_of_getElem? (i := 21) rfl)) rfl
theorem fl_X9_166 : Cond.fieldLink RX9 166 (TX4 0).1 (TX4 0).2.1 (TX4 0).2.2.1 ∈ gws := gw (mt_1 (List.mem_of_getElem? (i := 40) rfl)) rfl
theorem fl_X9_173 : Cond.fieldLink RX9 173 (TX4 1).1 (TX4 1).2.1 (TX4 1).2.2.1 ∈ gws := gw (mt_1 (List.mem_of_getElem? (i := 43) rfl)) rfl
theorem fl_X9_194 : Cond.fieldLink RX9 194 (TX6 3).1 (TX6 3).2.1 (TX6 3).2.2.1 ∈ gws := gw (mt_2 (List.mem_of_getElem? (i := 125) rfl)) rfl
theorem fl_X9_204 : Cond.fieldLink RX9 204 (TX6 8).1 (TX6 8).2.1 (TX6 8).2.2.1 ∈ gws := gw (mt_2 (List.mem_of_getElem? (i := 131) rfl)) rfl
theorem fl_X9_232 : Cond.fieldLink RX9 232 (TX3 2).1 (TX3 2).2.1 (TX3 2).2.2.1 ∈ gws := gw (mt_2 (List.mem_of_getElem? (i := 70) rfl)) rfl
theorem fl_X9_235 : Cond.fieldLink RX9 235 (TX3 1).1 (TX3 1).2.1 (TX3 1).2.2.1 ∈ gws := gw (mt_2 (List.mem_of_getElem? (i := 68) rfl)) rfl
theorem fl_X9_247 : Cond.fieldLink RX9 247 (TX8 0).1 (TX8 0).2.1 (TX8 0).2.2.1 ∈ gws := gw (mt_2 (List.mem_of_getElem? (i := 170) rfl)) rfl
theorem fl_X9_281 : Cond.fieldLink RX9 281 (TX4 2).1 (TX4 2).2.1 (TX4 2).2.2.1 ∈ gws := gw (mt_1 (List.mem_of_getElem? (i := 46) rfl)) rfl
theorem fl_X9_284 : Cond.fieldLink RX9 284 (TX4 5).1 (TX4 5).2.1 (TX4 5).2.2.1 ∈ gws := gw (mt_1 (List.mem_of_getElem? (i := 57) rfl)) rfl
theorem fl_X9_287 : Cond.fieldLink RX9 287 (TX4 6).1 (TX4 6).2.1 (TX4 6).2.2.1 ∈ gws := gw (mt_1 (List.mem_of_getElem? (i := 61) rfl)) rfl
theorem fl_X9_290 : Cond.fieldLink RX9 290 (TX4 7).1 (TX4 7).2.1 (TX4 7).2.2.1 ∈ gws := gw (mt_1 (List.mem_of_getElem? (i := 65) rfl)) rfl
theorem fl_X9_292 : Cond.fieldLink RX9 292 (TX6 1).1 (TX6 1).2.1 (TX6 1).2.2.1 ∈ gws := gw (mt_2 (List.mem_of_getElem? (i := 122) rfl)) rfl
theorem fl_X0_12 : Cond.fieldLink RX0 12 (TX0 3).1 (TX0 3).2.1 (TX0 3).2.2.1 ∈ gws := gw (mt_1 (List.mem_of_getElem? (i := 152) rfl)) rfl
theorem fl_X0_18 : Cond.fieldLink RX0 18 (TX0 4).1 (TX0 4).2.1 (TX0 4).2.2.1 ∈ gws := gw (mt_1 (List.mem_of_getElem? (i := 153) rfl)) rfl
theorem fl_X0_22 : Cond.fieldLink RX0 22 (TX0 5).1 (TX0 5).2.1 (TX0 5).2.2.1 ∈ gws := gw (mt_1 (List.mem_of_getElem? (i := 154) rfl)) rfl
theorem fl_X0_25 : Cond.fieldLink RX0 25 (TX0 6).1 (TX0 6).2.1 (TX0 6).2.2.1 ∈ gws := gw (mt_1 (List.mem_of_getElem? (i := 155) rfl)) rfl
theorem fl_X0_28 : Cond.fieldLink RX0 28 (TX0 7).1 (TX0 7).2.1 (TX0 7).2.2.1 ∈ gws := gw (mt_1 (List.mem_of_getElem? (i := 156) rfl)) rfl
theorem fl_X0_31 : Cond.fieldLink RX0 31 (TX0 8).1 (TX0 8).2.1 (TX0 8).2.2.1 ∈ gws := gw (mt_1 (List.mem_of_getElem? (i := 157) rfl)) rfl
theorem fl_X0_35 : Cond.fieldLink RX0 35 (TX0 9).1 (TX0 9).2.1 (TX0 9).2.2.1 ∈ gws := gw (mt_1 (List.mem_of_getElem? (i := 158) rfl)) rfl
theorem fl_X0_39 : Cond.fieldLink RX0 39 (TX0 0).1 (TX0 0).2.1 (TX0 0).2.2.1 ∈ gws := gw (mt_1 (List.mem_of_getElem? (i := 145) rfl)) rfl
theorem fl_X0_43 : Cond.fieldLink RX0 43 (TX0 1).1 (TX0 1).2.1 (TX0 1).2.2.1 ∈ gws := gw (mt_1 (List.mem_of_getElem? (i := 149) rfl)) rfl
theorem fl_X0_47 : Cond.fieldLink RX0 47 (TX0 2).1 (TX0 2).2.1 (TX0 2).2.2.1 ∈ gws := gw (mt_1 (List.mem_of_getElem? (i := 151) rfl)) rfl
theorem fl_X0_64 : Cond.fieldLink RX0 64 (TX4 6).1 (TX4 6).2.1 (TX4 6).2.2.1 ∈ gws := gw (mt_1 (List.mem_of_getElem? (i := 59) rfl)) rfl
theorem fl_X0_67 : Cond.fieldLink RX0 67 (TX4 14).1 (TX4 14).2.1 (TX4 14).2.2.1 ∈ gws := gw (mt_1 (List.mem_of_getElem? (i := 78) rfl)) rfl
theorem fl_X0_70 : Cond.fieldLink RX0 70 (TX4 9).1 (TX4 9).2.1 (TX4 9).2.2.1 ∈ gws := gw (mt_1 (List.mem_of_getElem? (i := 69) rfl)) rfl
theorem fl_X0_77 : Cond.fieldLink RX0 77 (TX4 5).1 (TX4 5).2.1 (TX4 5).2.2.1 ∈ gws := gw (mt_1 (List.mem_of_getElem? (i := 54) rfl)) rfl
theorem fl_X0_84 : Cond.fieldLink RX0 84 (TX2 1).1 (TX2 1).2.1 (TX2 1).2.2.1 ∈ gws := gw (mt_1 (List.mem_of_getElem? (i := 134) rfl)) rfl
theorem fl_X0_87 : Cond.fieldLink RX0 87 (TX4 11).1 (TX4 11).2.1 (TX4 11).2.2.1 ∈ gws := gw (mt_1 (List.mem_of_getElem? (i := 72) rfl)) rfl
theorem fl_X0_90 : Cond.fieldLink RX0 90 (TX4 13).1 (TX4 13).2.1 (TX4 13).2.2.1 ∈ gws := gw (mt_1 (List.mem_of_getElem? (i := 76) rfl)) rfl
theorem fl_X0_96 : Cond.fieldLink RX0 96 (TX4 7).1 (TX4 7).2.1 (TX4 7).2.2.1 ∈ gws := gw (mt_1 (List.mem_of_getElem? (i := 63) rfl)) rfl
theorem fl_X0_99 : Cond.fieldLink RX0 99 (TX4 16).1 (TX4 16).2.1 (TX4 16).2.2.1 ∈ gws := gw (mt_1 (List.mem_of_getElem? (i := 82) rfl)) rfl
theorem fl_X0_102 : Cond.fieldLink RX0 102 (TX4 15).1 (TX4 15).2.1 (TX4 15).2.2.1 ∈ gws := gw (mt_1 (List.mem_of_getElem? (i := 80) rfl)) rfl
theorem fl_X0_118 : Cond.fieldLink RX0 118 (TX4 3).1 (TX4 3).2.1 (TX4 3).2.2.1 ∈ gws := gw (mt_1 (List.mem_of_getElem? (i := 48) rfl)) rfl
theorem fl_X0_129 : Cond.fieldLink RX0 129 (TX2 2).1 (TX2 2).2.1 (TX2 2).2.2.1 ∈ gws := gw (mt_1 (List.mem_of_getElem? (i := 136) rfl)) rfl
theorem fl_X0_133 : Cond.fieldLink RX0 133 (TX4 4).1 (TX4 4).2.1 (TX4 4).2.2.1 ∈ gws := gw (mt_1 (List.mem_of_getElem? (i := 51) rfl)) rfl
theorem fl_X0_136 : Cond.fieldLink RX0 136 (TX4 12).1 (TX4 12).2.1 (TX4 12).2.2.1 ∈ gws := gw (mt_1 (List.mem_of_getElem? (i := 74) rfl)) rfl
theorem fl_X1_9 : Cond.fieldLink RX1 9 (TX1 8).1 (TX1 8).2.1 (TX1 8).2.2.1 ∈ gws := gw (mt_1 (List.mem_of_getElem? (i := 223) rfl)) rfl
theorem fl_X1_18 : Cond.fieldLink RX1 18 (TX1 9).1 (TX1 9).2.1 (TX1 9).2.2.1 ∈ gws := gw (mt_1 (List.mem_of_getElem? (i := 224) rfl)) rfl
theorem fl_X1_22 : Cond.fieldLink RX1 22 (TX1 6).1 (TX1 6).2.1 (TX1 6).2.2.1 ∈ gws := gw (mt_1 (List.mem_of_getElem? (i := 221) rfl)) rfl
theorem fl_X1_35 : Cond.fieldLink RX1 35 (TX1 4).1 (TX1 4).2.1 (TX1 4).2.2.1 ∈ gws := gw (mt_1 (List.mem_of_getElem? (i := 219) rfl)) rfl
theorem fl_X1_39 : Cond.fieldLink RX1 39 (TX1 1).1 (TX1 1).2.1 (TX1 1).2.2.1 ∈ gws := gw (mt_1 (List.mem_of_getElem? (i := 216) rfl)) rfl
theorem fl_X1_42 : Cond.fieldLink RX1 42 (TX1 0).1 (TX1 0).2.1 (TX1 0).2.2.1 ∈ gws := gw (mt_1 (List.mem_of_getElem? (i := 214) rfl)) rfl
theorem fl_X1_45 : Cond.fieldLink RX1 45 (TX1 2).1 (TX1 2).2.1 (TX1 2).2.2.1 ∈ gws := gw (mt_1 (List.mem_of_getElem? (i := 217) rfl)) rfl
theorem fl_X1_48 : Cond.fieldLink RX1 48 (TX1 3).1 (TX1 3).2.1 (TX1 3).2.2.1 ∈ gws := gw (mt_1 (List.mem_of_getElem? (i := 218) rfl)) rfl
theorem fl_X1_78 : Cond.fieldLink RX1 78 (TX7 0).1 (TX7 0).2.1 (TX7 0).2.2.1 ∈ gws := gw (mt_1 (List.mem_of_getElem? (i := 193) rfl)) rfl
theorem fl_X1_81 : Cond.fieldLink RX1 81 (TX7 2).1 (TX7 2).2.1 (TX7 2).2.2.1 ∈ gws := gw (mt_1 (List.mem_of_getElem? (i := 197) rfl)) rfl
theorem fl_X1_85 : Cond.fieldLink RX1 85 (TX7 1).1 (TX7 1).2.1 (TX7 1).2.2.1 ∈ gws := gw (mt_1 (List.mem_of_getElem? (i := 195) rfl)) rfl
theorem fl_X1_95 : Cond.fieldLink RX1 95 (TX1 5).1 (TX1 5).2.1 (TX1 5).2.2.1 ∈ gws := gw (mt_1 (List.mem_of_getElem? (i := 220) rfl)) rfl
theorem fl_X1_98 : Cond.fieldLink RX1 98 (TX4 0).1 (TX4 0).2.1 (TX4 0).2.2.1 ∈ gws := gw (mt_1 (List.mem_of_getElem? (i := 38) rfl)) rfl
theorem fl_X1_101 : Cond.fieldLink RX1 101 (TX4 1).1 (TX4 1).2.1 (TX4 1).2.2.1 ∈ gws := gw (mt_1 (List.mem_of_getElem? (i := 42) rfl)) rfl
theorem fl_X1_104 : Cond.fieldLink RX1 104 (TX4 2).1 (TX4 2).2.1 (TX4 2).2.2.1 ∈ gws := gw (mt_1 (List.mem_of_getElem? (i := 45) rfl)) rfl
theorem fl_X1_118 : Cond.fieldLink RX1 118 (TX4 8).1 (TX4 8).2.1 (TX4 8).2.2.1 ∈ gws := gw (mt_1 (List.mem_of_getElem? (i := 67) rfl)) rfl
theorem fl_X1_129 : Cond.fieldLink RX1 129 (TX4 3).1 (TX4 3).2.1 (TX4 3).2.2.1 ∈ gws := gw (mt_1 (List.mem_of_getElem? (i := 49) rfl)) rfl
theorem fl_X1_132 : Cond.fieldLink RX1 132 (TX4 4).1 (TX4 4).2.1 (TX4 4).2.2.1 ∈ gws := gw (mt_1 (List.mem_of_getElem? (i := 52) rfl)) rfl
theorem fl_X1_135 : Cond.fieldLink RX1 135 (TX4 5).1 (TX4 5).2.1 (TX4 5).2.2.1 ∈ gws := gw (mt_1 (List.mem_of_getElem? (i := 56) rfl)) rfl
theorem fl_X1_152 : Cond.fieldLink RX1 152 (TX4 6).1 (TX4 6).2.1 (TX4 6).2.2.1 ∈ gws := gw (mt_1 (List.mem_of_getElem? (i := 60) rfl)) rfl
theorem fl_X1_159 : Cond.fieldLink RX1 159 (TX4 7).1 (TX4 7).2.1 (TX4 7).2.2.1 ∈ gws := gw (mt_1 (List.mem_of_getElem? (i := 64) rfl)) rfl
theorem fl_X1_169 : Cond.fieldLink RX1 169 (TX1 7).1 (TX1 7).2.1 (TX1 7).2.2.1 ∈ gws := gw (mt_1 (List.mem_of_getElem? (i := 222) rfl)) rfl
theorem fl_X2_9 : Cond.fieldLink RX2 9 (TX2 0).1 (TX2 0).2.1 (TX2 0).2.2.1 ∈ gws := gw (mt_1 (List.mem_of_getElem? (i := 132) rfl)) rfl
theorem fl_X2_15 : Cond.fieldLink RX2 15 (TX2 1).1 (TX2 1).2.1 (TX2 1).2.2.1 ∈ gws := gw (mt_1 (List.mem_of_getElem? (i := 133) rfl)) rfl
theorem fl_X2_26 : Cond.fieldLink RX2 26 (TX2 2).1 (TX2 2).2.1 (TX2 2).2.2.1 ∈ gws := gw (mt_1 (List.mem_of_getElem? (i := 135) rfl)) rfl
theorem fl_X3_11 : Cond.fieldLink RX3 11 (TX3 1).1 (TX3 1).2.1 (TX3 1).2.2.1 ∈ gws := gw (mt_2 (List.mem_of_getElem? (i := 67) rfl)) rfl
theorem fl_X3_15 : Cond.fieldLink RX3 15 (TX3 3).1 (TX3 3).2.1 (TX3 3).2.2.1 ∈ gws := gw (mt_2 (List.mem_of_getElem? (i := 71) rfl)) rfl
theorem fl_X3_18 : Cond.fieldLink RX3 18 (TX3 8).1 (TX3 8).2.1 (TX3 8).2.2.1 ∈ gws := gw (mt_2 (List.mem_of_getElem? (i := 76) rfl)) rfl
theorem fl_X3_21 : Cond.fieldLink RX3 21 (TX3 9).1 (TX3 9).2.1 (TX3 9).2.2.1 ∈ gws := gw (mt_2 (List.mem_of_getElem? (i := 77) rfl)) rfl
theorem fl_X3_24 : Cond.fieldLink RX3 24 (TX3 10).1 (TX3 10).2.1 (TX3 10).2.2.1 ∈ gws := gw (mt_2 (List.mem_of_getElem? (i := 78) rfl)) rfl
theorem fl_X3_27 : Cond.fieldLink RX3 27 (TX3 11).1 (TX3 11).2.1 (TX3 11).2.2.1 ∈ gws := gw (mt_2 (List.mem_of_getElem? (i := 79) rfl)) rfl
theorem fl_X3_30 : Cond.fieldLink RX3 30 (TX3 12).1 (TX3 12).2.1 (TX3 12).2.2.1 ∈ gws := gw (mt_2 (List.mem_of_getElem? (i := 80) rfl)) rfl
theorem fl_X3_33 : Cond.fieldLink RX3 33 (TX3 13).1 (TX3 13).2.1 (TX3 13).2.2.1 ∈ gws := gw (mt_2 (List.mem_of_getElem? (i := 81) rfl)) rfl
theorem fl_X3_37 : Cond.fieldLink RX3 37 (TX3 14).1 (TX3 14).2.1 (TX3 14).2.2.1 ∈ gws := gw (mt_2 (List.mem_of_getElem? (i := 82) rfl)) rfl
theorem fl_X3_40 : Cond.fieldLink RX3 40 (TX3 0).1 (TX3 0).2.1 (TX3 0).2.2.1 ∈ gws := gw (mt_2 (List.mem_of_getElem? (i := 66) rfl)) rfl
theorem fl_X3_44 : Cond.fieldLink RX3 44 (TX3 4).1 (TX3 4).2.1 (TX3 4).2.2.1 ∈ gws := gw (mt_2 (List.mem_of_getElem? (i := 72) rfl)) rfl
theorem fl_X3_48 : Cond.fieldLink RX3 48 (TX3 5).1 (TX3 5).2.1 (TX3 5).2.2.1 ∈ gws := gw (mt_2 (List.mem_of_getElem? (i := 73) rfl)) rfl
theorem fl_X3_51 : Cond.fieldLink RX3 51 (TX3 2).1 (TX3 2).2.1 (TX3 2).2.2.1 ∈ gws := gw (mt_2 (List.mem_of_getElem? (i := 69) rfl)) rfl
theorem fl_X3_70 : Cond.fieldLink RX3 70 (TX3 7).1 (TX3 7).2.1 (TX3 7).2.2.1 ∈ gws := gw (mt_2 (List.mem_of_getElem? (i := 75) rfl)) rfl
theorem fl_X3_80 : Cond.fieldLink RX3 80 (TX0 0).1 (TX0 0).2.1 (TX0 0).2.2.1 ∈ gws := gw (mt_1 (List.mem_of_getElem? (i := 147) rfl)) rfl
theorem fl_X3_99 : Cond.fieldLink RX3 99 (TX3 6).1 (TX3 6).2.1 (TX3 6).2.2.1 ∈ gws := gw (mt_2 (List.mem_of_getElem? (i := 74) rfl)) rfl
theorem fl_X3_109 : Cond.fieldLink RX3 109 (TX4 0).1 (TX4 0).2.1 (TX4 0).2.2.1 ∈ gws := gw (mt_1 (List.mem_of_getElem? (i := 39) rfl)) rfl
theorem fl_X3_128 : Cond.fieldLink RX3 128 (TX5 2).1 (TX5 2).2.1 (TX5 2).2.2.1 ∈ gws := gw (mt_2 (List.mem_of_getElem? (i := 16) rfl)) rfl
theorem fl_X4_9 : Cond.fieldLink RX4 9 (TX4 9).1 (TX4 9).2.1 (TX4 9).2.2.1 ∈ gws := gw (mt_1 (List.mem_of_getElem? (i := 68) rfl)) rfl
theorem fl_X4_15 : Cond.fieldLink RX4 15 (TX4 10).1 (TX4 10).2.1 (TX4 10).2.2.1 ∈ gws := gw (mt_1 (List.mem_of_getElem? (i := 70) rfl)) rfl
theorem fl_X4_19 : Cond.fieldLink RX4 19 (TX4 11).1 (TX4 11).2.1 (TX4 11).2.2.1 ∈ gws := gw (mt_1 (List.mem_of_getElem? (i := 71) rfl)) rfl
theorem fl_X4_22 : Cond.fieldLink RX4 22 (TX4 12).1 (TX4 12).2.1 (TX4 12).2.2.1 ∈ gws := gw (mt_1 (List.mem_of_getElem? (i := 73) rfl)) rfl
theorem fl_X4_25 : Cond.fieldLink RX4 25 (TX4 13).1 (TX4 13).2.1 (TX4 13).2.2.1 ∈ gws := gw (mt_1 (List.mem_of_getElem? (i := 75) rfl)) rfl
theorem fl_X4_28 : Cond.fieldLink RX4 28 (TX4 14).1 (TX4 14).2.1 (TX4 14).2.2.1 ∈ gws := gw (mt_1 (List.mem_of_getElem? (i := 77) rfl)) rfl
theorem fl_X4_31 : Cond.fieldLink RX4 31 (TX4 15).1 (TX4 15).2.1 (TX4 15).2.2.1 ∈ gws := gw (mt_1 (List.mem_of_getElem? (i := 79) rfl)) rfl
theorem fl_X4_34 : Cond.fieldLink RX4 34 (TX4 16).1 (TX4 16).2.1 (TX4 16).2.2.1 ∈ gws := gw (mt_1 (List.mem_of_getElem? (i := 81) rfl)) rfl
theorem fl_X4_37 : Cond.fieldLink RX4 37 (TX4 0).1 (TX4 0).2.1 (TX4 0).2.2.1 ∈ gws := gw (mt_1 (List.mem_of_getElem? (i := 36) rfl)) rfl
theorem fl_X4_41 : Cond.fieldLink RX4 41 (TX4 1).1 (TX4 1).2.1 (TX4 1).2.2.1 ∈ gws := gw (mt_1 (List.mem_of_getElem? (i := 41) rfl)) rfl
theorem fl_X4_44 : Cond.fieldLink RX4 44 (TX4 2).1 (TX4 2).2.1 (TX4 2).2.2.1 ∈ gws := gw (mt_1 (List.mem_of_getElem? (i := 44) rfl)) rfl
theorem fl_X4_47 : Cond.fieldLink RX4 47 (TX4 3).1 (TX4 3).2.1 (TX4 3).2.2.1 ∈ gws := gw (mt_1 (List.mem_of_getElem? (i := 47) rfl)) rfl
theorem fl_X4_50 : Cond.fieldLink RX4 50 (TX4 4).1 (TX4 4).2.1 (TX4 4).2.2.1 ∈ gws := gw (mt_1 (List.mem_of_getElem? (i := 50) rfl)) rfl
theorem fl_X4_53 : Cond.fieldLink RX4 53 (TX4 5).1 (TX4 5).2.1 (TX4 5).2.2.1 ∈ gws := gw (mt_1 (List.mem_of_getElem? (i := 53) rfl)) rfl
theorem fl_X4_56 : Cond.fieldLink RX4 56 (TX4 6).1 (TX4 6).2.1 (TX4 6).2.2.1 ∈ gws := gw (mt_1 (List.mem_of_getElem? (i := 58) rfl)) rfl
theorem fl_X4_59 : Cond.fieldLink RX4 59 (TX4 7).1 (TX4 7).2.1 (TX4 7).2.2.1 ∈ gws := gw (mt_1 (List.mem_of_getElem? (i := 62) rfl)) rfl
theorem fl_X4_62 : Cond.fieldLink RX4 62 (TX4 8).1 (TX4 8).2.1 (TX4 8).2.2.1 ∈ gws := gw (mt_1 (List.mem_of_getElem? (i := 66) rfl)) rfl
theorem fl_X5_9 : Cond.fieldLink RX5 9 (TX5 1).1 (TX5 1).2.1 (TX5 1).2.2.1 ∈ gws := gw (mt_2 (List.mem_of_getElem? (i := 13) rfl)) rfl
theorem fl_X5_15 : Cond.fieldLink RX5 15 (TX5 2).1 (TX5 2).2.1 (TX5 2).2.2.1 ∈ gws := gw (mt_2 (List.mem_of_getElem? (i := 15) rfl)) rfl
theorem fl_X5_18 : Cond.fieldLink RX5 18 (TX5 3).1 (TX5 3).2.1 (TX5 3).2.2.1 ∈ gws := gw (mt_2 (List.mem_of_getElem? (i := 18) rfl)) rfl
theorem fl_X5_21 : Cond.fieldLink RX5 21 (TX5 4).1 (TX5 4).2.1 (TX5 4).2.2.1 ∈ gws := gw (mt_2 (List.mem_of_getElem? (i := 20) rfl)) rfl
theorem fl_X5_24 : Cond.fieldLink RX5 24 (TX5 5).1 (TX5 5).2.1 (TX5 5).2.2.1 ∈ gws := gw (mt_2 (List.mem_of_getElem? (i := 22) rfl)) rfl
theorem fl_X5_27 : Cond.fieldLink RX5 27 (TX5 6).1 (TX5 6).2.1 (TX5 6).2.2.1 ∈ gws := gw (mt_2 (List.mem_of_getElem? (i := 23) rfl)) rfl
theorem fl_X5_30 : Cond.fieldLink RX5 30 (TX5 7).1 (TX5 7).2.1 (TX5 7).2.2.1 ∈ gws := gw (mt_2 (List.mem_of_getElem? (i := 24) rfl)) rfl
theorem fl_X5_33 : Cond.fieldLink RX5 33 (TX5 8).1 (TX5 8).2.1 (TX5 8).2.2.1 ∈ gws := gw (mt_2 (List.mem_of_getElem? (i := 25) rfl)) rfl
theorem fl_X5_36 : Cond.fieldLink RX5 36 (TX5 9).1 (TX5 9).2.1 (TX5 9).2.2.1 ∈ gws := gw (mt_2 (List.mem_of_getElem? (i := 26) rfl)) rfl
theorem fl_X5_39 : Cond.fieldLink RX5 39 (TX5 0).1 (TX5 0).2.1 (TX5 0).2.2.1 ∈ gws := gw (mt_2 (List.mem_of_getElem? (i := 12) rfl)) rfl
theorem fl_X5_43 : Cond.fieldLink RX5 43 (TX5 12).1 (TX5 12).2.1 (TX5 12).2.2.1 ∈ gws := gw (mt_2 (List.mem_of_getElem? (i := 29) rfl)) rfl
theorem fl_X5_47 : Cond.fieldLink RX5 47 (TX5 13).1 (TX5 13).2.1 (TX5 13).2.2.1 ∈ gws := gw (mt_2 (List.mem_of_getElem? (i := 30) rfl)) rfl
theorem fl_X5_50 : Cond.fieldLink RX5 50 (TX5 10).1 (TX5 10).2.1 (TX5 10).2.2.1 ∈ gws := gw (mt_2 (List.mem_of_getElem? (i := 27) rfl)) rfl
theorem fl_X5_54 : Cond.fieldLink RX5 54 (TX5 11).1 (TX5 11).2.1 (TX5 11).2.2.1 ∈ gws := gw (mt_2 (List.mem_of_getElem? (i := 28) rfl)) rfl
theorem fl_X5_75 : Cond.fieldLink RX5 75 (TX0 0).1 (TX0 0).2.1 (TX0 0).2.2.1 ∈ gws := gw (mt_1 (List.mem_of_getElem? (i := 148) rfl)) rfl
theorem fl_X5_79 : Cond.fieldLink RX5 79 (TX4 0).1 (TX4 0).2.1 (TX4 0).2.2.1 ∈ gws := gw (mt_1 (List.mem_of_getElem? (i := 37) rfl)) rfl
theorem fl_X5_120 : Cond.fieldLink RX5 120 (TX0 1).1 (TX0 1).2.1 (TX0 1).2.2.1 ∈ gws := gw (mt_1 (List.mem_of_getElem? (i := 150) rfl)) rfl
theorem fl_X6_11 : Cond.fieldLink RX6 11 (TX6 2).1 (TX6 2).2.1 (TX6 2).2.2.1 ∈ gws := gw (mt_2 (List.mem_of_getElem? (i := 123) rfl)) rfl
theorem fl_X6_15 : Cond.fieldLink RX6 15 (TX6 5).1 (TX6 5).2.1 (TX6 5).2.2.1 ∈ gws := gw (mt_2 (List.mem_of_getElem? (i := 127) rfl)) rfl
theorem fl_X6_18 : Cond.fieldLink RX6 18 (TX6 6).1 (TX6 6).2.1 (TX6 6).2.2.1 ∈ gws := gw (mt_2 (List.mem_of_getElem? (i := 128) rfl)) rfl
theorem fl_X6_21 : Cond.fieldLink RX6 21 (TX6 7).1 (TX6 7).2.1 (TX6 7).2.2.1 ∈ gws := gw (mt_2 (List.mem_of_getElem? (i := 129) rfl)) rfl
theorem fl_X6_24 : Cond.fieldLink RX6 24 (TX6 8).1 (TX6 8).2.1 (TX6 8).2.2.1 ∈ gws := gw (mt_2 (List.mem_of_getElem? (i := 130) rfl)) rfl
theorem fl_X6_27 : Cond.fieldLink RX6 27 (TX6 9).1 (TX6 9).2.1 (TX6 9).2.2.1 ∈ gws := gw (mt_2 (List.mem_of_getElem? (i := 132) rfl)) rfl
theorem fl_X6_30 : Cond.fieldLink RX6 30 (TX6 10).1 (TX6 10).2.1 (TX6 10).2.2.1 ∈ gws := gw (mt_2 (List.mem_of_getElem? (i := 133) rfl)) rfl
theorem fl_X6_33 : Cond.fieldLink RX6 33 (TX6 11).1 (TX6 11).2.1 (TX6 11).2.2.1 ∈ gws := gw (mt_2 (List.mem_of_getElem? (i := 134) rfl)) rfl
theorem fl_X6_36 : Cond.fieldLink RX6 36 (TX6 0).1 (TX6 0).2.1 (TX6 0).2.2.1 ∈ gws := gw (mt_2 (List.mem_of_getElem? (i := 120) rfl)) rfl
theorem fl_X6_40 : Cond.fieldLink RX6 40 (TX6 4).1 (TX6 4).2.1 (TX6 4).2.2.1 ∈ gws := gw (mt_2 (List.mem_of_getElem? (i := 126) rfl)) rfl
theorem fl_X6_44 : Cond.fieldLink RX6 44 (TX6 1).1 (TX6 1).2.1 (TX6 1).2.2.1 ∈ gws := gw (mt_2 (List.mem_of_getElem? (i := 121) rfl)) rfl
theorem fl_X6_47 : Cond.fieldLink RX6 47 (TX0 0).1 (TX0 0).2.1 (TX0 0).2.2.1 ∈ gws := gw (mt_1 (List.mem_of_getElem? (i := 146) rfl)) rfl
theorem fl_X6_59 : Cond.fieldLink RX6 59 (TX6 3).1 (TX6 3).2.1 (TX6 3).2.2.1 ∈ gws := gw (mt_2 (List.mem_of_getElem? (i := 124) rfl)) rfl
theorem fl_X6_87 : Cond.fieldLink RX6 87 (TX4 5).1 (TX4 5).2.1 (TX4 5).2.2.1 ∈ gws := gw (mt_1 (List.mem_of_getElem? (i := 55) rfl)) rfl
theorem fl_X6_94 : Cond.fieldLink RX6 94 (TX6 12).1 (TX6 12).2.1 (TX6 12).2.2.1 ∈ gws := gw (mt_2 (List.mem_of_getElem? (i := 135) rfl)) rfl
theorem fl_X7_9 : Cond.fieldLink RX7 9 (TX7 0).1 (TX7 0).2.1 (TX7 0).2.2.1 ∈ gws := gw (mt_1 (List.mem_of_getElem? (i := 192) rfl)) rfl
theorem fl_X7_15 : Cond.fieldLink RX7 15 (TX7 1).1 (TX7 1).2.1 (TX7 1).2.2.1 ∈ gws := gw (mt_1 (List.mem_of_getElem? (i := 194) rfl)) rfl
theorem fl_X7_18 : Cond.fieldLink RX7 18 (TX7 2).1 (TX7 2).2.1 (TX7 2).2.2.1 ∈ gws := gw (mt_1 (List.mem_of_getElem? (i := 196) rfl)) rfl
theorem fl_X7_22 : Cond.fieldLink RX7 22 (TX7 3).1 (TX7 3).2.1 (TX7 3).2.2.1 ∈ gws := gw (mt_1 (List.mem_of_getElem? (i := 198) rfl)) rfl
theorem fl_X7_25 : Cond.fieldLink RX7 25 (TX7 4).1 (TX7 4).2.1 (TX7 4).2.2.1 ∈ gws := gw (mt_1 (List.mem_of_getElem? (i := 199) rfl)) rfl
theorem fl_X7_29 : Cond.fieldLink RX7 29 (TX7 5).1 (TX7 5).2.1 (TX7 5).2.2.1 ∈ gws := gw (mt_1 (List.mem_of_getElem? (i := 200) rfl)) rfl
theorem fl_X8_11 : Cond.fieldLink RX8 11 (TX8 1).1 (TX8 1).2.1 (TX8 1).2.2.1 ∈ gws := gw (mt_2 (List.mem_of_getElem? (i := 171) rfl)) rfl
theorem fl_X8_15 : Cond.fieldLink RX8 15 (TX8 2).1 (TX8 2).2.1 (TX8 2).2.2.1 ∈ gws := gw (mt_2 (List.mem_of_getElem? (i := 172) rfl)) rfl
theorem fl_X8_18 : Cond.fieldLink RX8 18 (TX8 3).1 (TX8 3).2.1 (TX8 3).2.2.1 ∈ gws := gw (mt_2 (List.mem_of_getElem? (i := 173) rfl)) rfl
theorem fl_X8_21 : Cond.fieldLink RX8 21 (TX8 0).1 (TX8 0).2.1 (TX8 0).2.2.1 ∈ gws := gw (mt_2 (List.mem_of_getElem? (i := 169) rfl)) rfl
theorem fl_X10_7 : Cond.fieldLink RX10 7 (TX10 2).1 (TX10 2).2.1 (TX10 2).2.2.1 ∈ gws := gw (mt_6 (List.mem_of_getElem? (i := 64) rfl)) rfl
theorem fl_X10_13 : Cond.fieldLink RX10 13 (TX10 4).1 (TX10 4).2.1 (TX10 4).2.2.1 ∈ gws := gw (mt_6 (List.mem_of_getElem? (i := 66) rfl)) rfl
theorem fl_X10_16 : Cond.fieldLink RX10 16 (TX10 5).1 (TX10 5).2.1 (TX10 5).2.2.1 ∈ gws := gw (mt_6 (List.mem_of_getElem? (i := 67) rfl)) rfl
theorem fl_X10_19 : Cond.fieldLink RX10 19 (TX10 6).1 (TX10 6).2.1 (TX10 6).2.2.1 ∈ gws := gw (mt_6 (List.mem_of_getElem? (i := 68) rfl)) rfl
theorem fl_X10_22 : Cond.fieldLink RX10 22 (TX10 7).1 (TX10 7).2.1 (TX10 7).2.2.1 ∈ gws := gw (mt_6 (List.mem_of_getElem? (i := 69) rfl)) rfl
theorem fl_X10_26 : Cond.fieldLink RX10 26 (TX10 10).1 (TX10 10).2.1 (TX10 10).2.2.1 ∈ gws := gw (mt_6 (List.mem_of_getElem? (i := 72) rfl)) rfl
theorem fl_X10_30 : Cond.fieldLink RX10 30 (TX10 15).1 (TX10 15).2.1 (TX10 15).2.2.1 ∈ gws := gw (mt_6 (List.mem_of_getElem? (i := 77) rfl)) rfl
theorem fl_X10_33 : Cond.fieldLink RX10 33 (TX10 16).1 (TX10 16).2.1 (TX10 16).2.2.1 ∈ gws := gw (mt_6 (List.mem_of_getElem? (i := 78) rfl)) rfl
theorem fl_X10_36 : Cond.fieldLink RX10 36 (TX10 17).1 (TX10 17).2.1 (TX10 17).2.2.1 ∈ gws := gw (mt_6 (List.mem_of_getElem? (i := 79) rfl)) rfl
theorem fl_X10_39 : Cond.fieldLink RX10 39 (TX10 18).1 (TX10 18).2.1 (TX10 18).2.2.1 ∈ gws := gw (mt_6 (List.mem_of_getElem? (i := 80) rfl)) rfl
theorem fl_X10_42 : Cond.fieldLink RX10 42 (TX10 19).1 (TX10 19).2.1 (TX10 19).2.2.1 ∈ gws := gw (mt_6 (List.mem_of_getElem? (i := 81) rfl)) rfl
theorem fl_X10_45 : Cond.fieldLink RX10 45 (TX10 20).1 (TX10 20).2.1 (TX10 20).2.2.1 ∈ gws := gw (mt_6 (List.mem_of_getElem? (i := 82) rfl)) rfl
theorem fl_X10_48 : Cond.fieldLink RX10 48 (TX10 21).1 (TX10 21).2.1 (TX10 21).2.2.1 ∈ gws := gw (mt_6 (List.mem_of_getElem? (i := 83) rfl)) rfl
theorem fl_X10_51 : Cond.fieldLink RX10 51 (TX10 22).1 (TX10 22).2.1 (TX10 22).2.2.1 ∈ gws := gw (mt_6 (List.mem_of_getElem? (i := 84) rfl)) rfl
theorem fl_X10_54 : Cond.fieldLink RX10 54 (TX10 23).1 (TX10 23).2.1 (TX10 23).2.2.1 ∈ gws := gw (mt_6 (List.mem_of_getElem? (i := 85) rfl)) rfl
theorem fl_X10_57 : Cond.fieldLink RX10 57 (TX10 24).1 (TX10 24).2.1 (TX10 24).2.2.1 ∈ gws := gw (mt_6 (List.mem_of_getElem? (i := 86) rfl)) rfl
theorem fl_X10_60 : Cond.fieldLink RX10 60 (TX10 25).1 (TX10 25).2.1 (TX10 25).2.2.1 ∈ gws := gw (mt_6 (List.mem_of_getElem? (i := 87) rfl)) rfl
theorem fl_X10_63 : Cond.fieldLink RX10 63 (TX10 26).1 (TX10 26).2.1 (TX10 26).2.2.1 ∈ gws := gw (mt_6 (List.mem_of_getElem? (i := 88) rfl)) rfl
theorem fl_X10_66 : Cond.fieldLink RX10 66 (TX10 27).1 (TX10 27).2.1 (TX10 27).2.2.1 ∈ gws := gw (mt_6 (List.mem_of_getElem? (i := 89) rfl)) rfl
theorem fl_X10_69 : Cond.fieldLink RX10 69 (TX10 28).1 (TX10 28).2.1 (TX10 28).2.2.1 ∈ gws := gw (mt_6 (List.mem_of_getElem? (i := 90) rfl)) rfl
theorem fl_X10_72 : Cond.fieldLink RX10 72 (TX10 29).1 (TX10 29).2.1 (TX10 29).2.2.1 ∈ gws := gw (mt_6 (List.mem_of_getElem? (i := 91) rfl)) rfl
theorem fl_X10_75 : Cond.fieldLink RX10 75 (TX10 30).1 (TX10 30).2.1 (TX10 30).2.2.1 ∈ gws := gw (mt_6 (List.mem_of_getElem? (i := 92) rfl)) rfl
theorem fl_X10_78 : Cond.fieldLink RX10 78 (TX10 31).1 (TX10 31).2.1 (TX10 31).2.2.1 ∈ gws := gw (mt_6 (List.mem_of_getElem? (i := 93) rfl)) rfl
theorem fl_X10_81 : Cond.fieldLink RX10 81 (TX10 32).1 (TX10 32).2.1 (TX10 32).2.2.1 ∈ gws := gw (mt_6 (List.mem_of_getElem? (i := 94) rfl)) rfl
theorem fl_X10_84 : Cond.fieldLink RX10 84 (TX10 33).1 (TX10 33).2.1 (TX10 33).2.2.1 ∈ gws := gw (mt_6 (List.mem_of_getElem? (i := 95) rfl)) rfl
theorem fl_X10_87 : Cond.fieldLink RX10 87 (TX10 34).1 (TX10 34).2.1 (TX10 34).2.2.1 ∈ gws := gw (mt_6 (List.mem_of_getElem? (i := 96) rfl)) rfl
theorem fl_X10_90 : Cond.fieldLink RX10 90 (TX10 35).1 (TX10 35).2.1 (TX10 35).2.2.1 ∈ gws := gw (mt_6 (List.mem_of_getElem? (i := 97) rfl)) rfl
theorem fl_X10_93 : Cond.fieldLink RX10 93 (TX10 36).1 (TX10 36).2.1 (TX10 36).2.2.1 ∈ gws := gw (mt_6 (List.mem_of_getElem? (i := 98) rfl)) rfl
theorem fl_X10_96 : Cond.fieldLink RX10 96 (TX10 37).1 (TX10 37).2.1 (TX10 37).2.2.1 ∈ gws := gw (mt_6 (List.mem_of_getElem? (i := 99) rfl)) rfl
theorem fl_X10_99 : Cond.fieldLink RX10 99 (TX10 38).1 (TX10 38).2.1 (TX10 38).2.2.1 ∈ gws := gw (mt_6 (List.mem_of_getElem? (i := 100) rfl)) rfl
theorem fl_X10_102 : Cond.fieldLink RX10 102 (TX10 39).1 (TX10 39).2.1 (TX10 39).2.2.1 ∈ gws := gw (mt_6 (List.mem_of_getElem? (i := 101) rfl)) rfl
theorem fl_X10_105 : Cond.fieldLink RX10 105 (TX10 40).1 (TX10 40).2.1 (TX10 40).2.2.1 ∈ gws := gw (mt_6 (List.mem_of_getElem? (i := 102) rfl)) rfl
theorem fl_X10_108 : Cond.fieldLink RX10 108 (TX10 41).1 (TX10 41).2.1 (TX10 41).2.2.1 ∈ gws := gw (mt_6 (List.mem_of_getElem? (i := 103) rfl)) rfl
theorem fl_X10_112 : Cond.fieldLink RX10 112 (TX10 42).1 (TX10 42).2.1 (TX10 42).2.2.1 ∈ gws := gw (mt_6 (List.mem_of_getElem? (i := 104) rfl)) rfl
theorem fl_X10_115 : Cond.fieldLink RX10 115 (TX10 43).1 (TX10 43).2.1 (TX10 43).2.2.1 ∈ gws := gw (mt_6 (List.mem_of_getElem? (i := 105) rfl)) rfl
theorem fl_X10_118 : Cond.fieldLink RX10 118 (TX10 44).1 (TX10 44).2.1 (TX10 44).2.2.1 ∈ gws := gw (mt_6 (List.mem_of_getElem? (i := 106) rfl)) rfl
theorem fl_X10_121 : Cond.fieldLink RX10 121 (TX10 45).1 (TX10 45).2.1 (TX10 45).2.2.1 ∈ gws := gw (mt_6 (List.mem_of_getElem? (i := 107) rfl)) rfl
theorem fl_X10_124 : Cond.fieldLink RX10 124 (TX10 46).1 (TX10 46).2.1 (TX10 46).2.2.1 ∈ gws := gw (mt_6 (List.mem_of_getElem? (i := 108) rfl)) rfl
theorem fl_X10_127 : Cond.fieldLink RX10 127 (TX10 47).1 (TX10 47).2.1 (TX10 47).2.2.1 ∈ gws := gw (mt_6 (List.mem_of_getElem? (i := 109) rfl)) rfl
theorem fl_X10_130 : Cond.fieldLink RX10 130 (TX10 49).1 (TX10 49).2.1 (TX10 49).2.2.1 ∈ gws := gw (mt_6 (List.mem_of_getElem? (i := 111) rfl)) rfl
theorem fl_X10_133 : Cond.fieldLink RX10 133 (TX10 51).1 (TX10 51).2.1 (TX10 51).2.2.1 ∈ gws := gw (mt_6 (List.mem_of_getElem? (i := 113) rfl)) rfl
theorem fl_X10_136 : Cond.fieldLink RX10 136 (TX10 52).1 (TX10 52).2.1 (TX10 52).2.2.1 ∈ gws := gw (mt_6 (List.mem_of_getElem? (i := 114) rfl)) rfl
theorem fl_X10_139 : Cond.fieldLink RX10 139 (TX10 55).1 (TX10 55).2.1 (TX10 55).2.2.1 ∈ gws := gw (mt_6 (List.mem_of_getElem? (i := 117) rfl)) rfl
theorem fl_X10_142 : Cond.fieldLink RX10 142 (TX10 56).1 (TX10 56).2.1 (TX10 56).2.2.1 ∈ gws := gw (mt_6 (List.mem_of_getElem? (i := 118) rfl)) rfl
theorem fl_X10_145 : Cond.fieldLink RX10 145 (TX10 57).1 (TX10 57).2.1 (TX10 57).2.2.1 ∈ gws := gw (mt_6 (List.mem_of_getElem? (i := 119) rfl)) rfl
theorem fl_X10_148 : Cond.fieldLink RX10 148 (TX10 58).1 (TX10 58).2.1 (TX10 58).2.2.1 ∈ gws := gw (mt_6 (List.mem_of_getElem? (i := 120) rfl)) rfl
theorem fl_X10_151 : Cond.fieldLink RX10 151 (TX10 61).1 (TX10 61).2.1 (TX10 61).2.2.1 ∈ gws := gw (mt_6 (List.mem_of_getElem? (i := 123) rfl)) rfl
theorem fl_X10_154 : Cond.fieldLink RX10 154 (TX10 71).1 (TX10 71).2.1 (TX10 71).2.2.1 ∈ gws := gw (mt_6 (List.mem_of_getElem? (i := 133) rfl)) rfl
theorem fl_X10_157 : Cond.fieldLink RX10 157 (TX10 77).1 (TX10 77).2.1 (TX10 77).2.2.1 ∈ gws := gw (mt_6 (List.mem_of_getElem? (i := 139) rfl)) rfl
theorem fl_X10_160 : Cond.fieldLink RX10 160 (TX10 78).1 (TX10 78).2.1 (TX10 78).2.2.1 ∈ gws := gw (mt_6 (List.mem_of_getElem? (i := 140) rfl)) rfl
theorem fl_X10_163 : Cond.fieldLink RX10 163 (TX10 79).1 (TX10 79).2.1 (TX10 79).2.2.1 ∈ gws := gw (mt_6 (List.mem_of_getElem? (i := 141) rfl)) rfl
theorem fl_X10_167 : Cond.fieldLink RX10 167 (TX10 80).1 (TX10 80).2.1 (TX10 80).2.2.1 ∈ gws := gw (mt_6 (List.mem_of_getElem? (i := 142) rfl)) rfl
theorem fl_X10_170 : Cond.fieldLink RX10 170 (TX10 81).1 (TX10 81).2.1 (TX10 81).2.2.1 ∈ gws := gw (mt_6 (List.mem_of_getElem? (i := 143) rfl)) rfl
theorem fl_X10_173 : Cond.fieldLink RX10 173 (TX10 82).1 (TX10 82).2.1 (TX10 82).2.2.1 ∈ gws := gw (mt_6 (List.mem_of_getElem? (i := 144) rfl)) rfl
theorem fl_X10_176 : Cond.fieldLink RX10 176 (TX10 83).1 (TX10 83).2.1 (TX10 83).2.2.1 ∈ gws := gw (mt_6 (List.mem_of_getElem? (i := 145) rfl)) rfl
theorem fl_X10_179 : Cond.fieldLink RX10 179 (TX10 84).1 (TX10 84).2.1 (TX10 84).2.2.1 ∈ gws := gw (mt_6 (List.mem_of_getElem? (i := 146) rfl)) rfl
theorem fl_X10_182 : Cond.fieldLink RX10 182 (TX10 85).1 (TX10 85).2.1 (TX10 85).2.2.1 ∈ gws := gw (mt_6 (List.mem_of_getElem? (i := 147) rfl)) rfl
theorem fl_X10_185 : Cond.fieldLink RX10 185 (TX10 86).1 (TX10 86).2.1 (TX10 86).2.2.1 ∈ gws := gw (mt_6 (List.mem_of_getElem? (i := 148) rfl)) rfl
theorem fl_X10_188 : Cond.fieldLink RX10 188 (TX10 87).1 (TX10 87).2.1 (TX10 87).2.2.1 ∈ gws := gw (mt_6 (List.mem_of_getElem? (i := 149) rfl)) rfl
theorem fl_X10_191 : Cond.fieldLink RX10 191 (TX10 88).1 (TX10 88).2.1 (TX10 88).2.2.1 ∈ gws := gw (mt_6 (List.mem_of_getElem? (i := 150) rfl)) rfl
theorem fl_X10_195 : Cond.fieldLink RX10 195 (TX10 89).1 (TX10 89).2.1 (TX10 89).2.2.1 ∈ gws := gw (mt_6 (List.mem_of_getElem? (i := 151) rfl)) rfl
theorem fl_X10_198 : Cond.fieldLink RX10 198 (TX10 90).1 (TX10 90).2.1 (TX10 90).2.2.1 ∈ gws := gw (mt_6 (List.mem_of_getElem? (i := 152) rfl)) rfl
theorem fl_X10_201 : Cond.fieldLink RX10 201 (TX10 91).1 (TX10 91).2.1 (TX10 91).2.2.1 ∈ gws := gw (mt_6 (List.mem_of_getElem? (i := 153) rfl)) rfl
theorem fl_X10_204 : Cond.fieldLink RX10 204 (TX10 92).1 (TX10 92).2.1 (TX10 92).2.2.1 ∈ gws := gw (mt_6 (List.mem_of_getElem? (i := 154) rfl)) rfl
theorem fl_X10_211 : Cond.fieldLink RX10 211 (TX10 0).1 (TX10 0).2.1 (TX10 0).2.2.1 ∈ gws := gw (mt_6 (List.mem_of_getElem? (i := 62) rfl)) rfl
theorem fl_X10_214 : Cond.fieldLink RX10 214 (TX10 1).1 (TX10 1).2.1 (TX10 1).2.2.1 ∈ gws := gw (mt_6 (List.mem_of_getElem? (i := 63) rfl)) rfl
theorem fl_X10_224 : Cond.fieldLink RX10 224 (TX10 3).1 (TX10 3).2.1 (TX10 3).2.2.1 ∈ gws := gw (mt_6 (List.mem_of_getElem? (i := 65) rfl)) rfl
theorem fl_X10_286 : Cond.fieldLink RX10 286 (TX10 9).1 (TX10 9).2.1 (TX10 9).2.2.1 ∈ gws := gw (mt_6 (List.mem_of_getElem? (i := 71) rfl)) rfl
theorem fl_X10_289 : Cond.fieldLink RX10 289 (TX10 8).1 (TX10 8).2.1 (TX10 8).2.2.1 ∈ gws := gw (mt_6 (List.mem_of_getElem? (i := 70) rfl)) rfl
theorem fl_X10_292 : Cond.fieldLink RX10 292 (TX10 11).1 (TX10 11).2.1 (TX10 11).2.2.1 ∈ gws := gw (mt_6 (List.mem_of_getElem? (i := 73) rfl)) rfl
theorem fl_X10_295 : Cond.fieldLink RX10 295 (TX10 12).1 (TX10 12).2.1 (TX10 12).2.2.1 ∈ gws := gw (mt_6 (List.mem_of_getElem? (i := 74) rfl)) rfl
theorem fl_X10_315 : Cond.fieldLink RX10 315 (TX10 59).1 (TX10 59).2.1 (TX10 59).2.2.1 ∈ gws := gw (mt_6 (List.mem_of_getElem? (i := 121) rfl)) rfl
theorem fl_X10_318 : Cond.fieldLink RX10 318 (TX10 14).1 (TX10 14).2.1 (TX10 14).2.2.1 ∈ gws := gw (mt_6 (List.mem_of_getElem? (i := 76) rfl)) rfl
theorem fl_X10_321 : Cond.fieldLink RX10 321 (TX10 60).1 (TX10 60).2.1 (TX10 60).2.2.1 ∈ gws := gw (mt_6 (List.mem_of_getElem? (i := 122) rfl)) rfl
theorem fl_X10_330 : Cond.fieldLink RX10 330 (TX10 62).1 (TX10 62).2.1 (TX10 62).2.2.1 ∈ gws := gw (mt_6 (List.mem_of_getElem? (i := 124) rfl)) rfl
theorem fl_X10_342 : Cond.fieldLink RX10 342 (TX10 63).1 (TX10 63).2.1 (TX10 63).2.2.1 ∈ gws := gw (mt_6 (List.mem_of_getElem? (i := 125) rfl)) rfl
theorem fl_X10_388 : Cond.fieldLink RX10 388 (TX10 13).1 (TX10 13).2.1 (TX10 13).2.2.1 ∈ gws := gw (mt_6 (List.mem_of_getElem? (i := 75) rfl)) rfl
theorem fl_X10_394 : Cond.fieldLink RX10 394 (TX10 48).1 (TX10 48).2.1 (TX10 48).2.2.1 ∈ gws := gw (mt_6 (List.mem_of_getElem? (i := 110) rfl)) rfl
theorem fl_X10_400 : Cond.fieldLink RX10 400 (TX10 50).1 (TX10 50).2.1 (TX10 50).2.2.1 ∈ gws := gw (mt_6 (List.mem_of_getElem? (i := 112) rfl)) rfl
theorem fl_X10_403 : Cond.fieldLink RX10 403 (TX10 53).1 (TX10 53).2.1 (TX10 53).2.2.1 ∈ gws := gw (mt_6 (List.mem_of_getElem? (i := 115) rfl)) rfl
theorem fl_X10_407 : Cond.fieldLink RX10 407 (TX10 54).1 (TX10 54).2.1 (TX10 54).2.2.1 ∈ gws := gw (mt_6 (List.mem_of_getElem? (i := 116) rfl)) rfl
theorem fl_X10_410 : Cond.fieldLink RX10 410 (TX10 72).1 (TX10 72).2.1 (TX10 72).2.2.1 ∈ gws := gw (mt_6 (List.mem_of_getElem? (i := 134) rfl)) rfl
theorem fl_X10_413 : Cond.fieldLink RX10 413 (TX10 73).1 (TX10 73).2.1 (TX10 73).2.2.1 ∈ gws := gw (mt_6 (List.mem_of_getElem? (i := 135) rfl)) rfl
theorem fl_X10_416 : Cond.fieldLink RX10 416 (TX10 64).1 (TX10 64).2.1 (TX10 64).2.2.1 ∈ gws := gw (mt_6 (List.mem_of_getElem? (i := 126) rfl)) rfl
theorem fl_X10_419 : Cond.fieldLink RX10 419 (TX10 65).1 (TX10 65).2.1 (TX10 65).2.2.1 ∈ gws := gw (mt_6 (List.mem_of_getElem? (i := 127) rfl)) rfl
theorem fl_X10_422 : Cond.fieldLink RX10 422 (TX10 66).1 (TX10 66).2.1 (TX10 66).2.2.1 ∈ gws := gw (mt_6 (List.mem_of_getElem? (i := 128) rfl)) rfl
theorem fl_X10_425 : Cond.fieldLink RX10 425 (TX10 67).1 (TX10 67).2.1 (TX10 67).2.2.1 ∈ gws := gw (mt_6 (List.mem_of_getElem? (i := 129) rfl)) rfl
theorem fl_X10_428 : Cond.fieldLink RX10 428 (TX10 68).1 (TX10 68).2.1 (TX10 68).2.2.1 ∈ gws := gw (mt_6 (List.mem_of_getElem? (i := 130) rfl)) rfl
theorem fl_X10_431 : Cond.fieldLink RX10 431 (TX10 69).1 (TX10 69).2.1 (TX10 69).2.2.1 ∈ gws := gw (mt_6 (List.mem_of_getElem? (i := 131) rfl)) rfl
theorem fl_X10_434 : Cond.fieldLink RX10 434 (TX10 70).1 (TX10 70).2.1 (TX10 70).2.2.1 ∈ gws := gw (mt_6 (List.mem_of_getElem? (i := 132) rfl)) rfl
theorem fl_X10_492 : Cond.fieldLink RX10 492 (TX10 74).1 (TX10 74).2.1 (TX10 74).2.2.1 ∈ gws := gw (mt_6 (List.mem_of_getElem? (i := 136) rfl)) rfl
theorem fl_X10_495 : Cond.fieldLink RX10 495 (TX10 75).1 (TX10 75).2.1 (TX10 75).2.2.1 ∈ gws := gw (mt_6 (List.mem_of_getElem? (i := 137) rfl)) rfl
theorem fl_X10_498 : Cond.fieldLink RX10 498 (TX10 76).1 (TX10 76).2.1 (TX10 76).2.2.1 ∈ gws := gw (mt_6 (List.mem_of_getElem? (i := 138) rfl)) rfl
theorem fl_J0_9 : Cond.fieldLink RJ0 9 "java/lang/String" "value" "[B" ∈ gws := gw (mt_9 (List.mem_of_getElem? (i := 128) rfl)) rfl
theorem fl_J0_15 : Cond.fieldLink RJ0 15 "java/lang/String" "coder" "B" ∈ gws := gw (mt_9 (List.mem_of_getElem? (i := 129) rfl)) rfl
theorem fl_J0_38 : Cond.fieldLink RJ0 38 "java/lang/String" "COMPACT_STRINGS" "Z" ∈ gws := gw (mt_3 (List.mem_of_getElem? (i := 44) rfl)) rfl
theorem fl_J0_1053 : Cond.fieldLink RJ0 1053 "jdk/internal/util/Preconditions" "SIOOBE_FORMATTER" "Ljava/util/function/BiFunction;" ∈ gws := gw (mt_3 (List.mem_of_getElem? (i := 60) rfl)) rfl
theorem ci_X9_152 : Cond.constant RX9 152 (1048576) ∈ gws := gw (mt_4 (List.mem_of_getElem? (i := 141) rfl)) rfl
theorem ci_X9_162 : Cond.constant RX9 162 (-1048576) ∈ gws := gw (mt_4 (List.mem_of_getElem? (i := 160) rfl)) rfl
theorem ci_X0_34 : Cond.constant RX0 34 (87318) ∈ gws := gw (mt_1 (List.mem_of_getElem? (i := 144) rfl)) rfl
theorem ci_X3_138 : Cond.constant RX3 138 (1103515245) ∈ gws := gw (mt_5 (List.mem_of_getElem? (i := 176) rfl)) rfl
theorem ci_X5_57 : Cond.constant RX5 57 (1048576) ∈ gws := gw (mt_4 (List.mem_of_getElem? (i := 114) rfl)) rfl
theorem ci_X5_112 : Cond.constant RX5 112 (-1048576) ∈ gws := gw (mt_4 (List.mem_of_getElem? (i := 155) rfl)) rfl
theorem ci_X10_166 : Cond.constant RX10 166 (311850) ∈ gws := gw (mt_6 (List.mem_of_getElem? (i := 56) rfl)) rfl
theorem ci_X10_194 : Cond.constant RX10 194 (51975) ∈ gws := gw (mt_6 (List.mem_of_getElem? (i := 57) rfl)) rfl
theorem ci_X10_581 : Cond.constant RX10 581 (1103515245) ∈ gws := gw (mt_9 (List.mem_of_getElem? (i := 110) rfl)) rfl
theorem cl_X9_222 : Cond.constantLong RX9 222 (-1) ∈ gws := gw (mt_5 (List.mem_of_getElem? (i := 100) rfl)) rfl
theorem cl_X7_61 : Cond.constantLong RX7 61 (27) ∈ gws := gw (mt_3 (List.mem_of_getElem? (i := 29) rfl)) rfl
theorem cl_X7_63 : Cond.constantLong RX7 63 (97) ∈ gws := gw (mt_3 (List.mem_of_getElem? (i := 30) rfl)) rfl
theorem cl_X7_80 : Cond.constantLong RX7 80 (10) ∈ gws := gw (mt_3 (List.mem_of_getElem? (i := 91) rfl)) rfl
theorem cl_X7_82 : Cond.constantLong RX7 82 (48) ∈ gws := gw (mt_3 (List.mem_of_getElem? (i := 92) rfl)) rfl
theorem cl_X10_227 : Cond.constantLong RX10 227 (365666) ∈ gws := gw (mt_7 (List.mem_of_getElem? (i := 144) rfl)) rfl
theorem cl_X10_229 : Cond.constantLong RX10 229 (459383) ∈ gws := gw (mt_7 (List.mem_of_getElem? (i := 145) rfl)) rfl
theorem cl_X10_231 : Cond.constantLong RX10 231 (119360) ∈ gws := gw (mt_7 (List.mem_of_getElem? (i := 146) rfl)) rfl
theorem cl_X10_233 : Cond.constantLong RX10 233 (10557034) ∈ gws := gw (mt_7 (List.mem_of_getElem? (i := 147) rfl)) rfl
theorem cl_X10_235 : Cond.constantLong RX10 235 (239882) ∈ gws := gw (mt_7 (List.mem_of_getElem? (i := 148) rfl)) rfl
theorem cl_X10_237 : Cond.constantLong RX10 237 (830) ∈ gws := gw (mt_7 (List.mem_of_getElem? (i := 149) rfl)) rfl
theorem cl_X10_239 : Cond.constantLong RX10 239 (4147840) ∈ gws := gw (mt_7 (List.mem_of_getElem? (i := 150) rfl)) rfl
theorem cl_X10_241 : Cond.constantLong RX10 241 (261064536) ∈ gws := gw (mt_7 (List.mem_of_getElem? (i := 151) rfl)) rfl
theorem cl_X10_243 : Cond.constantLong RX10 243 (249) ∈ gws := gw (mt_7 (List.mem_of_getElem? (i := 152) rfl)) rfl
theorem cl_X10_245 : Cond.constantLong RX10 245 (123) ∈ gws := gw (mt_7 (List.mem_of_getElem? (i := 153) rfl)) rfl
theorem cl_X10_247 : Cond.constantLong RX10 247 (10631) ∈ gws := gw (mt_7 (List.mem_of_getElem? (i := 154) rfl)) rfl
theorem cl_X10_249 : Cond.constantLong RX10 249 (1111) ∈ gws := gw (mt_7 (List.mem_of_getElem? (i := 155) rfl)) rfl
theorem cl_X10_251 : Cond.constantLong RX10 251 (423) ∈ gws := gw (mt_7 (List.mem_of_getElem? (i := 156) rfl)) rfl
theorem cl_X10_253 : Cond.constantLong RX10 253 (47) ∈ gws := gw (mt_7 (List.mem_of_getElem? (i := 157) rfl)) rfl
theorem cl_X10_255 : Cond.constantLong RX10 255 (330758) ∈ gws := gw (mt_7 (List.mem_of_getElem? (i := 158) rfl)) rfl
theorem cl_X10_257 : Cond.constantLong RX10 257 (153623) ∈ gws := gw (mt_7 (List.mem_of_getElem? (i := 159) rfl)) rfl
theorem cl_X10_259 : Cond.constantLong RX10 259 (326192) ∈ gws := gw (mt_7 (List.mem_of_getElem? (i := 160) rfl)) rfl
theorem cl_X10_265 : Cond.constantLong RX10 265 (27) ∈ gws := gw (mt_7 (List.mem_of_getElem? (i := 139) rfl)) rfl
theorem cl_X10_267 : Cond.constantLong RX10 267 (96) ∈ gws := gw (mt_7 (List.mem_of_getElem? (i := 140) rfl)) rfl
theorem cl_X10_573 : Cond.constantLong RX10 573 (-1) ∈ gws := gw (mt_9 (List.mem_of_getElem? (i := 55) rfl)) rfl
theorem wc_X9_arrives : Cond.code yX9_arrives cX9_arrives 2 (some .int) ∈ gws := gw (mt_5 (List.mem_of_getElem? (i := 87) rfl)) rfl
theorem wi_X9_arrives : Cond.instanceMethod yX9_arrives ∈ gws := gw (mt_5 (List.mem_of_getElem? (i := 85) rfl)) rfl
theorem wl_X9_arrives : Cond.selects yX9_arrives.cls yX9_arrives yX9_arrives ∈ gws := gw (mt_5 (List.mem_of_getElem? (i := 86) rfl)) rfl
theorem wc_X9_back : Cond.code yX9_back cX9_back 2 (some .int) ∈ gws := gw (mt_2 (List.mem_of_getElem? (i := 234) rfl)) rfl
theorem wi_X9_back : Cond.instanceMethod yX9_back ∈ gws := gw (mt_2 (List.mem_of_getElem? (i := 232) rfl)) rfl
theorem wl_X9_back : Cond.selects yX9_back.cls yX9_back yX9_back ∈ gws := gw (mt_2 (List.mem_of_getElem? (i := 233) rfl)) rfl
theorem wc_X9_beat : Cond.code yX9_beat cX9_beat 5 (some .int) ∈ gws := gw (mt_5 (List.mem_of_getElem? (i := 202) rfl)) rfl
theorem wi_X9_beat : Cond.instanceMethod yX9_beat ∈ gws := gw (mt_5 (List.mem_of_getElem? (i := 200) rfl)) rfl
theorem wl_X9_beat : Cond.selects yX9_beat.cls yX9_beat yX9_beat ∈ gws := gw (mt_5 (List.mem_of_getElem? (i := 201) rfl)) rfl
theorem wc_X9_blame : Cond.code yX9_blame cX9_blame 3 (some .int) ∈ gws := gw (mt_5 (List.mem_of_getElem? (i := 157) rfl)) rfl
theorem wi_X9_blame : Cond.instanceMethod yX9_blame ∈ gws := gw (mt_5 (List.mem_of_getElem? (i := 155) rfl)) rfl
theorem wl_X9_blame : Cond.selects yX9_blame.cls yX9_blame yX9_blame ∈ gws := gw (mt_5 (List.mem_of_getElem? (i := 156) rfl)) rfl
theorem wc_X9_blind : Cond.code yX9_blind cX9_blind 3 (some .int) ∈ gws := gw (mt_5 (List.mem_of_getElem? (i := 16) rfl)) rfl
theorem wi_X9_blind : Cond.instanceMethod yX9_blind ∈ gws := gw (mt_5 (List.mem_of_getElem? (i := 14) rfl)) rfl
theorem wl_X9_blind : Cond.selects yX9_blind.cls yX9_blind yX9_blind ∈ gws := gw (mt_5 (List.mem_of_getElem? (i := 15) rfl)) rfl
theorem wc_X9_blindAct : Cond.code yX9_blindAct cX9_blindAct 4 (some .int) ∈ gws := gw (mt_5 (List.mem_of_getElem? (i := 35) rfl)) rfl
theorem wi_X9_blindAct : Cond.instanceMethod yX9_blindAct ∈ gws := gw (mt_5 (List.mem_of_getElem? (i := 33) rfl)) rfl
theorem wl_X9_blindAct : Cond.selects yX9_blindAct.cls yX9_blindAct yX9_blindAct ∈ gws := gw (mt_5 (List.mem_of_getElem? (i := 34) rfl)) rfl
theorem wc_X9_borne : Cond.code yX9_borne cX9_borne 2 (some .int) ∈ gws := gw (mt_4 (List.mem_of_getElem? (i := 193) rfl)) rfl
theorem wi_X9_borne : Cond.instanceMethod yX9_borne ∈ gws := gw (mt_4 (List.mem_of_getElem? (i := 191) rfl)) rfl
theorem wl_X9_borne : Cond.selects yX9_borne.cls yX9_borne yX9_borne ∈ gws := gw (mt_4 (List.mem_of_getElem? (i := 192) rfl)) rfl
theorem wc_X9_can : Cond.code yX9_can cX9_can 3 (some .int) ∈ gws := gw (mt_4 (List.mem_of_getElem? (i := 21) rfl)) rfl
theorem wi_X9_can : Cond.instanceMethod yX9_can ∈ gws := gw (mt_4 (List.mem_of_getElem? (i := 19) rfl)) rfl
theorem wl_X9_can : Cond.selects yX9_can.cls yX9_can yX9_can ∈ gws := gw (mt_4 (List.mem_of_getElem? (i := 20) rfl)) rfl
theorem wc_X9_clear : Cond.code yX9_clear cX9_clear 1 (none) ∈ gws := gw (mt_4 (List.mem_of_getElem? (i := 222) rfl)) rfl
theorem wi_X9_clear : Cond.instanceMethod yX9_clear ∈ gws := gw (mt_4 (List.mem_of_getElem? (i := 220) rfl)) rfl
theorem wl_X9_clear : Cond.selects yX9_clear.cls yX9_clear yX9_clear ∈ gws := gw (mt_4 (List.mem_of_getElem? (i := 221) rfl)) rfl
theorem wc_X9_compare : Cond.code yX9_compare cX9_compare 7 (some .int) ∈ gws := gw (mt_5 (List.mem_of_getElem? (i := 185) rfl)) rfl
theorem wi_X9_compare : Cond.instanceMethod yX9_compare ∈ gws := gw (mt_5 (List.mem_of_getElem? (i := 183) rfl)) rfl
theorem wl_X9_compare : Cond.selects yX9_compare.cls yX9_compare yX9_compare ∈ gws := gw (mt_5 (List.mem_of_getElem? (i := 184) rfl)) rfl
theorem wc_X9_count : Cond.code yX9_count cX9_count 2 (some .int) ∈ gws := gw (mt_5 (List.mem_of_getElem? (i := 189) rfl)) rfl
theorem wi_X9_count : Cond.instanceMethod yX9_count ∈ gws := gw (mt_5 (List.mem_of_getElem? (i := 187) rfl)) rfl
theorem wl_X9_count : Cond.selects yX9_count.cls yX9_count yX9_count ∈ gws := gw (mt_5 (List.mem_of_getElem? (i := 188) rfl)) rfl
theorem wc_X9_doom : Cond.code yX9_doom cX9_doom 1 (some .int) ∈ gws := gw (mt_4 (List.mem_of_getElem? (i := 185) rfl)) rfl
theorem wi_X9_doom : Cond.instanceMethod yX9_doom ∈ gws := gw (mt_4 (List.mem_of_getElem? (i := 183) rfl)) rfl
theorem wl_X9_doom : Cond.selects yX9_doom.cls yX9_doom yX9_doom ∈ gws := gw (mt_4 (List.mem_of_getElem? (i := 184) rfl)) rfl
theorem wc_X9_drill : Cond.code yX9_drill cX9_drill 9 (some .int) ∈ gws := gw (mt_5 (List.mem_of_getElem? (i := 165) rfl)) rfl
theorem wi_X9_drill : Cond.instanceMethod yX9_drill ∈ gws := gw (mt_5 (List.mem_of_getElem? (i := 163) rfl)) rfl
theorem wl_X9_drill : Cond.selects yX9_drill.cls yX9_drill yX9_drill ∈ gws := gw (mt_5 (List.mem_of_getElem? (i := 164) rfl)) rfl
theorem wc_X9_edge : Cond.code yX9_edge cX9_edge 6 (some .int) ∈ gws := gw (mt_4 (List.mem_of_getElem? (i := 180) rfl)) rfl
theorem wi_X9_edge : Cond.instanceMethod yX9_edge ∈ gws := gw (mt_4 (List.mem_of_getElem? (i := 178) rfl)) rfl
theorem wl_X9_edge : Cond.selects yX9_edge.cls yX9_edge yX9_edge ∈ gws := gw (mt_4 (List.mem_of_getElem? (i := 179) rfl)) rfl
theorem wc_X9_fate : Cond.code yX9_fate cX9_fate 3 (some .int) ∈ gws := gw (mt_4 (List.mem_of_getElem? (i := 108) rfl)) rfl
theorem wi_X9_fate : Cond.instanceMethod yX9_fate ∈ gws := gw (mt_4 (List.mem_of_getElem? (i := 106) rfl)) rfl
theorem wl_X9_fate : Cond.selects yX9_fate.cls yX9_fate yX9_fate ∈ gws := gw (mt_4 (List.mem_of_getElem? (i := 107) rfl)) rfl
theorem wc_X9_feed : Cond.code yX9_feed cX9_feed 6 (some .int) ∈ gws := gw (mt_2 (List.mem_of_getElem? (i := 226) rfl)) rfl
theorem wi_X9_feed : Cond.instanceMethod yX9_feed ∈ gws := gw (mt_2 (List.mem_of_getElem? (i := 224) rfl)) rfl
theorem wl_X9_feed : Cond.selects yX9_feed.cls yX9_feed yX9_feed ∈ gws := gw (mt_2 (List.mem_of_getElem? (i := 225) rfl)) rfl
theorem wc_X9_forecast : Cond.code yX9_forecast cX9_forecast 2 (some .int) ∈ gws := gw (mt_4 (List.mem_of_getElem? (i := 214) rfl)) rfl
theorem wi_X9_forecast : Cond.instanceMethod yX9_forecast ∈ gws := gw (mt_4 (List.mem_of_getElem? (i := 212) rfl)) rfl
theorem wl_X9_forecast : Cond.selects yX9_forecast.cls yX9_forecast yX9_forecast ∈ gws := gw (mt_4 (List.mem_of_getElem? (i := 213) rfl)) rfl
theorem wc_X9_forget : Cond.code yX9_forget cX9_forget 1 (some .int) ∈ gws := gw (mt_5 (List.mem_of_getElem? (i := 129) rfl)) rfl
theorem wi_X9_forget : Cond.instanceMethod yX9_forget ∈ gws := gw (mt_5 (List.mem_of_getElem? (i := 127) rfl)) rfl
theorem wl_X9_forget : Cond.selects yX9_forget.cls yX9_forget yX9_forget ∈ gws := gw (mt_5 (List.mem_of_getElem? (i := 128) rfl)) rfl
theorem wc_X9_gust : Cond.code yX9_gust cX9_gust 3 (some .int) ∈ gws := gw (mt_4 (List.mem_of_getElem? (i := 72) rfl)) rfl
theorem wi_X9_gust : Cond.instanceMethod yX9_gust ∈ gws := gw (mt_4 (List.mem_of_getElem? (i := 70) rfl)) rfl
theorem wl_X9_gust : Cond.selects yX9_gust.cls yX9_gust yX9_gust ∈ gws := gw (mt_4 (List.mem_of_getElem? (i := 71) rfl)) rfl
theorem wc_X9_hold : Cond.code yX9_hold cX9_hold 5 (some .int) ∈ gws := gw (mt_5 (List.mem_of_getElem? (i := 181) rfl)) rfl
theorem wi_X9_hold : Cond.instanceMethod yX9_hold ∈ gws := gw (mt_5 (List.mem_of_getElem? (i := 179) rfl)) rfl
theorem wl_X9_hold : Cond.selects yX9_hold.cls yX9_hold yX9_hold ∈ gws := gw (mt_5 (List.mem_of_getElem? (i := 180) rfl)) rfl
theorem wc_X9_isForecast : Cond.code yX9_isForecast cX9_isForecast 1 (some .boolean) ∈ gws := gw (mt_4 (List.mem_of_getElem? (i := 87) rfl)) rfl
theorem wt_X9_isForecast : Cond.static yX9_isForecast ∈ gws := gw (mt_4 (List.mem_of_getElem? (i := 86) rfl)) rfl
theorem wc_X9_keep : Cond.code yX9_keep cX9_keep 2 (some .int) ∈ gws := gw (mt_4 (List.mem_of_getElem? (i := 145) rfl)) rfl
theorem wi_X9_keep : Cond.instanceMethod yX9_keep ∈ gws := gw (mt_4 (List.mem_of_getElem? (i := 143) rfl)) rfl
theorem wl_X9_keep : Cond.selects yX9_keep.cls yX9_keep yX9_keep ∈ gws := gw (mt_4 (List.mem_of_getElem? (i := 144) rfl)) rfl
theorem wc_X9_known : Cond.code yX9_known cX9_known 2 (some .int) ∈ gws := gw (mt_4 (List.mem_of_getElem? (i := 226) rfl)) rfl
theorem wi_X9_known : Cond.instanceMethod yX9_known ∈ gws := gw (mt_4 (List.mem_of_getElem? (i := 224) rfl)) rfl
theorem wl_X9_known : Cond.selects yX9_known.cls yX9_known yX9_known ∈ gws := gw (mt_4 (List.mem_of_getElem? (i := 225) rfl)) rfl
theorem wc_X9_knownAct : Cond.code yX9_knownAct cX9_knownAct 3 (some .int) ∈ gws := gw (mt_5 (List.mem_of_getElem? (i := 8) rfl)) rfl
theorem wi_X9_knownAct : Cond.instanceMethod yX9_knownAct ∈ gws := gw (mt_5 (List.mem_of_getElem? (i := 6) rfl)) rfl
theorem wl_X9_knownAct : Cond.selects yX9_knownAct.cls yX9_knownAct yX9_knownAct ∈ gws := gw (mt_5 (List.mem_of_getElem? (i := 7) rfl)) rfl
theorem wc_X9_lead : Cond.code yX9_lead cX9_lead 2 (some .int) ∈ gws := gw (mt_4 (List.mem_of_getElem? (i := 164) rfl)) rfl
theorem wi_X9_lead : Cond.instanceMethod yX9_lead ∈ gws := gw (mt_4 (List.mem_of_getElem? (i := 162) rfl)) rfl
theorem wl_X9_lead : Cond.selects yX9_lead.cls yX9_lead yX9_lead ∈ gws := gw (mt_4 (List.mem_of_getElem? (i := 163) rfl)) rfl
theorem wc_X9_learn : Cond.code yX9_learn cX9_learn 2 (some .int) ∈ gws := gw (mt_5 (List.mem_of_getElem? (i := 115) rfl)) rfl
theorem wi_X9_learn : Cond.instanceMethod yX9_learn ∈ gws := gw (mt_5 (List.mem_of_getElem? (i := 113) rfl)) rfl
theorem wl_X9_learn : Cond.selects yX9_learn.cls yX9_learn yX9_learn ∈ gws := gw (mt_5 (List.mem_of_getElem? (i := 114) rfl)) rfl
theorem wc_X9_learned : Cond.code yX9_learned cX9_learned 2 (some .int) ∈ gws := gw (mt_5 (List.mem_of_getElem? (i := 125) rfl)) rfl
theorem wi_X9_learned : Cond.instanceMethod yX9_learned ∈ gws := gw (mt_5 (List.mem_of_getElem? (i := 123) rfl)) rfl
theorem wl_X9_learned : Cond.selects yX9_learned.cls yX9_learned yX9_learned ∈ gws := gw (mt_5 (List.mem_of_getElem? (i := 124) rfl)) rfl
theorem wc_X9_next : Cond.code yX9_next cX9_next 4 (some .int) ∈ gws := gw (mt_4 (List.mem_of_getElem? (i := 84) rfl)) rfl
theorem wi_X9_next : Cond.instanceMethod yX9_next ∈ gws := gw (mt_4 (List.mem_of_getElem? (i := 82) rfl)) rfl
theorem wl_X9_next : Cond.selects yX9_next.cls yX9_next yX9_next ∈ gws := gw (mt_4 (List.mem_of_getElem? (i := 83) rfl)) rfl
theorem wc_X9_odds : Cond.code yX9_odds cX9_odds 4 (some .long) ∈ gws := gw (mt_5 (List.mem_of_getElem? (i := 99) rfl)) rfl
theorem wi_X9_odds : Cond.instanceMethod yX9_odds ∈ gws := gw (mt_5 (List.mem_of_getElem? (i := 97) rfl)) rfl
theorem wl_X9_odds : Cond.selects yX9_odds.cls yX9_odds yX9_odds ∈ gws := gw (mt_5 (List.mem_of_getElem? (i := 98) rfl)) rfl
theorem wc_X9_place : Cond.code yX9_place cX9_place 1 (some .int) ∈ gws := gw (mt_4 (List.mem_of_getElem? (i := 5) rfl)) rfl
theorem wi_X9_place : Cond.instanceMethod yX9_place ∈ gws := gw (mt_4 (List.mem_of_getElem? (i := 3) rfl)) rfl
theorem wl_X9_place : Cond.selects yX9_place.cls yX9_place yX9_place ∈ gws := gw (mt_4 (List.mem_of_getElem? (i := 4) rfl)) rfl
theorem wc_X9_pole : Cond.code yX9_pole cX9_pole 2 (some .boolean) ∈ gws := gw (mt_4 (List.mem_of_getElem? (i := 9) rfl)) rfl
theorem wi_X9_pole : Cond.instanceMethod yX9_pole ∈ gws := gw (mt_4 (List.mem_of_getElem? (i := 7) rfl)) rfl
theorem wl_X9_pole : Cond.selects yX9_pole.cls yX9_pole yX9_pole ∈ gws := gw (mt_4 (List.mem_of_getElem? (i := 8) rfl)) rfl
theorem wc_X9_poles : Cond.code yX9_poles cX9_poles 2 (some .int) ∈ gws := gw (mt_4 (List.mem_of_getElem? (i := 205) rfl)) rfl
theorem wi_X9_poles : Cond.instanceMethod yX9_poles ∈ gws := gw (mt_4 (List.mem_of_getElem? (i := 203) rfl)) rfl
theorem wl_X9_poles : Cond.selects yX9_poles.cls yX9_poles yX9_poles ∈ gws := gw (mt_4 (List.mem_of_getElem? (i := 204) rfl)) rfl
theorem wc_X9_proof : Cond.code yX9_proof cX9_proof 2 (some .int) ∈ gws := gw (mt_5 (List.mem_of_getElem? (i := 52) rfl)) rfl
theorem wi_X9_proof : Cond.instanceMethod yX9_proof ∈ gws := gw (mt_5 (List.mem_of_getElem? (i := 50) rfl)) rfl
theorem wl_X9_proof : Cond.selects yX9_proof.cls yX9_proof yX9_proof ∈ gws := gw (mt_5 (List.mem_of_getElem? (i := 51) rfl)) rfl
theorem wc_X9_reach : Cond.code yX9_reach cX9_reach 3 (some .int) ∈ gws := gw (mt_4 (List.mem_of_getElem? (i := 149) rfl)) rfl
theorem wi_X9_reach : Cond.instanceMethod yX9_reach ∈ gws := gw (mt_4 (List.mem_of_getElem? (i := 147) rfl)) rfl
theorem wl_X9_reach : Cond.selects yX9_reach.cls yX9_reach yX9_reach ∈ gws := gw (mt_4 (List.mem_of_getElem? (i := 148) rfl)) rfl
theorem wc_X9_read : Cond.code yX9_read cX9_read 3 (some .int) ∈ gws := gw (mt_2 (List.mem_of_getElem? (i := 238) rfl)) rfl
theorem wi_X9_read : Cond.instanceMethod yX9_read ∈ gws := gw (mt_2 (List.mem_of_getElem? (i := 236) rfl)) rfl
theorem wl_X9_read : Cond.selects yX9_read.cls yX9_read yX9_read ∈ gws := gw (mt_2 (List.mem_of_getElem? (i := 237) rfl)) rfl
theorem wc_X9_reflex : Cond.code yX9_reflex cX9_reflex 2 (some .int) ∈ gws := gw (mt_5 (List.mem_of_getElem? (i := 39) rfl)) rfl
theorem wi_X9_reflex : Cond.instanceMethod yX9_reflex ∈ gws := gw (mt_5 (List.mem_of_getElem? (i := 37) rfl)) rfl
theorem wl_X9_reflex : Cond.selects yX9_reflex.cls yX9_reflex yX9_reflex ∈ gws := gw (mt_5 (List.mem_of_getElem? (i := 38) rfl)) rfl
theorem wc_X9_safe : Cond.code yX9_safe cX9_safe 2 (some .int) ∈ gws := gw (mt_4 (List.mem_of_getElem? (i := 168) rfl)) rfl
theorem wi_X9_safe : Cond.instanceMethod yX9_safe ∈ gws := gw (mt_4 (List.mem_of_getElem? (i := 166) rfl)) rfl
theorem wl_X9_safe : Cond.selects yX9_safe.cls yX9_safe yX9_safe ∈ gws := gw (mt_4 (List.mem_of_getElem? (i := 167) rfl)) rfl
theorem wc_X9_settle : Cond.code yX9_settle cX9_settle 2 (none) ∈ gws := gw (mt_3 (List.mem_of_getElem? (i := 220) rfl)) rfl
theorem wi_X9_settle : Cond.instanceMethod yX9_settle ∈ gws := gw (mt_3 (List.mem_of_getElem? (i := 219) rfl)) rfl
theorem wl_X9_settle : Cond.selects yX9_settle.cls yX9_settle yX9_settle ∈ gws := gw (List.mem_append_left _ (List.mem_of_getElem? (i := 28) rfl)) rfl
theorem wc_X9_stand : Cond.code yX9_stand cX9_stand 2 (some .boolean) ∈ gws := gw (mt_5 (List.mem_of_getElem? (i := 133) rfl)) rfl
theorem wi_X9_stand : Cond.instanceMethod yX9_stand ∈ gws := gw (mt_5 (List.mem_of_getElem? (i := 131) rfl)) rfl
theorem wl_X9_stand : Cond.selects yX9_stand.cls yX9_stand yX9_stand ∈ gws := gw (mt_5 (List.mem_of_getElem? (i := 132) rfl)) rfl
theorem wc_X9_state : Cond.code yX9_state cX9_state 4 (some .int) ∈ gws := gw (mt_4 (List.mem_of_getElem? (i := 13) rfl)) rfl
theorem wi_X9_state : Cond.instanceMethod yX9_state ∈ gws := gw (mt_4 (List.mem_of_getElem? (i := 11) rfl)) rfl
theorem wl_X9_state : Cond.selects yX9_state.cls yX9_state yX9_state ∈ gws := gw (mt_4 (List.mem_of_getElem? (i := 12) rfl)) rfl
theorem wc_X9_tapeWord : Cond.code yX9_tapeWord cX9_tapeWord 3 (none) ∈ gws := gw (mt_2 (List.mem_of_getElem? (i := 230) rfl)) rfl
theorem wi_X9_tapeWord : Cond.instanceMethod yX9_tapeWord ∈ gws := gw (mt_2 (List.mem_of_getElem? (i := 229) rfl)) rfl
theorem wl_X9_tapeWord : Cond.selects yX9_tapeWord.cls yX9_tapeWord yX9_tapeWord ∈ gws := gw (List.mem_append_left _ (List.mem_of_getElem? (i := 0) rfl)) rfl
theorem wc_X9_undo : Cond.code yX9_undo cX9_undo 1 (some .boolean) ∈ gws := gw (mt_5 (List.mem_of_getElem? (i := 141) rfl)) rfl
theorem wi_X9_undo : Cond.instanceMethod yX9_undo ∈ gws := gw (mt_5 (List.mem_of_getElem? (i := 139) rfl)) rfl
theorem wl_X9_undo : Cond.selects yX9_undo.cls yX9_undo yX9_undo ∈ gws := gw (mt_5 (List.mem_of_getElem? (i := 140) rfl)) rfl
theorem wc_X9_walked : Cond.code yX9_walked cX9_walked 3 (some .int) ∈ gws := gw (mt_5 (List.mem_of_getElem? (i := 149) rfl)) rfl
theorem wi_X9_walked : Cond.instanceMethod yX9_walked ∈ gws := gw (mt_5 (List.mem_of_getElem? (i := 147) rfl)) rfl
theorem wl_X9_walked : Cond.selects yX9_walked.cls yX9_walked yX9_walked ∈ gws := gw (mt_5 (List.mem_of_getElem? (i := 148) rfl)) rfl
theorem wc_X9_witness : Cond.code yX9_witness cX9_witness 3 (some .int) ∈ gws := gw (mt_5 (List.mem_of_getElem? (i := 78) rfl)) rfl
theorem wi_X9_witness : Cond.instanceMethod yX9_witness ∈ gws := gw (mt_5 (List.mem_of_getElem? (i := 76) rfl)) rfl
theorem wl_X9_witness : Cond.selects yX9_witness.cls yX9_witness yX9_witness ∈ gws := gw (mt_5 (List.mem_of_getElem? (i := 77) rfl)) rfl
theorem wc_X0_after : Cond.code yX0_after cX0_after 10 (some .int) ∈ gws := gw (mt_4 (List.mem_of_getElem? (i := 91) rfl)) rfl
theorem wi_X0_after : Cond.instanceMethod yX0_after ∈ gws := gw (mt_4 (List.mem_of_getElem? (i := 89) rfl)) rfl
theorem wl_X0_after : Cond.selects yX0_after.cls yX0_after yX0_after ∈ gws := gw (mt_4 (List.mem_of_getElem? (i := 90) rfl)) rfl
theorem wc_X0_allows : Cond.code yX0_allows cX0_allows 3 (some .boolean) ∈ gws := gw (mt_4 (List.mem_of_getElem? (i := 43) rfl)) rfl
theorem wi_X0_allows : Cond.instanceMethod yX0_allows ∈ gws := gw (mt_4 (List.mem_of_getElem? (i := 41) rfl)) rfl
theorem wl_X0_allows : Cond.selects yX0_allows.cls yX0_allows yX0_allows ∈ gws := gw (mt_4 (List.mem_of_getElem? (i := 42) rfl)) rfl
theorem wc_X0_draw : Cond.code yX0_draw cX0_draw 4 (some .int) ∈ gws := gw (mt_5 (List.mem_of_getElem? (i := 47) rfl)) rfl
theorem wi_X0_draw : Cond.instanceMethod yX0_draw ∈ gws := gw (mt_5 (List.mem_of_getElem? (i := 45) rfl)) rfl
theorem wl_X0_draw : Cond.selects yX0_draw.cls yX0_draw yX0_draw ∈ gws := gw (mt_5 (List.mem_of_getElem? (i := 46) rfl)) rfl
theorem wc_X0_firstOf : Cond.code yX0_firstOf cX0_firstOf 2 (some .int) ∈ gws := gw (mt_4 (List.mem_of_getElem? (i := 125) rfl)) rfl
theorem wt_X0_firstOf : Cond.static yX0_firstOf ∈ gws := gw (mt_4 (List.mem_of_getElem? (i := 124) rfl)) rfl
theorem wc_X0_greatest : Cond.code yX0_greatest cX0_greatest 2 (some .int) ∈ gws := gw (mt_4 (List.mem_of_getElem? (i := 76) rfl)) rfl
theorem wi_X0_greatest : Cond.instanceMethod yX0_greatest ∈ gws := gw (mt_4 (List.mem_of_getElem? (i := 74) rfl)) rfl
theorem wl_X0_greatest : Cond.selects yX0_greatest.cls yX0_greatest yX0_greatest ∈ gws := gw (mt_4 (List.mem_of_getElem? (i := 75) rfl)) rfl
theorem wc_X0_leap : Cond.code yX0_leap cX0_leap 9 (some .int) ∈ gws := gw (mt_4 (List.mem_of_getElem? (i := 95) rfl)) rfl
theorem wi_X0_leap : Cond.instanceMethod yX0_leap ∈ gws := gw (mt_4 (List.mem_of_getElem? (i := 94) rfl)) rfl
theorem wl_X0_leap : Cond.selects yX0_leap.cls yX0_leap yX0_leap ∈ gws := gw (List.mem_append_left _ (List.mem_of_getElem? (i := 31) rfl)) rfl
theorem wc_X0_least : Cond.code yX0_least cX0_least 2 (some .int) ∈ gws := gw (mt_4 (List.mem_of_getElem? (i := 80) rfl)) rfl
theorem wi_X0_least : Cond.instanceMethod yX0_least ∈ gws := gw (mt_4 (List.mem_of_getElem? (i := 78) rfl)) rfl
theorem wl_X0_least : Cond.selects yX0_least.cls yX0_least yX0_least ∈ gws := gw (mt_4 (List.mem_of_getElem? (i := 79) rfl)) rfl
theorem wc_X0_mask : Cond.code yX0_mask cX0_mask 2 (some .int) ∈ gws := gw (mt_4 (List.mem_of_getElem? (i := 122) rfl)) rfl
theorem wi_X0_mask : Cond.instanceMethod yX0_mask ∈ gws := gw (mt_4 (List.mem_of_getElem? (i := 120) rfl)) rfl
theorem wl_X0_mask : Cond.selects yX0_mask.cls yX0_mask yX0_mask ∈ gws := gw (mt_4 (List.mem_of_getElem? (i := 121) rfl)) rfl
theorem wc_X0_settle : Cond.code yX0_settle cX0_settle 3 (none) ∈ gws := gw (mt_3 (List.mem_of_getElem? (i := 224) rfl)) rfl
theorem wi_X0_settle : Cond.instanceMethod yX0_settle ∈ gws := gw (mt_3 (List.mem_of_getElem? (i := 222) rfl)) rfl
theorem wl_X0_settle : Cond.selects yX0_settle.cls yX0_settle yX0_settle ∈ gws := gw (mt_3 (List.mem_of_getElem? (i := 223) rfl)) rfl
theorem wc_X0_survey : Cond.code yX0_survey cX0_survey 5 (none) ∈ gws := gw (mt_4 (List.mem_of_getElem? (i := 47) rfl)) rfl
theorem wi_X0_survey : Cond.instanceMethod yX0_survey ∈ gws := gw (mt_4 (List.mem_of_getElem? (i := 46) rfl)) rfl
theorem wl_X0_survey : Cond.selects yX0_survey.cls yX0_survey yX0_survey ∈ gws := gw (List.mem_append_left _ (List.mem_of_getElem? (i := 29) rfl)) rfl
theorem wc_X1_binding : Cond.code yX1_binding cX1_binding 1 (some .int) ∈ gws := gw (mt_3 (List.mem_of_getElem? (i := 163) rfl)) rfl
theorem wt_X1_binding : Cond.static yX1_binding ∈ gws := gw (mt_3 (List.mem_of_getElem? (i := 162) rfl)) rfl
theorem wc_X1_condition : Cond.code yX1_condition cX1_condition 3 (some .boolean) ∈ gws := gw (mt_3 (List.mem_of_getElem? (i := 179) rfl)) rfl
theorem wi_X1_condition : Cond.instanceMethod yX1_condition ∈ gws := gw (mt_3 (List.mem_of_getElem? (i := 178) rfl)) rfl
theorem wl_X1_condition : Cond.selects yX1_condition.cls yX1_condition yX1_condition ∈ gws := gw (List.mem_append_left _ (List.mem_of_getElem? (i := 24) rfl)) rfl
theorem wc_X1_defer : Cond.code yX1_defer cX1_defer 2 (none) ∈ gws := gw (mt_3 (List.mem_of_getElem? (i := 156) rfl)) rfl
theorem wi_X1_defer : Cond.instanceMethod yX1_defer ∈ gws := gw (mt_3 (List.mem_of_getElem? (i := 155) rfl)) rfl
theorem wl_X1_defer : Cond.selects yX1_defer.cls yX1_defer yX1_defer ∈ gws := gw (List.mem_append_left _ (List.mem_of_getElem? (i := 20) rfl)) rfl
theorem wc_X1_emitUnit : Cond.code yX1_emitUnit cX1_emitUnit 2 (none) ∈ gws := gw (mt_3 (List.mem_of_getElem? (i := 148) rfl)) rfl
theorem wi_X1_emitUnit : Cond.instanceMethod yX1_emitUnit ∈ gws := gw (mt_3 (List.mem_of_getElem? (i := 147) rfl)) rfl
theorem wl_X1_emitUnit : Cond.selects yX1_emitUnit.cls yX1_emitUnit yX1_emitUnit ∈ gws := gw (List.mem_append_left _ (List.mem_of_getElem? (i := 19) rfl)) rfl
theorem wc_X1_expression : Cond.code yX1_expression cX1_expression 6 (some .boolean) ∈ gws := gw (mt_3 (List.mem_of_getElem? (i := 144) rfl)) rfl
theorem wi_X1_expression : Cond.instanceMethod yX1_expression ∈ gws := gw (mt_3 (List.mem_of_getElem? (i := 143) rfl)) rfl
theorem wl_X1_expression : Cond.selects yX1_expression.cls yX1_expression yX1_expression ∈ gws := gw (List.mem_append_left _ (List.mem_of_getElem? (i := 18) rfl)) rfl
theorem wc_X1_fail : Cond.code yX1_fail cX1_fail 2 (some .boolean) ∈ gws := gw (mt_3 (List.mem_of_getElem? (i := 120) rfl)) rfl
theorem wi_X1_fail : Cond.instanceMethod yX1_fail ∈ gws := gw (mt_3 (List.mem_of_getElem? (i := 119) rfl)) rfl
theorem wl_X1_fail : Cond.selects yX1_fail.cls yX1_fail yX1_fail ∈ gws := gw (List.mem_append_left _ (List.mem_of_getElem? (i := 12) rfl)) rfl
theorem wc_X1_kind : Cond.code yX1_kind cX1_kind 1 (some .int) ∈ gws := gw (mt_3 (List.mem_of_getElem? (i := 108) rfl)) rfl
theorem wi_X1_kind : Cond.instanceMethod yX1_kind ∈ gws := gw (mt_3 (List.mem_of_getElem? (i := 107) rfl)) rfl
theorem wl_X1_kind : Cond.selects yX1_kind.cls yX1_kind yX1_kind ∈ gws := gw (List.mem_append_left _ (List.mem_of_getElem? (i := 9) rfl)) rfl
theorem wc_X1_literal : Cond.code yX1_literal cX1_literal 3 (some .boolean) ∈ gws := gw (mt_3 (List.mem_of_getElem? (i := 183) rfl)) rfl
theorem wi_X1_literal : Cond.instanceMethod yX1_literal ∈ gws := gw (mt_3 (List.mem_of_getElem? (i := 182) rfl)) rfl
theorem wl_X1_literal : Cond.selects yX1_literal.cls yX1_literal yX1_literal ∈ gws := gw (List.mem_append_left _ (List.mem_of_getElem? (i := 25) rfl)) rfl
theorem wc_X1_note : Cond.code yX1_note cX1_note 2 (none) ∈ gws := gw (mt_3 (List.mem_of_getElem? (i := 132) rfl)) rfl
theorem wi_X1_note : Cond.instanceMethod yX1_note ∈ gws := gw (mt_3 (List.mem_of_getElem? (i := 131) rfl)) rfl
theorem wl_X1_note : Cond.selects yX1_note.cls yX1_note yX1_note ∈ gws := gw (List.mem_append_left _ (List.mem_of_getElem? (i := 15) rfl)) rfl
theorem wc_X1_parse : Cond.code yX1_parse cX1_parse 6 (some .int) ∈ gws := gw (mt_3 (List.mem_of_getElem? (i := 2) rfl)) rfl
theorem wi_X1_parse : Cond.instanceMethod yX1_parse ∈ gws := gw (mt_3 (List.mem_of_getElem? (i := 0) rfl)) rfl
theorem wl_X1_parse : Cond.selects yX1_parse.cls yX1_parse yX1_parse ∈ gws := gw (mt_3 (List.mem_of_getElem? (i := 1) rfl)) rfl
theorem wc_X1_step : Cond.code yX1_step cX1_step 1 (some .boolean) ∈ gws := gw (mt_3 (List.mem_of_getElem? (i := 116) rfl)) rfl
theorem wi_X1_step : Cond.instanceMethod yX1_step ∈ gws := gw (mt_3 (List.mem_of_getElem? (i := 115) rfl)) rfl
theorem wl_X1_step : Cond.selects yX1_step.cls yX1_step yX1_step ∈ gws := gw (List.mem_append_left _ (List.mem_of_getElem? (i := 11) rfl)) rfl
theorem wc_X1_take : Cond.code yX1_take cX1_take 2 (some .boolean) ∈ gws := gw (mt_3 (List.mem_of_getElem? (i := 136) rfl)) rfl
theorem wi_X1_take : Cond.instanceMethod yX1_take ∈ gws := gw (mt_3 (List.mem_of_getElem? (i := 135) rfl)) rfl
theorem wl_X1_take : Cond.selects yX1_take.cls yX1_take yX1_take ∈ gws := gw (List.mem_append_left _ (List.mem_of_getElem? (i := 16) rfl)) rfl
theorem wc_X1_takeInt : Cond.code yX1_takeInt cX1_takeInt 3 (some .boolean) ∈ gws := gw (mt_3 (List.mem_of_getElem? (i := 124) rfl)) rfl
theorem wi_X1_takeInt : Cond.instanceMethod yX1_takeInt ∈ gws := gw (mt_3 (List.mem_of_getElem? (i := 123) rfl)) rfl
theorem wl_X1_takeInt : Cond.selects yX1_takeInt.cls yX1_takeInt yX1_takeInt ∈ gws := gw (List.mem_append_left _ (List.mem_of_getElem? (i := 13) rfl)) rfl
theorem wc_X1_takeSigned : Cond.code yX1_takeSigned cX1_takeSigned 6 (some .boolean) ∈ gws := gw (mt_3 (List.mem_of_getElem? (i := 175) rfl)) rfl
theorem wi_X1_takeSigned : Cond.instanceMethod yX1_takeSigned ∈ gws := gw (mt_3 (List.mem_of_getElem? (i := 174) rfl)) rfl
theorem wl_X1_takeSigned : Cond.selects yX1_takeSigned.cls yX1_takeSigned yX1_takeSigned ∈ gws := gw (List.mem_append_left _ (List.mem_of_getElem? (i := 23) rfl)) rfl
theorem wc_X1_tellAct : Cond.code yX1_tellAct cX1_tellAct 6 (some .boolean) ∈ gws := gw (mt_3 (List.mem_of_getElem? (i := 167) rfl)) rfl
theorem wi_X1_tellAct : Cond.instanceMethod yX1_tellAct ∈ gws := gw (mt_3 (List.mem_of_getElem? (i := 166) rfl)) rfl
theorem wl_X1_tellAct : Cond.selects yX1_tellAct.cls yX1_tellAct yX1_tellAct ∈ gws := gw (List.mem_append_left _ (List.mem_of_getElem? (i := 22) rfl)) rfl
theorem wc_X1_tellGusts : Cond.code yX1_tellGusts cX1_tellGusts 6 (some .boolean) ∈ gws := gw (mt_3 (List.mem_of_getElem? (i := 191) rfl)) rfl
theorem wi_X1_tellGusts : Cond.instanceMethod yX1_tellGusts ∈ gws := gw (mt_3 (List.mem_of_getElem? (i := 190) rfl)) rfl
theorem wl_X1_tellGusts : Cond.selects yX1_tellGusts.cls yX1_tellGusts yX1_tellGusts ∈ gws := gw (List.mem_append_left _ (List.mem_of_getElem? (i := 26) rfl)) rfl
theorem wc_X1_tellLaw : Cond.code yX1_tellLaw cX1_tellLaw 3 (some .boolean) ∈ gws := gw (mt_3 (List.mem_of_getElem? (i := 140) rfl)) rfl
theorem wi_X1_tellLaw : Cond.instanceMethod yX1_tellLaw ∈ gws := gw (mt_3 (List.mem_of_getElem? (i := 139) rfl)) rfl
theorem wl_X1_tellLaw : Cond.selects yX1_tellLaw.cls yX1_tellLaw yX1_tellLaw ∈ gws := gw (List.mem_append_left _ (List.mem_of_getElem? (i := 17) rfl)) rfl
theorem wc_X1_tellReflex : Cond.code yX1_tellReflex cX1_tellReflex 3 (some .boolean) ∈ gws := gw (mt_3 (List.mem_of_getElem? (i := 199) rfl)) rfl
theorem wi_X1_tellReflex : Cond.instanceMethod yX1_tellReflex ∈ gws := gw (mt_3 (List.mem_of_getElem? (i := 198) rfl)) rfl
theorem wl_X1_tellReflex : Cond.selects yX1_tellReflex.cls yX1_tellReflex yX1_tellReflex ∈ gws := gw (List.mem_append_left _ (List.mem_of_getElem? (i := 27) rfl)) rfl
theorem wc_X1_tellSize : Cond.code yX1_tellSize cX1_tellSize 3 (some .boolean) ∈ gws := gw (mt_3 (List.mem_of_getElem? (i := 112) rfl)) rfl
theorem wi_X1_tellSize : Cond.instanceMethod yX1_tellSize ∈ gws := gw (mt_3 (List.mem_of_getElem? (i := 111) rfl)) rfl
theorem wl_X1_tellSize : Cond.selects yX1_tellSize.cls yX1_tellSize yX1_tellSize ∈ gws := gw (List.mem_append_left _ (List.mem_of_getElem? (i := 10) rfl)) rfl
theorem wc_X1_unwind : Cond.code yX1_unwind cX1_unwind 4 (none) ∈ gws := gw (mt_3 (List.mem_of_getElem? (i := 160) rfl)) rfl
theorem wi_X1_unwind : Cond.instanceMethod yX1_unwind ∈ gws := gw (mt_3 (List.mem_of_getElem? (i := 159) rfl)) rfl
theorem wl_X1_unwind : Cond.selects yX1_unwind.cls yX1_unwind yX1_unwind ∈ gws := gw (List.mem_append_left _ (List.mem_of_getElem? (i := 21) rfl)) rfl
theorem wc_X1_value : Cond.code yX1_value cX1_value 1 (some .long) ∈ gws := gw (mt_3 (List.mem_of_getElem? (i := 128) rfl)) rfl
theorem wi_X1_value : Cond.instanceMethod yX1_value ∈ gws := gw (mt_3 (List.mem_of_getElem? (i := 127) rfl)) rfl
theorem wl_X1_value : Cond.selects yX1_value.cls yX1_value yX1_value ∈ gws := gw (List.mem_append_left _ (List.mem_of_getElem? (i := 14) rfl)) rfl
theorem wc_X2_holds : Cond.code yX2_holds cX2_holds 8 (some .boolean) ∈ gws := gw (mt_4 (List.mem_of_getElem? (i := 56) rfl)) rfl
theorem wi_X2_holds : Cond.instanceMethod yX2_holds ∈ gws := gw (mt_4 (List.mem_of_getElem? (i := 54) rfl)) rfl
theorem wl_X2_holds : Cond.selects yX2_holds.cls yX2_holds yX2_holds ∈ gws := gw (mt_4 (List.mem_of_getElem? (i := 55) rfl)) rfl
theorem wc_X2_literal : Cond.code yX2_literal cX2_literal 6 (some .boolean) ∈ gws := gw (mt_4 (List.mem_of_getElem? (i := 64) rfl)) rfl
theorem wi_X2_literal : Cond.instanceMethod yX2_literal ∈ gws := gw (mt_4 (List.mem_of_getElem? (i := 63) rfl)) rfl
theorem wl_X2_literal : Cond.selects yX2_literal.cls yX2_literal yX2_literal ∈ gws := gw (List.mem_append_left _ (List.mem_of_getElem? (i := 30) rfl)) rfl
theorem wc_X2_result : Cond.code yX2_result cX2_result 1 (some .int) ∈ gws := gw (mt_4 (List.mem_of_getElem? (i := 103) rfl)) rfl
theorem wi_X2_result : Cond.instanceMethod yX2_result ∈ gws := gw (mt_4 (List.mem_of_getElem? (i := 101) rfl)) rfl
theorem wl_X2_result : Cond.selects yX2_result.cls yX2_result yX2_result ∈ gws := gw (mt_4 (List.mem_of_getElem? (i := 102) rfl)) rfl
theorem wc_X2_run : Cond.code yX2_run cX2_run 8 (some .int) ∈ gws := gw (mt_4 (List.mem_of_getElem? (i := 60) rfl)) rfl
theorem wi_X2_run : Cond.instanceMethod yX2_run ∈ gws := gw (mt_4 (List.mem_of_getElem? (i := 58) rfl)) rfl
theorem wl_X2_run : Cond.selects yX2_run.cls yX2_run yX2_run ∈ gws := gw (mt_4 (List.mem_of_getElem? (i := 59) rfl)) rfl
theorem wc_X2_standAt : Cond.code yX2_standAt cX2_standAt 3 (none) ∈ gws := gw (mt_4 (List.mem_of_getElem? (i := 51) rfl)) rfl
theorem wi_X2_standAt : Cond.instanceMethod yX2_standAt ∈ gws := gw (mt_4 (List.mem_of_getElem? (i := 49) rfl)) rfl
theorem wl_X2_standAt : Cond.selects yX2_standAt.cls yX2_standAt yX2_standAt ∈ gws := gw (mt_4 (List.mem_of_getElem? (i := 50) rfl)) rfl
theorem wc_X3_actIn : Cond.code yX3_actIn cX3_actIn 3 (some .int) ∈ gws := gw (mt_5 (List.mem_of_getElem? (i := 43) rfl)) rfl
theorem wi_X3_actIn : Cond.instanceMethod yX3_actIn ∈ gws := gw (mt_5 (List.mem_of_getElem? (i := 41) rfl)) rfl
theorem wl_X3_actIn : Cond.selects yX3_actIn.cls yX3_actIn yX3_actIn ∈ gws := gw (mt_5 (List.mem_of_getElem? (i := 42) rfl)) rfl
theorem wc_X3_beatsToFall : Cond.code yX3_beatsToFall cX3_beatsToFall 1 (some .int) ∈ gws := gw (mt_5 (List.mem_of_getElem? (i := 74) rfl)) rfl
theorem wi_X3_beatsToFall : Cond.instanceMethod yX3_beatsToFall ∈ gws := gw (mt_5 (List.mem_of_getElem? (i := 72) rfl)) rfl
theorem wl_X3_beatsToFall : Cond.selects yX3_beatsToFall.cls yX3_beatsToFall yX3_beatsToFall ∈ gws := gw (mt_5 (List.mem_of_getElem? (i := 73) rfl)) rfl
theorem wc_X3_behind : Cond.code yX3_behind cX3_behind 4 (some .int) ∈ gws := gw (mt_5 (List.mem_of_getElem? (i := 69) rfl)) rfl
theorem wi_X3_behind : Cond.instanceMethod yX3_behind ∈ gws := gw (mt_5 (List.mem_of_getElem? (i := 68) rfl)) rfl
theorem wl_X3_behind : Cond.selects yX3_behind.cls yX3_behind yX3_behind ∈ gws := gw (List.mem_append_left _ (List.mem_of_getElem? (i := 43) rfl)) rfl
theorem wc_X3_countRows : Cond.code yX3_countRows cX3_countRows 12 (some .long) ∈ gws := gw (mt_5 (List.mem_of_getElem? (i := 104) rfl)) rfl
theorem wi_X3_countRows : Cond.instanceMethod yX3_countRows ∈ gws := gw (mt_5 (List.mem_of_getElem? (i := 102) rfl)) rfl
theorem wl_X3_countRows : Cond.selects yX3_countRows.cls yX3_countRows yX3_countRows ∈ gws := gw (mt_5 (List.mem_of_getElem? (i := 103) rfl)) rfl
theorem wc_X3_drillEnd : Cond.code yX3_drillEnd cX3_drillEnd 8 (some .int) ∈ gws := gw (mt_5 (List.mem_of_getElem? (i := 169) rfl)) rfl
theorem wi_X3_drillEnd : Cond.instanceMethod yX3_drillEnd ∈ gws := gw (mt_5 (List.mem_of_getElem? (i := 167) rfl)) rfl
theorem wl_X3_drillEnd : Cond.selects yX3_drillEnd.cls yX3_drillEnd yX3_drillEnd ∈ gws := gw (mt_5 (List.mem_of_getElem? (i := 168) rfl)) rfl
theorem wc_X3_dropLearned : Cond.code yX3_dropLearned cX3_dropLearned 3 (some .int) ∈ gws := gw (mt_3 (List.mem_of_getElem? (i := 232) rfl)) rfl
theorem wi_X3_dropLearned : Cond.instanceMethod yX3_dropLearned ∈ gws := gw (mt_3 (List.mem_of_getElem? (i := 230) rfl)) rfl
theorem wl_X3_dropLearned : Cond.selects yX3_dropLearned.cls yX3_dropLearned yX3_dropLearned ∈ gws := gw (mt_3 (List.mem_of_getElem? (i := 231) rfl)) rfl
theorem wc_X3_enqueue : Cond.code yX3_enqueue cX3_enqueue 4 (none) ∈ gws := gw (mt_5 (List.mem_of_getElem? (i := 61) rfl)) rfl
theorem wi_X3_enqueue : Cond.instanceMethod yX3_enqueue ∈ gws := gw (mt_5 (List.mem_of_getElem? (i := 60) rfl)) rfl
theorem wl_X3_enqueue : Cond.selects yX3_enqueue.cls yX3_enqueue yX3_enqueue ∈ gws := gw (List.mem_append_left _ (List.mem_of_getElem? (i := 42) rfl)) rfl
theorem wc_X3_explore : Cond.code yX3_explore cX3_explore 8 (none) ∈ gws := gw (mt_5 (List.mem_of_getElem? (i := 56) rfl)) rfl
theorem wi_X3_explore : Cond.instanceMethod yX3_explore ∈ gws := gw (mt_5 (List.mem_of_getElem? (i := 54) rfl)) rfl
theorem wl_X3_explore : Cond.selects yX3_explore.cls yX3_explore yX3_explore ∈ gws := gw (mt_5 (List.mem_of_getElem? (i := 55) rfl)) rfl
theorem wc_X3_learnFrom : Cond.code yX3_learnFrom cX3_learnFrom 8 (some .int) ∈ gws := gw (mt_5 (List.mem_of_getElem? (i := 119) rfl)) rfl
theorem wi_X3_learnFrom : Cond.instanceMethod yX3_learnFrom ∈ gws := gw (mt_5 (List.mem_of_getElem? (i := 117) rfl)) rfl
theorem wl_X3_learnFrom : Cond.selects yX3_learnFrom.cls yX3_learnFrom yX3_learnFrom ∈ gws := gw (mt_5 (List.mem_of_getElem? (i := 118) rfl)) rfl
theorem wc_X3_longestFrom : Cond.code yX3_longestFrom cX3_longestFrom 7 (some .int) ∈ gws := gw (mt_5 (List.mem_of_getElem? (i := 95) rfl)) rfl
theorem wi_X3_longestFrom : Cond.instanceMethod yX3_longestFrom ∈ gws := gw (mt_5 (List.mem_of_getElem? (i := 94) rfl)) rfl
theorem wl_X3_longestFrom : Cond.selects yX3_longestFrom.cls yX3_longestFrom yX3_longestFrom ∈ gws := gw (List.mem_append_left _ (List.mem_of_getElem? (i := 44) rfl)) rfl
theorem wc_X3_longestWay : Cond.code yX3_longestWay cX3_longestWay 6 (some .int) ∈ gws := gw (mt_5 (List.mem_of_getElem? (i := 91) rfl)) rfl
theorem wi_X3_longestWay : Cond.instanceMethod yX3_longestWay ∈ gws := gw (mt_5 (List.mem_of_getElem? (i := 89) rfl)) rfl
theorem wl_X3_longestWay : Cond.selects yX3_longestWay.cls yX3_longestWay yX3_longestWay ∈ gws := gw (mt_5 (List.mem_of_getElem? (i := 90) rfl)) rfl
theorem wc_X3_lot : Cond.code yX3_lot cX3_lot 4 (some .int) ∈ gws := gw (mt_5 (List.mem_of_getElem? (i := 172) rfl)) rfl
theorem wt_X3_lot : Cond.static yX3_lot ∈ gws := gw (mt_5 (List.mem_of_getElem? (i := 171) rfl)) rfl
theorem wc_X3_spread : Cond.code yX3_spread cX3_spread 7 (some .long) ∈ gws := gw (mt_5 (List.mem_of_getElem? (i := 111) rfl)) rfl
theorem wi_X3_spread : Cond.instanceMethod yX3_spread ∈ gws := gw (mt_5 (List.mem_of_getElem? (i := 110) rfl)) rfl
theorem wl_X3_spread : Cond.selects yX3_spread.cls yX3_spread yX3_spread ∈ gws := gw (List.mem_append_left _ (List.mem_of_getElem? (i := 45) rfl)) rfl
theorem wc_X3_stir : Cond.code yX3_stir cX3_stir 3 (some .int) ∈ gws := gw (mt_5 (List.mem_of_getElem? (i := 175) rfl)) rfl
theorem wt_X3_stir : Cond.static yX3_stir ∈ gws := gw (mt_5 (List.mem_of_getElem? (i := 174) rfl)) rfl
theorem wc_X3_witnessGust : Cond.code yX3_witnessGust cX3_witnessGust 5 (some .int) ∈ gws := gw (mt_5 (List.mem_of_getElem? (i := 82) rfl)) rfl
theorem wi_X3_witnessGust : Cond.instanceMethod yX3_witnessGust ∈ gws := gw (mt_5 (List.mem_of_getElem? (i := 80) rfl)) rfl
theorem wl_X3_witnessGust : Cond.selects yX3_witnessGust.cls yX3_witnessGust yX3_witnessGust ∈ gws := gw (mt_5 (List.mem_of_getElem? (i := 81) rfl)) rfl
theorem wc_X4_actNamed : Cond.code yX4_actNamed cX4_actNamed 4 (some .int) ∈ gws := gw (mt_3 (List.mem_of_getElem? (i := 171) rfl)) rfl
theorem wi_X4_actNamed : Cond.instanceMethod yX4_actNamed ∈ gws := gw (mt_3 (List.mem_of_getElem? (i := 169) rfl)) rfl
theorem wl_X4_actNamed : Cond.selects yX4_actNamed.cls yX4_actNamed yX4_actNamed ∈ gws := gw (mt_3 (List.mem_of_getElem? (i := 170) rfl)) rfl
theorem wc_X4_addAct : Cond.code yX4_addAct cX4_addAct 6 (none) ∈ gws := gw (mt_3 (List.mem_of_getElem? (i := 187) rfl)) rfl
theorem wi_X4_addAct : Cond.instanceMethod yX4_addAct ∈ gws := gw (mt_3 (List.mem_of_getElem? (i := 185) rfl)) rfl
theorem wl_X4_addAct : Cond.selects yX4_addAct.cls yX4_addAct yX4_addAct ∈ gws := gw (mt_3 (List.mem_of_getElem? (i := 186) rfl)) rfl
theorem wc_X4_addGusts : Cond.code yX4_addGusts cX4_addGusts 7 (none) ∈ gws := gw (mt_3 (List.mem_of_getElem? (i := 195) rfl)) rfl
theorem wi_X4_addGusts : Cond.instanceMethod yX4_addGusts ∈ gws := gw (mt_3 (List.mem_of_getElem? (i := 193) rfl)) rfl
theorem wl_X4_addGusts : Cond.selects yX4_addGusts.cls yX4_addGusts yX4_addGusts ∈ gws := gw (mt_3 (List.mem_of_getElem? (i := 194) rfl)) rfl
theorem wc_X4_addReflex : Cond.code yX4_addReflex cX4_addReflex 3 (none) ∈ gws := gw (mt_3 (List.mem_of_getElem? (i := 203) rfl)) rfl
theorem wi_X4_addReflex : Cond.instanceMethod yX4_addReflex ∈ gws := gw (mt_3 (List.mem_of_getElem? (i := 201) rfl)) rfl
theorem wl_X4_addReflex : Cond.selects yX4_addReflex.cls yX4_addReflex yX4_addReflex ∈ gws := gw (mt_3 (List.mem_of_getElem? (i := 202) rfl)) rfl
theorem wc_X4_atOf : Cond.code yX4_atOf cX4_atOf 1 (some .int) ∈ gws := gw (mt_4 (List.mem_of_getElem? (i := 28) rfl)) rfl
theorem wt_X4_atOf : Cond.static yX4_atOf ∈ gws := gw (mt_4 (List.mem_of_getElem? (i := 27) rfl)) rfl
theorem wc_X4_emit : Cond.code yX4_emit cX4_emit 2 (none) ∈ gws := gw (mt_3 (List.mem_of_getElem? (i := 152) rfl)) rfl
theorem wi_X4_emit : Cond.instanceMethod yX4_emit ∈ gws := gw (mt_3 (List.mem_of_getElem? (i := 150) rfl)) rfl
theorem wl_X4_emit : Cond.selects yX4_emit.cls yX4_emit yX4_emit ∈ gws := gw (mt_3 (List.mem_of_getElem? (i := 151) rfl)) rfl
theorem wc_X4_finish : Cond.code yX4_finish cX4_finish 1 (none) ∈ gws := gw (mt_3 (List.mem_of_getElem? (i := 207) rfl)) rfl
theorem wi_X4_finish : Cond.instanceMethod yX4_finish ∈ gws := gw (mt_3 (List.mem_of_getElem? (i := 205) rfl)) rfl
theorem wl_X4_finish : Cond.selects yX4_finish.cls yX4_finish yX4_finish ∈ gws := gw (mt_3 (List.mem_of_getElem? (i := 206) rfl)) rfl
theorem wc_X4_has : Cond.code yX4_has cX4_has 2 (some .boolean) ∈ gws := gw (mt_4 (List.mem_of_getElem? (i := 25) rfl)) rfl
theorem wi_X4_has : Cond.instanceMethod yX4_has ∈ gws := gw (mt_4 (List.mem_of_getElem? (i := 23) rfl)) rfl
theorem wl_X4_has : Cond.selects yX4_has.cls yX4_has yX4_has ∈ gws := gw (mt_4 (List.mem_of_getElem? (i := 24) rfl)) rfl
theorem wc_X4_hasAct : Cond.code yX4_hasAct cX4_hasAct 2 (some .boolean) ∈ gws := gw (mt_4 (List.mem_of_getElem? (i := 39) rfl)) rfl
theorem wi_X4_hasAct : Cond.instanceMethod yX4_hasAct ∈ gws := gw (mt_4 (List.mem_of_getElem? (i := 37) rfl)) rfl
theorem wl_X4_hasAct : Cond.selects yX4_hasAct.cls yX4_hasAct yX4_hasAct ∈ gws := gw (mt_4 (List.mem_of_getElem? (i := 38) rfl)) rfl
theorem wc_X4_isOver : Cond.code yX4_isOver cX4_isOver 2 (some .boolean) ∈ gws := gw (mt_4 (List.mem_of_getElem? (i := 68) rfl)) rfl
theorem wi_X4_isOver : Cond.instanceMethod yX4_isOver ∈ gws := gw (mt_4 (List.mem_of_getElem? (i := 66) rfl)) rfl
theorem wl_X4_isOver : Cond.selects yX4_isOver.cls yX4_isOver yX4_isOver ∈ gws := gw (mt_4 (List.mem_of_getElem? (i := 67) rfl)) rfl
theorem wc_X4_leanOf : Cond.code yX4_leanOf cX4_leanOf 1 (some .int) ∈ gws := gw (mt_4 (List.mem_of_getElem? (i := 31) rfl)) rfl
theorem wt_X4_leanOf : Cond.static yX4_leanOf ∈ gws := gw (mt_4 (List.mem_of_getElem? (i := 30) rfl)) rfl
theorem wc_X4_number : Cond.code yX4_number cX4_number 4 (some .int) ∈ gws := gw (mt_4 (List.mem_of_getElem? (i := 17) rfl)) rfl
theorem wi_X4_number : Cond.instanceMethod yX4_number ∈ gws := gw (mt_4 (List.mem_of_getElem? (i := 15) rfl)) rfl
theorem wl_X4_number : Cond.selects yX4_number.cls yX4_number yX4_number ∈ gws := gw (mt_4 (List.mem_of_getElem? (i := 16) rfl)) rfl
theorem wc_X4_swingOf : Cond.code yX4_swingOf cX4_swingOf 1 (some .int) ∈ gws := gw (mt_4 (List.mem_of_getElem? (i := 34) rfl)) rfl
theorem wt_X4_swingOf : Cond.static yX4_swingOf ∈ gws := gw (mt_4 (List.mem_of_getElem? (i := 33) rfl)) rfl
theorem wc_X4_untell : Cond.code yX4_untell cX4_untell 1 (none) ∈ gws := gw (mt_3 (List.mem_of_getElem? (i := 104) rfl)) rfl
theorem wi_X4_untell : Cond.instanceMethod yX4_untell ∈ gws := gw (mt_3 (List.mem_of_getElem? (i := 102) rfl)) rfl
theorem wl_X4_untell : Cond.selects yX4_untell.cls yX4_untell yX4_untell ∈ gws := gw (mt_3 (List.mem_of_getElem? (i := 103) rfl)) rfl
theorem wc_X5_bearing : Cond.code yX5_bearing cX5_bearing 5 (some .int) ∈ gws := gw (mt_4 (List.mem_of_getElem? (i := 197) rfl)) rfl
theorem wi_X5_bearing : Cond.instanceMethod yX5_bearing ∈ gws := gw (mt_4 (List.mem_of_getElem? (i := 195) rfl)) rfl
theorem wl_X5_bearing : Cond.selects yX5_bearing.cls yX5_bearing yX5_bearing ∈ gws := gw (mt_4 (List.mem_of_getElem? (i := 196) rfl)) rfl
theorem wc_X5_dropPole : Cond.code yX5_dropPole cX5_dropPole 1 (none) ∈ gws := gw (mt_3 (List.mem_of_getElem? (i := 228) rfl)) rfl
theorem wi_X5_dropPole : Cond.instanceMethod yX5_dropPole ∈ gws := gw (mt_3 (List.mem_of_getElem? (i := 226) rfl)) rfl
theorem wl_X5_dropPole : Cond.selects yX5_dropPole.cls yX5_dropPole yX5_dropPole ∈ gws := gw (mt_3 (List.mem_of_getElem? (i := 227) rfl)) rfl
theorem wc_X5_dropText : Cond.code yX5_dropText cX5_dropText 1 (none) ∈ gws := gw (mt_3 (List.mem_of_getElem? (i := 216) rfl)) rfl
theorem wi_X5_dropText : Cond.instanceMethod yX5_dropText ∈ gws := gw (mt_3 (List.mem_of_getElem? (i := 214) rfl)) rfl
theorem wl_X5_dropText : Cond.selects yX5_dropText.cls yX5_dropText yX5_dropText ∈ gws := gw (mt_3 (List.mem_of_getElem? (i := 215) rfl)) rfl
theorem wc_X5_fateRound : Cond.code yX5_fateRound cX5_fateRound 7 (some .int) ∈ gws := gw (mt_4 (List.mem_of_getElem? (i := 129) rfl)) rfl
theorem wi_X5_fateRound : Cond.instanceMethod yX5_fateRound ∈ gws := gw (mt_4 (List.mem_of_getElem? (i := 128) rfl)) rfl
theorem wl_X5_fateRound : Cond.selects yX5_fateRound.cls yX5_fateRound yX5_fateRound ∈ gws := gw (List.mem_append_left _ (List.mem_of_getElem? (i := 33) rfl)) rfl
theorem wc_X5_findFates : Cond.code yX5_findFates cX5_findFates 5 (none) ∈ gws := gw (mt_4 (List.mem_of_getElem? (i := 112) rfl)) rfl
theorem wi_X5_findFates : Cond.instanceMethod yX5_findFates ∈ gws := gw (mt_4 (List.mem_of_getElem? (i := 110) rfl)) rfl
theorem wl_X5_findFates : Cond.selects yX5_findFates.cls yX5_findFates yX5_findFates ∈ gws := gw (mt_4 (List.mem_of_getElem? (i := 111) rfl)) rfl
theorem wc_X5_findReaches : Cond.code yX5_findReaches cX5_findReaches 5 (none) ∈ gws := gw (mt_4 (List.mem_of_getElem? (i := 153) rfl)) rfl
theorem wi_X5_findReaches : Cond.instanceMethod yX5_findReaches ∈ gws := gw (mt_4 (List.mem_of_getElem? (i := 151) rfl)) rfl
theorem wl_X5_findReaches : Cond.selects yX5_findReaches.cls yX5_findReaches yX5_findReaches ∈ gws := gw (mt_4 (List.mem_of_getElem? (i := 152) rfl)) rfl
theorem wc_X5_firstGood : Cond.code yX5_firstGood cX5_firstGood 10 (some .int) ∈ gws := gw (mt_4 (List.mem_of_getElem? (i := 133) rfl)) rfl
theorem wi_X5_firstGood : Cond.instanceMethod yX5_firstGood ∈ gws := gw (mt_4 (List.mem_of_getElem? (i := 132) rfl)) rfl
theorem wl_X5_firstGood : Cond.selects yX5_firstGood.cls yX5_firstGood yX5_firstGood ∈ gws := gw (List.mem_append_left _ (List.mem_of_getElem? (i := 34) rfl)) rfl
theorem wc_X5_greatestDoom : Cond.code yX5_greatestDoom cX5_greatestDoom 3 (some .int) ∈ gws := gw (mt_4 (List.mem_of_getElem? (i := 189) rfl)) rfl
theorem wi_X5_greatestDoom : Cond.instanceMethod yX5_greatestDoom ∈ gws := gw (mt_4 (List.mem_of_getElem? (i := 187) rfl)) rfl
theorem wl_X5_greatestDoom : Cond.selects yX5_greatestDoom.cls yX5_greatestDoom yX5_greatestDoom ∈ gws := gw (mt_4 (List.mem_of_getElem? (i := 188) rfl)) rfl
theorem wc_X5_isSafe : Cond.code yX5_isSafe cX5_isSafe 2 (some .boolean) ∈ gws := gw (mt_4 (List.mem_of_getElem? (i := 176) rfl)) rfl
theorem wi_X5_isSafe : Cond.instanceMethod yX5_isSafe ∈ gws := gw (mt_4 (List.mem_of_getElem? (i := 174) rfl)) rfl
theorem wl_X5_isSafe : Cond.selects yX5_isSafe.cls yX5_isSafe yX5_isSafe ∈ gws := gw (mt_4 (List.mem_of_getElem? (i := 175) rfl)) rfl
theorem wc_X5_isSafeAct : Cond.code yX5_isSafeAct cX5_isSafeAct 3 (some .boolean) ∈ gws := gw (mt_5 (List.mem_of_getElem? (i := 161) rfl)) rfl
theorem wi_X5_isSafeAct : Cond.instanceMethod yX5_isSafeAct ∈ gws := gw (mt_5 (List.mem_of_getElem? (i := 159) rfl)) rfl
theorem wl_X5_isSafeAct : Cond.selects yX5_isSafeAct.cls yX5_isSafeAct yX5_isSafeAct ∈ gws := gw (mt_5 (List.mem_of_getElem? (i := 160) rfl)) rfl
theorem wc_X5_leadsWell : Cond.code yX5_leadsWell cX5_leadsWell 9 (some .boolean) ∈ gws := gw (mt_4 (List.mem_of_getElem? (i := 139) rfl)) rfl
theorem wi_X5_leadsWell : Cond.instanceMethod yX5_leadsWell ∈ gws := gw (mt_4 (List.mem_of_getElem? (i := 138) rfl)) rfl
theorem wl_X5_leadsWell : Cond.selects yX5_leadsWell.cls yX5_leadsWell yX5_leadsWell ∈ gws := gw (List.mem_append_left _ (List.mem_of_getElem? (i := 35) rfl)) rfl
theorem wc_X5_leastPole : Cond.code yX5_leastPole cX5_leastPole 6 (some .int) ∈ gws := gw (mt_4 (List.mem_of_getElem? (i := 209) rfl)) rfl
theorem wi_X5_leastPole : Cond.instanceMethod yX5_leastPole ∈ gws := gw (mt_4 (List.mem_of_getElem? (i := 207) rfl)) rfl
theorem wl_X5_leastPole : Cond.selects yX5_leastPole.cls yX5_leastPole yX5_leastPole ∈ gws := gw (mt_4 (List.mem_of_getElem? (i := 208) rfl)) rfl
theorem wc_X5_listOpen : Cond.code yX5_listOpen cX5_listOpen 3 (some .int) ∈ gws := gw (mt_4 (List.mem_of_getElem? (i := 118) rfl)) rfl
theorem wi_X5_listOpen : Cond.instanceMethod yX5_listOpen ∈ gws := gw (mt_4 (List.mem_of_getElem? (i := 117) rfl)) rfl
theorem wl_X5_listOpen : Cond.selects yX5_listOpen.cls yX5_listOpen yX5_listOpen ∈ gws := gw (List.mem_append_left _ (List.mem_of_getElem? (i := 32) rfl)) rfl
theorem wc_X5_reachRound : Cond.code yX5_reachRound cX5_reachRound 7 (some .int) ∈ gws := gw (mt_4 (List.mem_of_getElem? (i := 159) rfl)) rfl
theorem wi_X5_reachRound : Cond.instanceMethod yX5_reachRound ∈ gws := gw (mt_4 (List.mem_of_getElem? (i := 158) rfl)) rfl
theorem wl_X5_reachRound : Cond.selects yX5_reachRound.cls yX5_reachRound yX5_reachRound ∈ gws := gw (List.mem_append_left _ (List.mem_of_getElem? (i := 36) rfl)) rfl
theorem wc_X5_safeAmong : Cond.code yX5_safeAmong cX5_safeAmong 5 (some .int) ∈ gws := gw (mt_4 (List.mem_of_getElem? (i := 172) rfl)) rfl
theorem wi_X5_safeAmong : Cond.instanceMethod yX5_safeAmong ∈ gws := gw (mt_4 (List.mem_of_getElem? (i := 170) rfl)) rfl
theorem wl_X5_safeAmong : Cond.selects yX5_safeAmong.cls yX5_safeAmong yX5_safeAmong ∈ gws := gw (mt_4 (List.mem_of_getElem? (i := 171) rfl)) rfl
theorem wc_X5_shrink : Cond.code yX5_shrink cX5_shrink 10 (none) ∈ gws := gw (mt_4 (List.mem_of_getElem? (i := 201) rfl)) rfl
theorem wi_X5_shrink : Cond.instanceMethod yX5_shrink ∈ gws := gw (mt_4 (List.mem_of_getElem? (i := 200) rfl)) rfl
theorem wl_X5_shrink : Cond.selects yX5_shrink.cls yX5_shrink yX5_shrink ∈ gws := gw (List.mem_append_left _ (List.mem_of_getElem? (i := 37) rfl)) rfl
theorem wc_X6_addForecast : Cond.code yX6_addForecast cX6_addForecast 2 (some .int) ∈ gws := gw (mt_4 (List.mem_of_getElem? (i := 218) rfl)) rfl
theorem wi_X6_addForecast : Cond.instanceMethod yX6_addForecast ∈ gws := gw (mt_4 (List.mem_of_getElem? (i := 216) rfl)) rfl
theorem wl_X6_addForecast : Cond.selects yX6_addForecast.cls yX6_addForecast yX6_addForecast ∈ gws := gw (mt_4 (List.mem_of_getElem? (i := 217) rfl)) rfl
theorem wc_X6_allGoOn : Cond.code yX6_allGoOn cX6_allGoOn 8 (some .boolean) ∈ gws := gw (mt_5 (List.mem_of_getElem? (i := 28) rfl)) rfl
theorem wi_X6_allGoOn : Cond.instanceMethod yX6_allGoOn ∈ gws := gw (mt_5 (List.mem_of_getElem? (i := 27) rfl)) rfl
theorem wl_X6_allGoOn : Cond.selects yX6_allGoOn.cls yX6_allGoOn yX6_allGoOn ∈ gws := gw (List.mem_append_left _ (List.mem_of_getElem? (i := 41) rfl)) rfl
theorem wc_X6_blindRows : Cond.code yX6_blindRows cX6_blindRows 4 (some .int) ∈ gws := gw (mt_5 (List.mem_of_getElem? (i := 20) rfl)) rfl
theorem wi_X6_blindRows : Cond.instanceMethod yX6_blindRows ∈ gws := gw (mt_5 (List.mem_of_getElem? (i := 18) rfl)) rfl
theorem wl_X6_blindRows : Cond.selects yX6_blindRows.cls yX6_blindRows yX6_blindRows ∈ gws := gw (mt_5 (List.mem_of_getElem? (i := 19) rfl)) rfl
theorem wc_X6_dropForecasts : Cond.code yX6_dropForecasts cX6_dropForecasts 1 (none) ∈ gws := gw (mt_3 (List.mem_of_getElem? (i := 212) rfl)) rfl
theorem wi_X6_dropForecasts : Cond.instanceMethod yX6_dropForecasts ∈ gws := gw (mt_3 (List.mem_of_getElem? (i := 210) rfl)) rfl
theorem wl_X6_dropForecasts : Cond.selects yX6_dropForecasts.cls yX6_dropForecasts yX6_dropForecasts ∈ gws := gw (mt_3 (List.mem_of_getElem? (i := 211) rfl)) rfl
theorem wc_X6_dropPlan : Cond.code yX6_dropPlan cX6_dropPlan 1 (none) ∈ gws := gw (mt_3 (List.mem_of_getElem? (i := 236) rfl)) rfl
theorem wi_X6_dropPlan : Cond.instanceMethod yX6_dropPlan ∈ gws := gw (mt_3 (List.mem_of_getElem? (i := 234) rfl)) rfl
theorem wl_X6_dropPlan : Cond.selects yX6_dropPlan.cls yX6_dropPlan yX6_dropPlan ∈ gws := gw (mt_3 (List.mem_of_getElem? (i := 235) rfl)) rfl
theorem wc_X6_goForwards : Cond.code yX6_goForwards cX6_goForwards 7 (some .boolean) ∈ gws := gw (mt_4 (List.mem_of_getElem? (i := 238) rfl)) rfl
theorem wi_X6_goForwards : Cond.instanceMethod yX6_goForwards ∈ gws := gw (mt_4 (List.mem_of_getElem? (i := 237) rfl)) rfl
theorem wl_X6_goForwards : Cond.selects yX6_goForwards.cls yX6_goForwards yX6_goForwards ∈ gws := gw (List.mem_append_left _ (List.mem_of_getElem? (i := 38) rfl)) rfl
theorem wc_X6_goodAct : Cond.code yX6_goodAct cX6_goodAct 6 (some .int) ∈ gws := gw (mt_5 (List.mem_of_getElem? (i := 4) rfl)) rfl
theorem wi_X6_goodAct : Cond.instanceMethod yX6_goodAct ∈ gws := gw (mt_5 (List.mem_of_getElem? (i := 3) rfl)) rfl
theorem wl_X6_goodAct : Cond.selects yX6_goodAct.cls yX6_goodAct yX6_goodAct ∈ gws := gw (List.mem_append_left _ (List.mem_of_getElem? (i := 39) rfl)) rfl
theorem wc_X6_plan : Cond.code yX6_plan cX6_plan 5 (none) ∈ gws := gw (mt_4 (List.mem_of_getElem? (i := 230) rfl)) rfl
theorem wi_X6_plan : Cond.instanceMethod yX6_plan ∈ gws := gw (mt_4 (List.mem_of_getElem? (i := 228) rfl)) rfl
theorem wl_X6_plan : Cond.selects yX6_plan.cls yX6_plan yX6_plan ∈ gws := gw (mt_4 (List.mem_of_getElem? (i := 229) rfl)) rfl
theorem wc_X6_plannedAct : Cond.code yX6_plannedAct cX6_plannedAct 2 (some .int) ∈ gws := gw (mt_5 (List.mem_of_getElem? (i := 12) rfl)) rfl
theorem wi_X6_plannedAct : Cond.instanceMethod yX6_plannedAct ∈ gws := gw (mt_5 (List.mem_of_getElem? (i := 10) rfl)) rfl
theorem wl_X6_plannedAct : Cond.selects yX6_plannedAct.cls yX6_plannedAct yX6_plannedAct ∈ gws := gw (mt_5 (List.mem_of_getElem? (i := 11) rfl)) rfl
theorem wc_X6_rowsFrom : Cond.code yX6_rowsFrom cX6_rowsFrom 6 (some .int) ∈ gws := gw (mt_5 (List.mem_of_getElem? (i := 24) rfl)) rfl
theorem wi_X6_rowsFrom : Cond.instanceMethod yX6_rowsFrom ∈ gws := gw (mt_5 (List.mem_of_getElem? (i := 23) rfl)) rfl
theorem wl_X6_rowsFrom : Cond.selects yX6_rowsFrom.cls yX6_rowsFrom yX6_rowsFrom ∈ gws := gw (List.mem_append_left _ (List.mem_of_getElem? (i := 40) rfl)) rfl
theorem wc_X7_charAt : Cond.code yX7_charAt cX7_charAt 2 (some .int) ∈ gws := gw (mt_3 (List.mem_of_getElem? (i := 14) rfl)) rfl
theorem wi_X7_charAt : Cond.instanceMethod yX7_charAt ∈ gws := gw (mt_3 (List.mem_of_getElem? (i := 13) rfl)) rfl
theorem wl_X7_charAt : Cond.selects yX7_charAt.cls yX7_charAt yX7_charAt ∈ gws := gw (List.mem_append_left _ (List.mem_of_getElem? (i := 2) rfl)) rfl
theorem wc_X7_digits : Cond.code yX7_digits cX7_digits 4 (some .int) ∈ gws := gw (mt_3 (List.mem_of_getElem? (i := 90) rfl)) rfl
theorem wi_X7_digits : Cond.instanceMethod yX7_digits ∈ gws := gw (mt_3 (List.mem_of_getElem? (i := 89) rfl)) rfl
theorem wl_X7_digits : Cond.selects yX7_digits.cls yX7_digits yX7_digits ∈ gws := gw (List.mem_append_left _ (List.mem_of_getElem? (i := 6) rfl)) rfl
theorem wc_X7_isBlank : Cond.code yX7_isBlank cX7_isBlank 1 (some .boolean) ∈ gws := gw (mt_3 (List.mem_of_getElem? (i := 17) rfl)) rfl
theorem wt_X7_isBlank : Cond.static yX7_isBlank ∈ gws := gw (mt_3 (List.mem_of_getElem? (i := 16) rfl)) rfl
theorem wc_X7_isDigit : Cond.code yX7_isDigit cX7_isDigit 1 (some .boolean) ∈ gws := gw (mt_3 (List.mem_of_getElem? (i := 86) rfl)) rfl
theorem wt_X7_isDigit : Cond.static yX7_isDigit ∈ gws := gw (mt_3 (List.mem_of_getElem? (i := 85) rfl)) rfl
theorem wc_X7_isLetter : Cond.code yX7_isLetter cX7_isLetter 1 (some .boolean) ∈ gws := gw (mt_3 (List.mem_of_getElem? (i := 24) rfl)) rfl
theorem wt_X7_isLetter : Cond.static yX7_isLetter ∈ gws := gw (mt_3 (List.mem_of_getElem? (i := 23) rfl)) rfl
theorem wc_X7_isWord : Cond.code yX7_isWord cX7_isWord 8 (some .boolean) ∈ gws := gw (mt_3 (List.mem_of_getElem? (i := 34) rfl)) rfl
theorem wi_X7_isWord : Cond.instanceMethod yX7_isWord ∈ gws := gw (mt_3 (List.mem_of_getElem? (i := 33) rfl)) rfl
theorem wl_X7_isWord : Cond.selects yX7_isWord.cls yX7_isWord yX7_isWord ∈ gws := gw (List.mem_append_left _ (List.mem_of_getElem? (i := 5) rfl)) rfl
theorem wc_X7_letters : Cond.code yX7_letters cX7_letters 5 (some .int) ∈ gws := gw (mt_3 (List.mem_of_getElem? (i := 28) rfl)) rfl
theorem wi_X7_letters : Cond.instanceMethod yX7_letters ∈ gws := gw (mt_3 (List.mem_of_getElem? (i := 27) rfl)) rfl
theorem wl_X7_letters : Cond.selects yX7_letters.cls yX7_letters yX7_letters ∈ gws := gw (List.mem_append_left _ (List.mem_of_getElem? (i := 4) rfl)) rfl
theorem wc_X7_scan : Cond.code yX7_scan cX7_scan 5 (none) ∈ gws := gw (mt_3 (List.mem_of_getElem? (i := 6) rfl)) rfl
theorem wi_X7_scan : Cond.instanceMethod yX7_scan ∈ gws := gw (mt_3 (List.mem_of_getElem? (i := 4) rfl)) rfl
theorem wl_X7_scan : Cond.selects yX7_scan.cls yX7_scan yX7_scan ∈ gws := gw (mt_3 (List.mem_of_getElem? (i := 5) rfl)) rfl
theorem wc_X7_second : Cond.code yX7_second cX7_second 2 (some .int) ∈ gws := gw (mt_3 (List.mem_of_getElem? (i := 100) rfl)) rfl
theorem wi_X7_second : Cond.instanceMethod yX7_second ∈ gws := gw (mt_3 (List.mem_of_getElem? (i := 99) rfl)) rfl
theorem wl_X7_second : Cond.selects yX7_second.cls yX7_second yX7_second ∈ gws := gw (List.mem_append_left _ (List.mem_of_getElem? (i := 8) rfl)) rfl
theorem wc_X7_sign : Cond.code yX7_sign cX7_sign 3 (some .int) ∈ gws := gw (mt_3 (List.mem_of_getElem? (i := 96) rfl)) rfl
theorem wi_X7_sign : Cond.instanceMethod yX7_sign ∈ gws := gw (mt_3 (List.mem_of_getElem? (i := 95) rfl)) rfl
theorem wl_X7_sign : Cond.selects yX7_sign.cls yX7_sign yX7_sign ∈ gws := gw (List.mem_append_left _ (List.mem_of_getElem? (i := 7) rfl)) rfl
theorem wc_X7_skipBlanks : Cond.code yX7_skipBlanks cX7_skipBlanks 2 (none) ∈ gws := gw (mt_3 (List.mem_of_getElem? (i := 10) rfl)) rfl
theorem wi_X7_skipBlanks : Cond.instanceMethod yX7_skipBlanks ∈ gws := gw (mt_3 (List.mem_of_getElem? (i := 9) rfl)) rfl
theorem wl_X7_skipBlanks : Cond.selects yX7_skipBlanks.cls yX7_skipBlanks yX7_skipBlanks ∈ gws := gw (List.mem_append_left _ (List.mem_of_getElem? (i := 1) rfl)) rfl
theorem wc_X7_token : Cond.code yX7_token cX7_token 3 (some .int) ∈ gws := gw (mt_3 (List.mem_of_getElem? (i := 21) rfl)) rfl
theorem wi_X7_token : Cond.instanceMethod yX7_token ∈ gws := gw (mt_3 (List.mem_of_getElem? (i := 20) rfl)) rfl
theorem wl_X7_token : Cond.selects yX7_token.cls yX7_token yX7_token ∈ gws := gw (List.mem_append_left _ (List.mem_of_getElem? (i := 3) rfl)) rfl
theorem wc_X8_begin : Cond.code yX8_begin cX8_begin 2 (none) ∈ gws := gw (mt_5 (List.mem_of_getElem? (i := 137) rfl)) rfl
theorem wi_X8_begin : Cond.instanceMethod yX8_begin ∈ gws := gw (mt_5 (List.mem_of_getElem? (i := 135) rfl)) rfl
theorem wl_X8_begin : Cond.selects yX8_begin.cls yX8_begin yX8_begin ∈ gws := gw (mt_5 (List.mem_of_getElem? (i := 136) rfl)) rfl
theorem wc_X8_go : Cond.code yX8_go cX8_go 4 (none) ∈ gws := gw (mt_6 (List.mem_of_getElem? (i := 49) rfl)) rfl
theorem wi_X8_go : Cond.instanceMethod yX8_go ∈ gws := gw (mt_6 (List.mem_of_getElem? (i := 47) rfl)) rfl
theorem wl_X8_go : Cond.selects yX8_go.cls yX8_go yX8_go ∈ gws := gw (mt_6 (List.mem_of_getElem? (i := 48) rfl)) rfl
theorem wc_X8_goBack : Cond.code yX8_goBack cX8_goBack 1 (some .boolean) ∈ gws := gw (mt_5 (List.mem_of_getElem? (i := 145) rfl)) rfl
theorem wi_X8_goBack : Cond.instanceMethod yX8_goBack ∈ gws := gw (mt_5 (List.mem_of_getElem? (i := 143) rfl)) rfl
theorem wl_X8_goBack : Cond.selects yX8_goBack.cls yX8_goBack yX8_goBack ∈ gws := gw (mt_5 (List.mem_of_getElem? (i := 144) rfl)) rfl
theorem wc_X8_leave : Cond.code yX8_leave cX8_leave 1 (none) ∈ gws := gw (mt_4 (List.mem_of_getElem? (i := 0) rfl)) rfl
theorem wi_X8_leave : Cond.instanceMethod yX8_leave ∈ gws := gw (mt_3 (List.mem_of_getElem? (i := 238) rfl)) rfl
theorem wl_X8_leave : Cond.selects yX8_leave.cls yX8_leave yX8_leave ∈ gws := gw (mt_3 (List.mem_of_getElem? (i := 239) rfl)) rfl
theorem wc_X8_standsIn : Cond.code yX8_standsIn cX8_standsIn 1 (some .int) ∈ gws := gw (mt_5 (List.mem_of_getElem? (i := 193) rfl)) rfl
theorem wi_X8_standsIn : Cond.instanceMethod yX8_standsIn ∈ gws := gw (mt_5 (List.mem_of_getElem? (i := 191) rfl)) rfl
theorem wl_X8_standsIn : Cond.selects yX8_standsIn.cls yX8_standsIn yX8_standsIn ∈ gws := gw (mt_5 (List.mem_of_getElem? (i := 192) rfl)) rfl
theorem wc_X8_told : Cond.code yX8_told cX8_told 3 (some .int) ∈ gws := gw (mt_5 (List.mem_of_getElem? (i := 153) rfl)) rfl
theorem wi_X8_told : Cond.instanceMethod yX8_told ∈ gws := gw (mt_5 (List.mem_of_getElem? (i := 151) rfl)) rfl
theorem wl_X8_told : Cond.selects yX8_told.cls yX8_told yX8_told ∈ gws := gw (mt_5 (List.mem_of_getElem? (i := 152) rfl)) rfl
theorem wc_X10_actOf : Cond.code yX10_actOf cX10_actOf 4 (some .int) ∈ gws := gw (mt_8 (List.mem_of_getElem? (i := 2) rfl)) rfl
theorem wi_X10_actOf : Cond.instanceMethod yX10_actOf ∈ gws := gw (mt_8 (List.mem_of_getElem? (i := 1) rfl)) rfl
theorem wl_X10_actOf : Cond.selects yX10_actOf.cls yX10_actOf yX10_actOf ∈ gws := gw (List.mem_append_left _ (List.mem_of_getElem? (i := 71) rfl)) rfl
theorem wc_X10_actsOf : Cond.code yX10_actsOf cX10_actsOf 1 (some .int) ∈ gws := gw (mt_8 (List.mem_of_getElem? (i := 74) rfl)) rfl
theorem wi_X10_actsOf : Cond.instanceMethod yX10_actsOf ∈ gws := gw (mt_8 (List.mem_of_getElem? (i := 73) rfl)) rfl
theorem wl_X10_actsOf : Cond.selects yX10_actsOf.cls yX10_actsOf yX10_actsOf ∈ gws := gw (List.mem_append_left _ (List.mem_of_getElem? (i := 82) rfl)) rfl
theorem wc_X10_afresh : Cond.code yX10_afresh cX10_afresh 1 (none) ∈ gws := gw (mt_8 (List.mem_of_getElem? (i := 30) rfl)) rfl
theorem wi_X10_afresh : Cond.instanceMethod yX10_afresh ∈ gws := gw (mt_8 (List.mem_of_getElem? (i := 29) rfl)) rfl
theorem wl_X10_afresh : Cond.selects yX10_afresh.cls yX10_afresh yX10_afresh ∈ gws := gw (List.mem_append_left _ (List.mem_of_getElem? (i := 78) rfl)) rfl
theorem wc_X10_arrives : Cond.code yX10_arrives cX10_arrives 2 (some .int) ∈ gws := gw (mt_9 (List.mem_of_getElem? (i := 50) rfl)) rfl
theorem wi_X10_arrives : Cond.instanceMethod yX10_arrives ∈ gws := gw (mt_9 (List.mem_of_getElem? (i := 48) rfl)) rfl
theorem wl_X10_arrives : Cond.selects yX10_arrives.cls yX10_arrives yX10_arrives ∈ gws := gw (mt_9 (List.mem_of_getElem? (i := 49) rfl)) rfl
theorem wc_X10_atOf : Cond.code yX10_atOf cX10_atOf 1 (some .int) ∈ gws := gw (mt_8 (List.mem_of_getElem? (i := 60) rfl)) rfl
theorem wt_X10_atOf : Cond.static yX10_atOf ∈ gws := gw (mt_8 (List.mem_of_getElem? (i := 59) rfl)) rfl
theorem wc_X10_await : Cond.code yX10_await cX10_await 2 (none) ∈ gws := gw (mt_7 (List.mem_of_getElem? (i := 220) rfl)) rfl
theorem wi_X10_await : Cond.instanceMethod yX10_await ∈ gws := gw (mt_7 (List.mem_of_getElem? (i := 219) rfl)) rfl
theorem wl_X10_await : Cond.selects yX10_await.cls yX10_await yX10_await ∈ gws := gw (List.mem_append_left _ (List.mem_of_getElem? (i := 67) rfl)) rfl
theorem wc_X10_back : Cond.code yX10_back cX10_back 2 (some .int) ∈ gws := gw (mt_7 (List.mem_of_getElem? (i := 118) rfl)) rfl
theorem wi_X10_back : Cond.instanceMethod yX10_back ∈ gws := gw (mt_7 (List.mem_of_getElem? (i := 116) rfl)) rfl
theorem wl_X10_back : Cond.selects yX10_back.cls yX10_back yX10_back ∈ gws := gw (mt_7 (List.mem_of_getElem? (i := 117) rfl)) rfl
theorem wc_X10_beat : Cond.code yX10_beat cX10_beat 4 (some .int) ∈ gws := gw (mt_9 (List.mem_of_getElem? (i := 79) rfl)) rfl
theorem wi_X10_beat : Cond.instanceMethod yX10_beat ∈ gws := gw (mt_9 (List.mem_of_getElem? (i := 77) rfl)) rfl
theorem wl_X10_beat : Cond.selects yX10_beat.cls yX10_beat yX10_beat ∈ gws := gw (mt_9 (List.mem_of_getElem? (i := 78) rfl)) rfl
theorem wc_X10_beaten : Cond.code yX10_beaten cX10_beaten 7 (some .int) ∈ gws := gw (mt_8 (List.mem_of_getElem? (i := 122) rfl)) rfl
theorem wi_X10_beaten : Cond.instanceMethod yX10_beaten ∈ gws := gw (mt_8 (List.mem_of_getElem? (i := 121) rfl)) rfl
theorem wl_X10_beaten : Cond.selects yX10_beaten.cls yX10_beaten yX10_beaten ∈ gws := gw (List.mem_append_left _ (List.mem_of_getElem? (i := 94) rfl)) rfl
theorem wc_X10_begin : Cond.code yX10_begin cX10_begin 2 (none) ∈ gws := gw (mt_6 (List.mem_of_getElem? (i := 61) rfl)) rfl
theorem wi_X10_begin : Cond.instanceMethod yX10_begin ∈ gws := gw (mt_6 (List.mem_of_getElem? (i := 60) rfl)) rfl
theorem wl_X10_begin : Cond.selects yX10_begin.cls yX10_begin yX10_begin ∈ gws := gw (List.mem_append_left _ (List.mem_of_getElem? (i := 47) rfl)) rfl
theorem wc_X10_blame : Cond.code yX10_blame cX10_blame 2 (some .int) ∈ gws := gw (mt_9 (List.mem_of_getElem? (i := 95) rfl)) rfl
theorem wi_X10_blame : Cond.instanceMethod yX10_blame ∈ gws := gw (mt_9 (List.mem_of_getElem? (i := 93) rfl)) rfl
theorem wl_X10_blame : Cond.selects yX10_blame.cls yX10_blame yX10_blame ∈ gws := gw (mt_9 (List.mem_of_getElem? (i := 94) rfl)) rfl
theorem wc_X10_blind : Cond.code yX10_blind cX10_blind 6 (some .int) ∈ gws := gw (mt_8 (List.mem_of_getElem? (i := 230) rfl)) rfl
theorem wi_X10_blind : Cond.instanceMethod yX10_blind ∈ gws := gw (mt_8 (List.mem_of_getElem? (i := 228) rfl)) rfl
theorem wl_X10_blind : Cond.selects yX10_blind.cls yX10_blind yX10_blind ∈ gws := gw (mt_8 (List.mem_of_getElem? (i := 229) rfl)) rfl
theorem wc_X10_blindAct : Cond.code yX10_blindAct cX10_blindAct 8 (some .int) ∈ gws := gw (mt_9 (List.mem_of_getElem? (i := 6) rfl)) rfl
theorem wi_X10_blindAct : Cond.instanceMethod yX10_blindAct ∈ gws := gw (mt_9 (List.mem_of_getElem? (i := 4) rfl)) rfl
theorem wl_X10_blindAct : Cond.selects yX10_blindAct.cls yX10_blindAct yX10_blindAct ∈ gws := gw (mt_9 (List.mem_of_getElem? (i := 5) rfl)) rfl
theorem wc_X10_blow : Cond.code yX10_blow cX10_blow 4 (none) ∈ gws := gw (mt_8 (List.mem_of_getElem? (i := 86) rfl)) rfl
theorem wi_X10_blow : Cond.instanceMethod yX10_blow ∈ gws := gw (mt_8 (List.mem_of_getElem? (i := 85) rfl)) rfl
theorem wl_X10_blow : Cond.selects yX10_blow.cls yX10_blow yX10_blow ∈ gws := gw (List.mem_append_left _ (List.mem_of_getElem? (i := 85) rfl)) rfl
theorem wc_X10_borne : Cond.code yX10_borne cX10_borne 4 (some .int) ∈ gws := gw (mt_8 (List.mem_of_getElem? (i := 194) rfl)) rfl
theorem wi_X10_borne : Cond.instanceMethod yX10_borne ∈ gws := gw (mt_8 (List.mem_of_getElem? (i := 192) rfl)) rfl
theorem wl_X10_borne : Cond.selects yX10_borne.cls yX10_borne yX10_borne ∈ gws := gw (mt_8 (List.mem_of_getElem? (i := 193) rfl)) rfl
theorem wc_X10_byteAt : Cond.code yX10_byteAt cX10_byteAt 2 (some .int) ∈ gws := gw (mt_7 (List.mem_of_getElem? (i := 130) rfl)) rfl
theorem wi_X10_byteAt : Cond.instanceMethod yX10_byteAt ∈ gws := gw (mt_7 (List.mem_of_getElem? (i := 129) rfl)) rfl
theorem wl_X10_byteAt : Cond.selects yX10_byteAt.cls yX10_byteAt yX10_byteAt ∈ gws := gw (List.mem_append_left _ (List.mem_of_getElem? (i := 50) rfl)) rfl
theorem wc_X10_can : Cond.code yX10_can cX10_can 3 (some .int) ∈ gws := gw (mt_8 (List.mem_of_getElem? (i := 53) rfl)) rfl
theorem wi_X10_can : Cond.instanceMethod yX10_can ∈ gws := gw (mt_8 (List.mem_of_getElem? (i := 51) rfl)) rfl
theorem wl_X10_can : Cond.selects yX10_can.cls yX10_can yX10_can ∈ gws := gw (mt_8 (List.mem_of_getElem? (i := 52) rfl)) rfl
theorem wc_X10_clear : Cond.code yX10_clear cX10_clear 1 (none) ∈ gws := gw (mt_8 (List.mem_of_getElem? (i := 214) rfl)) rfl
theorem wi_X10_clear : Cond.instanceMethod yX10_clear ∈ gws := gw (mt_8 (List.mem_of_getElem? (i := 212) rfl)) rfl
theorem wl_X10_clear : Cond.selects yX10_clear.cls yX10_clear yX10_clear ∈ gws := gw (mt_8 (List.mem_of_getElem? (i := 213) rfl)) rfl
theorem wc_X10_comes : Cond.code yX10_comes cX10_comes 5 (some .boolean) ∈ gws := gw (mt_9 (List.mem_of_getElem? (i := 34) rfl)) rfl
theorem wi_X10_comes : Cond.instanceMethod yX10_comes ∈ gws := gw (mt_9 (List.mem_of_getElem? (i := 33) rfl)) rfl
theorem wl_X10_comes : Cond.selects yX10_comes.cls yX10_comes yX10_comes ∈ gws := gw (List.mem_append_left _ (List.mem_of_getElem? (i := 114) rfl)) rfl
theorem wc_X10_compare : Cond.code yX10_compare cX10_compare 7 (some .int) ∈ gws := gw (mt_9 (List.mem_of_getElem? (i := 118) rfl)) rfl
theorem wi_X10_compare : Cond.instanceMethod yX10_compare ∈ gws := gw (mt_9 (List.mem_of_getElem? (i := 116) rfl)) rfl
theorem wl_X10_compare : Cond.selects yX10_compare.cls yX10_compare yX10_compare ∈ gws := gw (mt_9 (List.mem_of_getElem? (i := 117) rfl)) rfl
theorem wc_X10_cond : Cond.code yX10_cond cX10_cond 6 (some .boolean) ∈ gws := gw (mt_8 (List.mem_of_getElem? (i := 18) rfl)) rfl
theorem wi_X10_cond : Cond.instanceMethod yX10_cond ∈ gws := gw (mt_8 (List.mem_of_getElem? (i := 17) rfl)) rfl
theorem wl_X10_cond : Cond.selects yX10_cond.cls yX10_cond yX10_cond ∈ gws := gw (List.mem_append_left _ (List.mem_of_getElem? (i := 75) rfl)) rfl
theorem wc_X10_count : Cond.code yX10_count cX10_count 2 (some .int) ∈ gws := gw (mt_9 (List.mem_of_getElem? (i := 122) rfl)) rfl
theorem wi_X10_count : Cond.instanceMethod yX10_count ∈ gws := gw (mt_9 (List.mem_of_getElem? (i := 120) rfl)) rfl
theorem wl_X10_count : Cond.selects yX10_count.cls yX10_count yX10_count ∈ gws := gw (mt_9 (List.mem_of_getElem? (i := 121) rfl)) rfl
theorem wc_X10_countRows : Cond.code yX10_countRows cX10_countRows 6 (none) ∈ gws := gw (mt_9 (List.mem_of_getElem? (i := 59) rfl)) rfl
theorem wi_X10_countRows : Cond.instanceMethod yX10_countRows ∈ gws := gw (mt_9 (List.mem_of_getElem? (i := 58) rfl)) rfl
theorem wl_X10_countRows : Cond.selects yX10_countRows.cls yX10_countRows yX10_countRows ∈ gws := gw (List.mem_append_left _ (List.mem_of_getElem? (i := 116) rfl)) rfl
theorem wc_X10_doom : Cond.code yX10_doom cX10_doom 3 (some .int) ∈ gws := gw (mt_8 (List.mem_of_getElem? (i := 190) rfl)) rfl
theorem wi_X10_doom : Cond.instanceMethod yX10_doom ∈ gws := gw (mt_8 (List.mem_of_getElem? (i := 188) rfl)) rfl
theorem wl_X10_doom : Cond.selects yX10_doom.cls yX10_doom yX10_doom ∈ gws := gw (mt_8 (List.mem_of_getElem? (i := 189) rfl)) rfl
theorem wc_X10_drill : Cond.code yX10_drill cX10_drill 8 (some .int) ∈ gws := gw (mt_9 (List.mem_of_getElem? (i := 99) rfl)) rfl
theorem wi_X10_drill : Cond.instanceMethod yX10_drill ∈ gws := gw (mt_9 (List.mem_of_getElem? (i := 97) rfl)) rfl
theorem wl_X10_drill : Cond.selects yX10_drill.cls yX10_drill yX10_drill ∈ gws := gw (mt_9 (List.mem_of_getElem? (i := 98) rfl)) rfl
theorem wc_X10_drilled : Cond.code yX10_drilled cX10_drilled 6 (some .int) ∈ gws := gw (mt_9 (List.mem_of_getElem? (i := 103) rfl)) rfl
theorem wi_X10_drilled : Cond.instanceMethod yX10_drilled ∈ gws := gw (mt_9 (List.mem_of_getElem? (i := 102) rfl)) rfl
theorem wl_X10_drilled : Cond.selects yX10_drilled.cls yX10_drilled yX10_drilled ∈ gws := gw (List.mem_append_left _ (List.mem_of_getElem? (i := 118) rfl)) rfl
theorem wc_X10_driven : Cond.code yX10_driven cX10_driven 3 (some .int) ∈ gws := gw (mt_9 (List.mem_of_getElem? (i := 30) rfl)) rfl
theorem wi_X10_driven : Cond.instanceMethod yX10_driven ∈ gws := gw (mt_9 (List.mem_of_getElem? (i := 29) rfl)) rfl
theorem wl_X10_driven : Cond.selects yX10_driven.cls yX10_driven yX10_driven ∈ gws := gw (List.mem_append_left _ (List.mem_of_getElem? (i := 113) rfl)) rfl
theorem wc_X10_edge : Cond.code yX10_edge cX10_edge 6 (some .int) ∈ gws := gw (mt_8 (List.mem_of_getElem? (i := 186) rfl)) rfl
theorem wi_X10_edge : Cond.instanceMethod yX10_edge ∈ gws := gw (mt_8 (List.mem_of_getElem? (i := 184) rfl)) rfl
theorem wl_X10_edge : Cond.selects yX10_edge.cls yX10_edge yX10_edge ∈ gws := gw (mt_8 (List.mem_of_getElem? (i := 185) rfl)) rfl
theorem wc_X10_emit : Cond.code yX10_emit cX10_emit 3 (none) ∈ gws := gw (mt_7 (List.mem_of_getElem? (i := 227) rfl)) rfl
theorem wi_X10_emit : Cond.instanceMethod yX10_emit ∈ gws := gw (mt_7 (List.mem_of_getElem? (i := 226) rfl)) rfl
theorem wl_X10_emit : Cond.selects yX10_emit.cls yX10_emit yX10_emit ∈ gws := gw (List.mem_append_left _ (List.mem_of_getElem? (i := 68) rfl)) rfl
theorem wc_X10_expr : Cond.code yX10_expr cX10_expr 5 (some .boolean) ∈ gws := gw (mt_7 (List.mem_of_getElem? (i := 212) rfl)) rfl
theorem wi_X10_expr : Cond.instanceMethod yX10_expr ∈ gws := gw (mt_7 (List.mem_of_getElem? (i := 211) rfl)) rfl
theorem wl_X10_expr : Cond.selects yX10_expr.cls yX10_expr yX10_expr ∈ gws := gw (List.mem_append_left _ (List.mem_of_getElem? (i := 65) rfl)) rfl
theorem wc_X10_fatal : Cond.code yX10_fatal cX10_fatal 4 (some .int) ∈ gws := gw (mt_9 (List.mem_of_getElem? (i := 46) rfl)) rfl
theorem wi_X10_fatal : Cond.instanceMethod yX10_fatal ∈ gws := gw (mt_9 (List.mem_of_getElem? (i := 45) rfl)) rfl
theorem wl_X10_fatal : Cond.selects yX10_fatal.cls yX10_fatal yX10_fatal ∈ gws := gw (List.mem_append_left _ (List.mem_of_getElem? (i := 115) rfl)) rfl
theorem wc_X10_fate : Cond.code yX10_fate cX10_fate 2 (some .int) ∈ gws := gw (mt_8 (List.mem_of_getElem? (i := 146) rfl)) rfl
theorem wi_X10_fate : Cond.instanceMethod yX10_fate ∈ gws := gw (mt_8 (List.mem_of_getElem? (i := 144) rfl)) rfl
theorem wl_X10_fate : Cond.selects yX10_fate.cls yX10_fate yX10_fate ∈ gws := gw (mt_8 (List.mem_of_getElem? (i := 145) rfl)) rfl
theorem wc_X10_fates : Cond.code yX10_fates cX10_fates 6 (none) ∈ gws := gw (mt_8 (List.mem_of_getElem? (i := 126) rfl)) rfl
theorem wi_X10_fates : Cond.instanceMethod yX10_fates ∈ gws := gw (mt_8 (List.mem_of_getElem? (i := 125) rfl)) rfl
theorem wl_X10_fates : Cond.selects yX10_fates.cls yX10_fates yX10_fates ∈ gws := gw (List.mem_append_left _ (List.mem_of_getElem? (i := 95) rfl)) rfl
theorem wc_X10_feed : Cond.code yX10_feed cX10_feed 6 (some .int) ∈ gws := gw (mt_7 (List.mem_of_getElem? (i := 110) rfl)) rfl
theorem wi_X10_feed : Cond.instanceMethod yX10_feed ∈ gws := gw (mt_7 (List.mem_of_getElem? (i := 108) rfl)) rfl
theorem wl_X10_feed : Cond.selects yX10_feed.cls yX10_feed yX10_feed ∈ gws := gw (mt_7 (List.mem_of_getElem? (i := 109) rfl)) rfl
theorem wc_X10_forecast : Cond.code yX10_forecast cX10_forecast 2 (some .int) ∈ gws := gw (mt_8 (List.mem_of_getElem? (i := 210) rfl)) rfl
theorem wi_X10_forecast : Cond.instanceMethod yX10_forecast ∈ gws := gw (mt_8 (List.mem_of_getElem? (i := 208) rfl)) rfl
theorem wl_X10_forecast : Cond.selects yX10_forecast.cls yX10_forecast yX10_forecast ∈ gws := gw (mt_8 (List.mem_of_getElem? (i := 209) rfl)) rfl
theorem wc_X10_forget : Cond.code yX10_forget cX10_forget 2 (some .int) ∈ gws := gw (mt_9 (List.mem_of_getElem? (i := 71) rfl)) rfl
theorem wi_X10_forget : Cond.instanceMethod yX10_forget ∈ gws := gw (mt_9 (List.mem_of_getElem? (i := 69) rfl)) rfl
theorem wl_X10_forget : Cond.selects yX10_forget.cls yX10_forget yX10_forget ∈ gws := gw (mt_9 (List.mem_of_getElem? (i := 70) rfl)) rfl
theorem wc_X10_goesBlindly : Cond.code yX10_goesBlindly cX10_goesBlindly 5 (some .boolean) ∈ gws := gw (mt_9 (List.mem_of_getElem? (i := 2) rfl)) rfl
theorem wi_X10_goesBlindly : Cond.instanceMethod yX10_goesBlindly ∈ gws := gw (mt_9 (List.mem_of_getElem? (i := 1) rfl)) rfl
theorem wl_X10_goesBlindly : Cond.selects yX10_goesBlindly.cls yX10_goesBlindly yX10_goesBlindly ∈ gws := gw (List.mem_append_left _ (List.mem_of_getElem? (i := 108) rfl)) rfl
theorem wc_X10_gust : Cond.code yX10_gust cX10_gust 3 (some .int) ∈ gws := gw (mt_8 (List.mem_of_getElem? (i := 138) rfl)) rfl
theorem wi_X10_gust : Cond.instanceMethod yX10_gust ∈ gws := gw (mt_8 (List.mem_of_getElem? (i := 136) rfl)) rfl
theorem wl_X10_gust : Cond.selects yX10_gust.cls yX10_gust yX10_gust ∈ gws := gw (mt_8 (List.mem_of_getElem? (i := 137) rfl)) rfl
theorem wc_X10_hold : Cond.code yX10_hold cX10_hold 5 (some .int) ∈ gws := gw (mt_9 (List.mem_of_getElem? (i := 114) rfl)) rfl
theorem wi_X10_hold : Cond.instanceMethod yX10_hold ∈ gws := gw (mt_9 (List.mem_of_getElem? (i := 112) rfl)) rfl
theorem wl_X10_hold : Cond.selects yX10_hold.cls yX10_hold yX10_hold ∈ gws := gw (mt_9 (List.mem_of_getElem? (i := 113) rfl)) rfl
theorem wc_X10_isAct : Cond.code yX10_isAct cX10_isAct 2 (some .boolean) ∈ gws := gw (mt_8 (List.mem_of_getElem? (i := 70) rfl)) rfl
theorem wi_X10_isAct : Cond.instanceMethod yX10_isAct ∈ gws := gw (mt_8 (List.mem_of_getElem? (i := 69) rfl)) rfl
theorem wl_X10_isAct : Cond.selects yX10_isAct.cls yX10_isAct yX10_isAct ∈ gws := gw (List.mem_append_left _ (List.mem_of_getElem? (i := 81) rfl)) rfl
theorem wc_X10_isBlindly : Cond.code yX10_isBlindly cX10_isBlindly 9 (some .boolean) ∈ gws := gw (mt_8 (List.mem_of_getElem? (i := 238) rfl)) rfl
theorem wi_X10_isBlindly : Cond.instanceMethod yX10_isBlindly ∈ gws := gw (mt_8 (List.mem_of_getElem? (i := 237) rfl)) rfl
theorem wl_X10_isBlindly : Cond.selects yX10_isBlindly.cls yX10_isBlindly yX10_isBlindly ∈ gws := gw (List.mem_append_left _ (List.mem_of_getElem? (i := 107) rfl)) rfl
theorem wc_X10_isDigit : Cond.code yX10_isDigit cX10_isDigit 2 (some .boolean) ∈ gws := gw (mt_7 (List.mem_of_getElem? (i := 168) rfl)) rfl
theorem wi_X10_isDigit : Cond.instanceMethod yX10_isDigit ∈ gws := gw (mt_7 (List.mem_of_getElem? (i := 167) rfl)) rfl
theorem wl_X10_isDigit : Cond.selects yX10_isDigit.cls yX10_isDigit yX10_isDigit ∈ gws := gw (List.mem_append_left _ (List.mem_of_getElem? (i := 54) rfl)) rfl
theorem wc_X10_isHeld : Cond.code yX10_isHeld cX10_isHeld 6 (some .boolean) ∈ gws := gw (mt_8 (List.mem_of_getElem? (i := 94) rfl)) rfl
theorem wi_X10_isHeld : Cond.instanceMethod yX10_isHeld ∈ gws := gw (mt_8 (List.mem_of_getElem? (i := 93) rfl)) rfl
theorem wl_X10_isHeld : Cond.selects yX10_isHeld.cls yX10_isHeld yX10_isHeld ∈ gws := gw (List.mem_append_left _ (List.mem_of_getElem? (i := 87) rfl)) rfl
theorem wc_X10_isKept : Cond.code yX10_isKept cX10_isKept 6 (some .boolean) ∈ gws := gw (mt_8 (List.mem_of_getElem? (i := 130) rfl)) rfl
theorem wi_X10_isKept : Cond.instanceMethod yX10_isKept ∈ gws := gw (mt_8 (List.mem_of_getElem? (i := 129) rfl)) rfl
theorem wl_X10_isKept : Cond.selects yX10_isKept.cls yX10_isKept yX10_isKept ∈ gws := gw (List.mem_append_left _ (List.mem_of_getElem? (i := 96) rfl)) rfl
theorem wc_X10_isLetter : Cond.code yX10_isLetter cX10_isLetter 2 (some .boolean) ∈ gws := gw (mt_7 (List.mem_of_getElem? (i := 138) rfl)) rfl
theorem wi_X10_isLetter : Cond.instanceMethod yX10_isLetter ∈ gws := gw (mt_7 (List.mem_of_getElem? (i := 137) rfl)) rfl
theorem wl_X10_isLetter : Cond.selects yX10_isLetter.cls yX10_isLetter yX10_isLetter ∈ gws := gw (List.mem_append_left _ (List.mem_of_getElem? (i := 52) rfl)) rfl
theorem wc_X10_isLit : Cond.code yX10_isLit cX10_isLit 5 (some .boolean) ∈ gws := gw (mt_8 (List.mem_of_getElem? (i := 98) rfl)) rfl
theorem wi_X10_isLit : Cond.instanceMethod yX10_isLit ∈ gws := gw (mt_8 (List.mem_of_getElem? (i := 97) rfl)) rfl
theorem wl_X10_isLit : Cond.selects yX10_isLit.cls yX10_isLit yX10_isLit ∈ gws := gw (List.mem_append_left _ (List.mem_of_getElem? (i := 88) rfl)) rfl
theorem wc_X10_isNearer : Cond.code yX10_isNearer cX10_isNearer 6 (some .boolean) ∈ gws := gw (mt_8 (List.mem_of_getElem? (i := 174) rfl)) rfl
theorem wi_X10_isNearer : Cond.instanceMethod yX10_isNearer ∈ gws := gw (mt_8 (List.mem_of_getElem? (i := 173) rfl)) rfl
theorem wl_X10_isNearer : Cond.selects yX10_isNearer.cls yX10_isNearer yX10_isNearer ∈ gws := gw (List.mem_append_left _ (List.mem_of_getElem? (i := 102) rfl)) rfl
theorem wc_X10_isOver : Cond.code yX10_isOver cX10_isOver 2 (some .boolean) ∈ gws := gw (mt_8 (List.mem_of_getElem? (i := 114) rfl)) rfl
theorem wi_X10_isOver : Cond.instanceMethod yX10_isOver ∈ gws := gw (mt_8 (List.mem_of_getElem? (i := 113) rfl)) rfl
theorem wl_X10_isOver : Cond.selects yX10_isOver.cls yX10_isOver yX10_isOver ∈ gws := gw (List.mem_append_left _ (List.mem_of_getElem? (i := 92) rfl)) rfl
theorem wc_X10_isPlace : Cond.code yX10_isPlace cX10_isPlace 4 (some .boolean) ∈ gws := gw (mt_8 (List.mem_of_getElem? (i := 46) rfl)) rfl
theorem wi_X10_isPlace : Cond.instanceMethod yX10_isPlace ∈ gws := gw (mt_8 (List.mem_of_getElem? (i := 45) rfl)) rfl
theorem wl_X10_isPlace : Cond.selects yX10_isPlace.cls yX10_isPlace yX10_isPlace ∈ gws := gw (List.mem_append_left _ (List.mem_of_getElem? (i := 79) rfl)) rfl
theorem wc_X10_isSafe : Cond.code yX10_isSafe cX10_isSafe 2 (some .boolean) ∈ gws := gw (mt_8 (List.mem_of_getElem? (i := 158) rfl)) rfl
theorem wi_X10_isSafe : Cond.instanceMethod yX10_isSafe ∈ gws := gw (mt_8 (List.mem_of_getElem? (i := 157) rfl)) rfl
theorem wl_X10_isSafe : Cond.selects yX10_isSafe.cls yX10_isSafe yX10_isSafe ∈ gws := gw (List.mem_append_left _ (List.mem_of_getElem? (i := 99) rfl)) rfl
theorem wc_X10_isSafeBy : Cond.code yX10_isSafeBy cX10_isSafeBy 5 (some .boolean) ∈ gws := gw (mt_8 (List.mem_of_getElem? (i := 162) rfl)) rfl
theorem wi_X10_isSafeBy : Cond.instanceMethod yX10_isSafeBy ∈ gws := gw (mt_8 (List.mem_of_getElem? (i := 161) rfl)) rfl
theorem wl_X10_isSafeBy : Cond.selects yX10_isSafeBy.cls yX10_isSafeBy yX10_isSafeBy ∈ gws := gw (List.mem_append_left _ (List.mem_of_getElem? (i := 100) rfl)) rfl
theorem wc_X10_isSaved : Cond.code yX10_isSaved cX10_isSaved 6 (some .boolean) ∈ gws := gw (mt_8 (List.mem_of_getElem? (i := 202) rfl)) rfl
theorem wi_X10_isSaved : Cond.instanceMethod yX10_isSaved ∈ gws := gw (mt_8 (List.mem_of_getElem? (i := 201) rfl)) rfl
theorem wl_X10_isSaved : Cond.selects yX10_isSaved.cls yX10_isSaved yX10_isSaved ∈ gws := gw (List.mem_append_left _ (List.mem_of_getElem? (i := 104) rfl)) rfl
theorem wc_X10_isSign : Cond.code yX10_isSign cX10_isSign 2 (some .boolean) ∈ gws := gw (mt_7 (List.mem_of_getElem? (i := 216) rfl)) rfl
theorem wi_X10_isSign : Cond.instanceMethod yX10_isSign ∈ gws := gw (mt_7 (List.mem_of_getElem? (i := 215) rfl)) rfl
theorem wl_X10_isSign : Cond.selects yX10_isSign.cls yX10_isSign yX10_isSign ∈ gws := gw (List.mem_append_left _ (List.mem_of_getElem? (i := 66) rfl)) rfl
theorem wc_X10_isState : Cond.code yX10_isState cX10_isState 2 (some .boolean) ∈ gws := gw (mt_8 (List.mem_of_getElem? (i := 57) rfl)) rfl
theorem wi_X10_isState : Cond.instanceMethod yX10_isState ∈ gws := gw (mt_8 (List.mem_of_getElem? (i := 56) rfl)) rfl
theorem wl_X10_isState : Cond.selects yX10_isState.cls yX10_isState yX10_isState ∈ gws := gw (List.mem_append_left _ (List.mem_of_getElem? (i := 80) rfl)) rfl
theorem wc_X10_isWord : Cond.code yX10_isWord cX10_isWord 2 (some .boolean) ∈ gws := gw (mt_8 (List.mem_of_getElem? (i := 14) rfl)) rfl
theorem wi_X10_isWord : Cond.instanceMethod yX10_isWord ∈ gws := gw (mt_8 (List.mem_of_getElem? (i := 13) rfl)) rfl
theorem wl_X10_isWord : Cond.selects yX10_isWord.cls yX10_isWord yX10_isWord ∈ gws := gw (List.mem_append_left _ (List.mem_of_getElem? (i := 74) rfl)) rfl
theorem wc_X10_keep : Cond.code yX10_keep cX10_keep 2 (some .int) ∈ gws := gw (mt_8 (List.mem_of_getElem? (i := 150) rfl)) rfl
theorem wi_X10_keep : Cond.instanceMethod yX10_keep ∈ gws := gw (mt_8 (List.mem_of_getElem? (i := 148) rfl)) rfl
theorem wl_X10_keep : Cond.selects yX10_keep.cls yX10_keep yX10_keep ∈ gws := gw (mt_8 (List.mem_of_getElem? (i := 149) rfl)) rfl
theorem wc_X10_keepOf : Cond.code yX10_keepOf cX10_keepOf 3 (some .int) ∈ gws := gw (mt_8 (List.mem_of_getElem? (i := 154) rfl)) rfl
theorem wi_X10_keepOf : Cond.instanceMethod yX10_keepOf ∈ gws := gw (mt_8 (List.mem_of_getElem? (i := 153) rfl)) rfl
theorem wl_X10_keepOf : Cond.selects yX10_keepOf.cls yX10_keepOf yX10_keepOf ∈ gws := gw (List.mem_append_left _ (List.mem_of_getElem? (i := 98) rfl)) rfl
theorem wc_X10_known : Cond.code yX10_known cX10_known 2 (some .int) ∈ gws := gw (mt_8 (List.mem_of_getElem? (i := 218) rfl)) rfl
theorem wi_X10_known : Cond.instanceMethod yX10_known ∈ gws := gw (mt_8 (List.mem_of_getElem? (i := 216) rfl)) rfl
theorem wl_X10_known : Cond.selects yX10_known.cls yX10_known yX10_known ∈ gws := gw (mt_8 (List.mem_of_getElem? (i := 217) rfl)) rfl
theorem wc_X10_knownAct : Cond.code yX10_knownAct cX10_knownAct 10 (some .int) ∈ gws := gw (mt_8 (List.mem_of_getElem? (i := 226) rfl)) rfl
theorem wi_X10_knownAct : Cond.instanceMethod yX10_knownAct ∈ gws := gw (mt_8 (List.mem_of_getElem? (i := 224) rfl)) rfl
theorem wl_X10_knownAct : Cond.selects yX10_knownAct.cls yX10_knownAct yX10_knownAct ∈ gws := gw (mt_8 (List.mem_of_getElem? (i := 225) rfl)) rfl
theorem wc_X10_knownOf : Cond.code yX10_knownOf cX10_knownOf 7 (some .int) ∈ gws := gw (mt_8 (List.mem_of_getElem? (i := 222) rfl)) rfl
theorem wi_X10_knownOf : Cond.instanceMethod yX10_knownOf ∈ gws := gw (mt_8 (List.mem_of_getElem? (i := 221) rfl)) rfl
theorem wl_X10_knownOf : Cond.selects yX10_knownOf.cls yX10_knownOf yX10_knownOf ∈ gws := gw (List.mem_append_left _ (List.mem_of_getElem? (i := 105) rfl)) rfl
theorem wc_X10_lay : Cond.code yX10_lay cX10_lay 1 (none) ∈ gws := gw (mt_8 (List.mem_of_getElem? (i := 78) rfl)) rfl
theorem wi_X10_lay : Cond.instanceMethod yX10_lay ∈ gws := gw (mt_8 (List.mem_of_getElem? (i := 77) rfl)) rfl
theorem wl_X10_lay : Cond.selects yX10_lay.cls yX10_lay yX10_lay ∈ gws := gw (List.mem_append_left _ (List.mem_of_getElem? (i := 83) rfl)) rfl
theorem wc_X10_layAll : Cond.code yX10_layAll cX10_layAll 4 (none) ∈ gws := gw (mt_8 (List.mem_of_getElem? (i := 82) rfl)) rfl
theorem wi_X10_layAll : Cond.instanceMethod yX10_layAll ∈ gws := gw (mt_8 (List.mem_of_getElem? (i := 81) rfl)) rfl
theorem wl_X10_layAll : Cond.selects yX10_layAll.cls yX10_layAll yX10_layAll ∈ gws := gw (List.mem_append_left _ (List.mem_of_getElem? (i := 84) rfl)) rfl
theorem wc_X10_lead : Cond.code yX10_lead cX10_lead 3 (some .int) ∈ gws := gw (mt_8 (List.mem_of_getElem? (i := 178) rfl)) rfl
theorem wi_X10_lead : Cond.instanceMethod yX10_lead ∈ gws := gw (mt_8 (List.mem_of_getElem? (i := 176) rfl)) rfl
theorem wl_X10_lead : Cond.selects yX10_lead.cls yX10_lead yX10_lead ∈ gws := gw (mt_8 (List.mem_of_getElem? (i := 177) rfl)) rfl
theorem wc_X10_leads : Cond.code yX10_leads cX10_leads 4 (some .int) ∈ gws := gw (mt_8 (List.mem_of_getElem? (i := 134) rfl)) rfl
theorem wi_X10_leads : Cond.instanceMethod yX10_leads ∈ gws := gw (mt_8 (List.mem_of_getElem? (i := 133) rfl)) rfl
theorem wl_X10_leads : Cond.selects yX10_leads.cls yX10_leads yX10_leads ∈ gws := gw (List.mem_append_left _ (List.mem_of_getElem? (i := 97) rfl)) rfl
theorem wc_X10_leanOf : Cond.code yX10_leanOf cX10_leanOf 1 (some .int) ∈ gws := gw (mt_8 (List.mem_of_getElem? (i := 63) rfl)) rfl
theorem wt_X10_leanOf : Cond.static yX10_leanOf ∈ gws := gw (mt_8 (List.mem_of_getElem? (i := 62) rfl)) rfl
theorem wc_X10_learn : Cond.code yX10_learn cX10_learn 8 (some .int) ∈ gws := gw (mt_9 (List.mem_of_getElem? (i := 63) rfl)) rfl
theorem wi_X10_learn : Cond.instanceMethod yX10_learn ∈ gws := gw (mt_9 (List.mem_of_getElem? (i := 61) rfl)) rfl
theorem wl_X10_learn : Cond.selects yX10_learn.cls yX10_learn yX10_learn ∈ gws := gw (mt_9 (List.mem_of_getElem? (i := 62) rfl)) rfl
theorem wc_X10_learned : Cond.code yX10_learned cX10_learned 2 (some .int) ∈ gws := gw (mt_9 (List.mem_of_getElem? (i := 67) rfl)) rfl
theorem wi_X10_learned : Cond.instanceMethod yX10_learned ∈ gws := gw (mt_9 (List.mem_of_getElem? (i := 65) rfl)) rfl
theorem wl_X10_learned : Cond.selects yX10_learned.cls yX10_learned yX10_learned ∈ gws := gw (mt_9 (List.mem_of_getElem? (i := 66) rfl)) rfl
theorem wc_X10_learnedAt : Cond.code yX10_learnedAt cX10_learnedAt 3 (some .int) ∈ gws := gw (mt_9 (List.mem_of_getElem? (i := 22) rfl)) rfl
theorem wi_X10_learnedAt : Cond.instanceMethod yX10_learnedAt ∈ gws := gw (mt_9 (List.mem_of_getElem? (i := 21) rfl)) rfl
theorem wl_X10_learnedAt : Cond.selects yX10_learnedAt.cls yX10_learnedAt yX10_learnedAt ∈ gws := gw (List.mem_append_left _ (List.mem_of_getElem? (i := 111) rfl)) rfl
theorem wc_X10_look : Cond.code yX10_look cX10_look 4 (none) ∈ gws := gw (mt_8 (List.mem_of_getElem? (i := 90) rfl)) rfl
theorem wi_X10_look : Cond.instanceMethod yX10_look ∈ gws := gw (mt_8 (List.mem_of_getElem? (i := 89) rfl)) rfl
theorem wl_X10_look : Cond.selects yX10_look.cls yX10_look yX10_look ∈ gws := gw (List.mem_append_left _ (List.mem_of_getElem? (i := 86) rfl)) rfl
theorem wc_X10_lot : Cond.code yX10_lot cX10_lot 3 (some .int) ∈ gws := gw (mt_9 (List.mem_of_getElem? (i := 106) rfl)) rfl
theorem wt_X10_lot : Cond.static yX10_lot ∈ gws := gw (mt_9 (List.mem_of_getElem? (i := 105) rfl)) rfl
theorem wc_X10_mayCond : Cond.code yX10_mayCond cX10_mayCond 1 (some .boolean) ∈ gws := gw (mt_8 (List.mem_of_getElem? (i := 10) rfl)) rfl
theorem wi_X10_mayCond : Cond.instanceMethod yX10_mayCond ∈ gws := gw (mt_8 (List.mem_of_getElem? (i := 9) rfl)) rfl
theorem wl_X10_mayCond : Cond.selects yX10_mayCond.cls yX10_mayCond yX10_mayCond ∈ gws := gw (List.mem_append_left _ (List.mem_of_getElem? (i := 73) rfl)) rfl
theorem wc_X10_mayDo : Cond.code yX10_mayDo cX10_mayDo 3 (some .boolean) ∈ gws := gw (mt_8 (List.mem_of_getElem? (i := 110) rfl)) rfl
theorem wi_X10_mayDo : Cond.instanceMethod yX10_mayDo ∈ gws := gw (mt_8 (List.mem_of_getElem? (i := 109) rfl)) rfl
theorem wl_X10_mayDo : Cond.selects yX10_mayDo.cls yX10_mayDo yX10_mayDo ∈ gws := gw (List.mem_append_left _ (List.mem_of_getElem? (i := 91) rfl)) rfl
theorem wc_X10_mayFall : Cond.code yX10_mayFall cX10_mayFall 5 (some .boolean) ∈ gws := gw (mt_9 (List.mem_of_getElem? (i := 26) rfl)) rfl
theorem wi_X10_mayFall : Cond.instanceMethod yX10_mayFall ∈ gws := gw (mt_9 (List.mem_of_getElem? (i := 25) rfl)) rfl
theorem wl_X10_mayFall : Cond.selects yX10_mayFall.cls yX10_mayFall yX10_mayFall ∈ gws := gw (List.mem_append_left _ (List.mem_of_getElem? (i := 112) rfl)) rfl
theorem wc_X10_mixed : Cond.code yX10_mixed cX10_mixed 3 (some .int) ∈ gws := gw (mt_9 (List.mem_of_getElem? (i := 109) rfl)) rfl
theorem wt_X10_mixed : Cond.static yX10_mixed ∈ gws := gw (mt_9 (List.mem_of_getElem? (i := 108) rfl)) rfl
theorem wc_X10_next : Cond.code yX10_next cX10_next 4 (some .int) ∈ gws := gw (mt_8 (List.mem_of_getElem? (i := 142) rfl)) rfl
theorem wi_X10_next : Cond.instanceMethod yX10_next ∈ gws := gw (mt_8 (List.mem_of_getElem? (i := 140) rfl)) rfl
theorem wl_X10_next : Cond.selects yX10_next.cls yX10_next yX10_next ∈ gws := gw (mt_8 (List.mem_of_getElem? (i := 141) rfl)) rfl
theorem wc_X10_numberOf : Cond.code yX10_numberOf cX10_numberOf 3 (some .int) ∈ gws := gw (mt_8 (List.mem_of_getElem? (i := 49) rfl)) rfl
theorem wt_X10_numberOf : Cond.static yX10_numberOf ∈ gws := gw (mt_8 (List.mem_of_getElem? (i := 48) rfl)) rfl
theorem wc_X10_odds : Cond.code yX10_odds cX10_odds 6 (some .long) ∈ gws := gw (mt_9 (List.mem_of_getElem? (i := 54) rfl)) rfl
theorem wi_X10_odds : Cond.instanceMethod yX10_odds ∈ gws := gw (mt_9 (List.mem_of_getElem? (i := 52) rfl)) rfl
theorem wl_X10_odds : Cond.selects yX10_odds.cls yX10_odds yX10_odds ∈ gws := gw (mt_9 (List.mem_of_getElem? (i := 53) rfl)) rfl
theorem wc_X10_parses : Cond.code yX10_parses cX10_parses 1 (some .boolean) ∈ gws := gw (mt_7 (List.mem_of_getElem? (i := 176) rfl)) rfl
theorem wi_X10_parses : Cond.instanceMethod yX10_parses ∈ gws := gw (mt_7 (List.mem_of_getElem? (i := 175) rfl)) rfl
theorem wl_X10_parses : Cond.selects yX10_parses.cls yX10_parses yX10_parses ∈ gws := gw (List.mem_append_left _ (List.mem_of_getElem? (i := 56) rfl)) rfl
theorem wc_X10_pass : Cond.code yX10_pass cX10_pass 1 (some .boolean) ∈ gws := gw (mt_7 (List.mem_of_getElem? (i := 188) rfl)) rfl
theorem wi_X10_pass : Cond.instanceMethod yX10_pass ∈ gws := gw (mt_7 (List.mem_of_getElem? (i := 187) rfl)) rfl
theorem wl_X10_pass : Cond.selects yX10_pass.cls yX10_pass yX10_pass ∈ gws := gw (List.mem_append_left _ (List.mem_of_getElem? (i := 59) rfl)) rfl
theorem wc_X10_place : Cond.code yX10_place cX10_place 1 (some .int) ∈ gws := gw (mt_8 (List.mem_of_getElem? (i := 34) rfl)) rfl
theorem wi_X10_place : Cond.instanceMethod yX10_place ∈ gws := gw (mt_8 (List.mem_of_getElem? (i := 32) rfl)) rfl
theorem wl_X10_place : Cond.selects yX10_place.cls yX10_place yX10_place ∈ gws := gw (mt_8 (List.mem_of_getElem? (i := 33) rfl)) rfl
theorem wc_X10_pole : Cond.code yX10_pole cX10_pole 3 (some .boolean) ∈ gws := gw (mt_8 (List.mem_of_getElem? (i := 38) rfl)) rfl
theorem wi_X10_pole : Cond.instanceMethod yX10_pole ∈ gws := gw (mt_8 (List.mem_of_getElem? (i := 36) rfl)) rfl
theorem wl_X10_pole : Cond.selects yX10_pole.cls yX10_pole yX10_pole ∈ gws := gw (mt_8 (List.mem_of_getElem? (i := 37) rfl)) rfl
theorem wc_X10_poles : Cond.code yX10_poles cX10_poles 4 (some .int) ∈ gws := gw (mt_8 (List.mem_of_getElem? (i := 206) rfl)) rfl
theorem wi_X10_poles : Cond.instanceMethod yX10_poles ∈ gws := gw (mt_8 (List.mem_of_getElem? (i := 204) rfl)) rfl
theorem wl_X10_poles : Cond.selects yX10_poles.cls yX10_poles yX10_poles ∈ gws := gw (mt_8 (List.mem_of_getElem? (i := 205) rfl)) rfl
theorem wc_X10_proof : Cond.code yX10_proof cX10_proof 2 (some .int) ∈ gws := gw (mt_9 (List.mem_of_getElem? (i := 38) rfl)) rfl
theorem wi_X10_proof : Cond.instanceMethod yX10_proof ∈ gws := gw (mt_9 (List.mem_of_getElem? (i := 36) rfl)) rfl
theorem wl_X10_proof : Cond.selects yX10_proof.cls yX10_proof yX10_proof ∈ gws := gw (mt_9 (List.mem_of_getElem? (i := 37) rfl)) rfl
theorem wc_X10_pushOf : Cond.code yX10_pushOf cX10_pushOf 2 (some .int) ∈ gws := gw (mt_8 (List.mem_of_getElem? (i := 118) rfl)) rfl
theorem wi_X10_pushOf : Cond.instanceMethod yX10_pushOf ∈ gws := gw (mt_8 (List.mem_of_getElem? (i := 117) rfl)) rfl
theorem wl_X10_pushOf : Cond.selects yX10_pushOf.cls yX10_pushOf yX10_pushOf ∈ gws := gw (List.mem_append_left _ (List.mem_of_getElem? (i := 93) rfl)) rfl
theorem wc_X10_raise : Cond.code yX10_raise cX10_raise 2 (some .int) ∈ gws := gw (mt_9 (List.mem_of_getElem? (i := 83) rfl)) rfl
theorem wi_X10_raise : Cond.instanceMethod yX10_raise ∈ gws := gw (mt_9 (List.mem_of_getElem? (i := 82) rfl)) rfl
theorem wl_X10_raise : Cond.selects yX10_raise.cls yX10_raise yX10_raise ∈ gws := gw (List.mem_append_left _ (List.mem_of_getElem? (i := 117) rfl)) rfl
theorem wc_X10_rank : Cond.code yX10_rank cX10_rank 1 (some .int) ∈ gws := gw (mt_7 (List.mem_of_getElem? (i := 234) rfl)) rfl
theorem wt_X10_rank : Cond.static yX10_rank ∈ gws := gw (mt_7 (List.mem_of_getElem? (i := 233) rfl)) rfl
theorem wc_X10_reach : Cond.code yX10_reach cX10_reach 2 (some .int) ∈ gws := gw (mt_8 (List.mem_of_getElem? (i := 166) rfl)) rfl
theorem wi_X10_reach : Cond.instanceMethod yX10_reach ∈ gws := gw (mt_8 (List.mem_of_getElem? (i := 164) rfl)) rfl
theorem wl_X10_reach : Cond.selects yX10_reach.cls yX10_reach yX10_reach ∈ gws := gw (mt_8 (List.mem_of_getElem? (i := 165) rfl)) rfl
theorem wc_X10_reaches : Cond.code yX10_reaches cX10_reaches 6 (none) ∈ gws := gw (mt_8 (List.mem_of_getElem? (i := 170) rfl)) rfl
theorem wi_X10_reaches : Cond.instanceMethod yX10_reaches ∈ gws := gw (mt_8 (List.mem_of_getElem? (i := 169) rfl)) rfl
theorem wl_X10_reaches : Cond.selects yX10_reaches.cls yX10_reaches yX10_reaches ∈ gws := gw (List.mem_append_left _ (List.mem_of_getElem? (i := 101) rfl)) rfl
theorem wc_X10_read : Cond.code yX10_read cX10_read 1 (some .int) ∈ gws := gw (mt_7 (List.mem_of_getElem? (i := 122) rfl)) rfl
theorem wi_X10_read : Cond.instanceMethod yX10_read ∈ gws := gw (mt_7 (List.mem_of_getElem? (i := 120) rfl)) rfl
theorem wl_X10_read : Cond.selects yX10_read.cls yX10_read yX10_read ∈ gws := gw (mt_7 (List.mem_of_getElem? (i := 121) rfl)) rfl
theorem wc_X10_reduce : Cond.code yX10_reduce cX10_reduce 3 (none) ∈ gws := gw (mt_7 (List.mem_of_getElem? (i := 231) rfl)) rfl
theorem wi_X10_reduce : Cond.instanceMethod yX10_reduce ∈ gws := gw (mt_7 (List.mem_of_getElem? (i := 230) rfl)) rfl
theorem wl_X10_reduce : Cond.selects yX10_reduce.cls yX10_reduce yX10_reduce ∈ gws := gw (List.mem_append_left _ (List.mem_of_getElem? (i := 69) rfl)) rfl
theorem wc_X10_reflex : Cond.code yX10_reflex cX10_reflex 2 (some .int) ∈ gws := gw (mt_9 (List.mem_of_getElem? (i := 10) rfl)) rfl
theorem wi_X10_reflex : Cond.instanceMethod yX10_reflex ∈ gws := gw (mt_9 (List.mem_of_getElem? (i := 8) rfl)) rfl
theorem wl_X10_reflex : Cond.selects yX10_reflex.cls yX10_reflex yX10_reflex ∈ gws := gw (mt_9 (List.mem_of_getElem? (i := 9) rfl)) rfl
theorem wc_X10_reflexAll : Cond.code yX10_reflexAll cX10_reflexAll 4 (none) ∈ gws := gw (mt_9 (List.mem_of_getElem? (i := 14) rfl)) rfl
theorem wi_X10_reflexAll : Cond.instanceMethod yX10_reflexAll ∈ gws := gw (mt_9 (List.mem_of_getElem? (i := 13) rfl)) rfl
theorem wl_X10_reflexAll : Cond.selects yX10_reflexAll.cls yX10_reflexAll yX10_reflexAll ∈ gws := gw (List.mem_append_left _ (List.mem_of_getElem? (i := 109) rfl)) rfl
theorem wc_X10_reflexAt : Cond.code yX10_reflexAt cX10_reflexAt 4 (some .int) ∈ gws := gw (mt_9 (List.mem_of_getElem? (i := 18) rfl)) rfl
theorem wi_X10_reflexAt : Cond.instanceMethod yX10_reflexAt ∈ gws := gw (mt_9 (List.mem_of_getElem? (i := 17) rfl)) rfl
theorem wl_X10_reflexAt : Cond.selects yX10_reflexAt.cls yX10_reflexAt yX10_reflexAt ∈ gws := gw (List.mem_append_left _ (List.mem_of_getElem? (i := 110) rfl)) rfl
theorem wc_X10_rowsOf : Cond.code yX10_rowsOf cX10_rowsOf 4 (some .int) ∈ gws := gw (mt_8 (List.mem_of_getElem? (i := 234) rfl)) rfl
theorem wi_X10_rowsOf : Cond.instanceMethod yX10_rowsOf ∈ gws := gw (mt_8 (List.mem_of_getElem? (i := 233) rfl)) rfl
theorem wl_X10_rowsOf : Cond.selects yX10_rowsOf.cls yX10_rowsOf yX10_rowsOf ∈ gws := gw (List.mem_append_left _ (List.mem_of_getElem? (i := 106) rfl)) rfl
theorem wc_X10_safe : Cond.code yX10_safe cX10_safe 4 (some .int) ∈ gws := gw (mt_8 (List.mem_of_getElem? (i := 182) rfl)) rfl
theorem wi_X10_safe : Cond.instanceMethod yX10_safe ∈ gws := gw (mt_8 (List.mem_of_getElem? (i := 180) rfl)) rfl
theorem wl_X10_safe : Cond.selects yX10_safe.cls yX10_safe yX10_safe ∈ gws := gw (mt_8 (List.mem_of_getElem? (i := 181) rfl)) rfl
theorem wc_X10_saves : Cond.code yX10_saves cX10_saves 6 (none) ∈ gws := gw (mt_8 (List.mem_of_getElem? (i := 198) rfl)) rfl
theorem wi_X10_saves : Cond.instanceMethod yX10_saves ∈ gws := gw (mt_8 (List.mem_of_getElem? (i := 197) rfl)) rfl
theorem wl_X10_saves : Cond.selects yX10_saves.cls yX10_saves yX10_saves ∈ gws := gw (List.mem_append_left _ (List.mem_of_getElem? (i := 103) rfl)) rfl
theorem wc_X10_scan : Cond.code yX10_scan cX10_scan 6 (some .int) ∈ gws := gw (mt_7 (List.mem_of_getElem? (i := 134) rfl)) rfl
theorem wi_X10_scan : Cond.instanceMethod yX10_scan ∈ gws := gw (mt_7 (List.mem_of_getElem? (i := 133) rfl)) rfl
theorem wl_X10_scan : Cond.selects yX10_scan.cls yX10_scan yX10_scan ∈ gws := gw (List.mem_append_left _ (List.mem_of_getElem? (i := 51) rfl)) rfl
theorem wc_X10_scanAll : Cond.code yX10_scanAll cX10_scanAll 4 (none) ∈ gws := gw (mt_7 (List.mem_of_getElem? (i := 126) rfl)) rfl
theorem wi_X10_scanAll : Cond.instanceMethod yX10_scanAll ∈ gws := gw (mt_7 (List.mem_of_getElem? (i := 125) rfl)) rfl
theorem wl_X10_scanAll : Cond.selects yX10_scanAll.cls yX10_scanAll yX10_scanAll ∈ gws := gw (List.mem_append_left _ (List.mem_of_getElem? (i := 49) rfl)) rfl
theorem wc_X10_signAt : Cond.code yX10_signAt cX10_signAt 4 (some .int) ∈ gws := gw (mt_7 (List.mem_of_getElem? (i := 172) rfl)) rfl
theorem wi_X10_signAt : Cond.instanceMethod yX10_signAt ∈ gws := gw (mt_7 (List.mem_of_getElem? (i := 171) rfl)) rfl
theorem wl_X10_signAt : Cond.selects yX10_signAt.cls yX10_signAt yX10_signAt ∈ gws := gw (List.mem_append_left _ (List.mem_of_getElem? (i := 55) rfl)) rfl
theorem wc_X10_stand : Cond.code yX10_stand cX10_stand 2 (some .boolean) ∈ gws := gw (mt_9 (List.mem_of_getElem? (i := 75) rfl)) rfl
theorem wi_X10_stand : Cond.instanceMethod yX10_stand ∈ gws := gw (mt_9 (List.mem_of_getElem? (i := 73) rfl)) rfl
theorem wl_X10_stand : Cond.selects yX10_stand.cls yX10_stand yX10_stand ∈ gws := gw (mt_9 (List.mem_of_getElem? (i := 74) rfl)) rfl
theorem wc_X10_state : Cond.code yX10_state cX10_state 4 (some .int) ∈ gws := gw (mt_8 (List.mem_of_getElem? (i := 42) rfl)) rfl
theorem wi_X10_state : Cond.instanceMethod yX10_state ∈ gws := gw (mt_8 (List.mem_of_getElem? (i := 40) rfl)) rfl
theorem wl_X10_state : Cond.selects yX10_state.cls yX10_state yX10_state ∈ gws := gw (mt_8 (List.mem_of_getElem? (i := 41) rfl)) rfl
theorem wc_X10_statesOf : Cond.code yX10_statesOf cX10_statesOf 4 (some .int) ∈ gws := gw (mt_9 (List.mem_of_getElem? (i := 126) rfl)) rfl
theorem wi_X10_statesOf : Cond.instanceMethod yX10_statesOf ∈ gws := gw (mt_9 (List.mem_of_getElem? (i := 125) rfl)) rfl
theorem wl_X10_statesOf : Cond.selects yX10_statesOf.cls yX10_statesOf yX10_statesOf ∈ gws := gw (List.mem_append_left _ (List.mem_of_getElem? (i := 119) rfl)) rfl
theorem wc_X10_sum : Cond.code yX10_sum cX10_sum 8 (some .int) ∈ gws := gw (mt_8 (List.mem_of_getElem? (i := 102) rfl)) rfl
theorem wi_X10_sum : Cond.instanceMethod yX10_sum ∈ gws := gw (mt_8 (List.mem_of_getElem? (i := 101) rfl)) rfl
theorem wl_X10_sum : Cond.selects yX10_sum.cls yX10_sum yX10_sum ∈ gws := gw (List.mem_append_left _ (List.mem_of_getElem? (i := 89) rfl)) rfl
theorem wc_X10_swingOf : Cond.code yX10_swingOf cX10_swingOf 1 (some .int) ∈ gws := gw (mt_8 (List.mem_of_getElem? (i := 66) rfl)) rfl
theorem wt_X10_swingOf : Cond.static yX10_swingOf ∈ gws := gw (mt_8 (List.mem_of_getElem? (i := 65) rfl)) rfl
theorem wc_X10_takes : Cond.code yX10_takes cX10_takes 2 (some .boolean) ∈ gws := gw (mt_7 (List.mem_of_getElem? (i := 200) rfl)) rfl
theorem wi_X10_takes : Cond.instanceMethod yX10_takes ∈ gws := gw (mt_7 (List.mem_of_getElem? (i := 199) rfl)) rfl
theorem wl_X10_takes : Cond.selects yX10_takes.cls yX10_takes yX10_takes ∈ gws := gw (List.mem_append_left _ (List.mem_of_getElem? (i := 62) rfl)) rfl
theorem wc_X10_takesInt : Cond.code yX10_takesInt cX10_takesInt 4 (some .boolean) ∈ gws := gw (mt_7 (List.mem_of_getElem? (i := 196) rfl)) rfl
theorem wi_X10_takesInt : Cond.instanceMethod yX10_takesInt ∈ gws := gw (mt_7 (List.mem_of_getElem? (i := 195) rfl)) rfl
theorem wl_X10_takesInt : Cond.selects yX10_takesInt.cls yX10_takesInt yX10_takesInt ∈ gws := gw (List.mem_append_left _ (List.mem_of_getElem? (i := 61) rfl)) rfl
theorem wc_X10_takesSigned : Cond.code yX10_takesSigned cX10_takesSigned 4 (some .boolean) ∈ gws := gw (mt_8 (List.mem_of_getElem? (i := 6) rfl)) rfl
theorem wi_X10_takesSigned : Cond.instanceMethod yX10_takesSigned ∈ gws := gw (mt_8 (List.mem_of_getElem? (i := 5) rfl)) rfl
theorem wl_X10_takesSigned : Cond.selects yX10_takesSigned.cls yX10_takesSigned yX10_takesSigned ∈ gws := gw (List.mem_append_left _ (List.mem_of_getElem? (i := 72) rfl)) rfl
theorem wc_X10_tell : Cond.code yX10_tell cX10_tell 2 (some .boolean) ∈ gws := gw (mt_7 (List.mem_of_getElem? (i := 180) rfl)) rfl
theorem wi_X10_tell : Cond.instanceMethod yX10_tell ∈ gws := gw (mt_7 (List.mem_of_getElem? (i := 179) rfl)) rfl
theorem wl_X10_tell : Cond.selects yX10_tell.cls yX10_tell yX10_tell ∈ gws := gw (List.mem_append_left _ (List.mem_of_getElem? (i := 57) rfl)) rfl
theorem wc_X10_tellAct : Cond.code yX10_tellAct cX10_tellAct 5 (some .boolean) ∈ gws := gw (mt_7 (List.mem_of_getElem? (i := 238) rfl)) rfl
theorem wi_X10_tellAct : Cond.instanceMethod yX10_tellAct ∈ gws := gw (mt_7 (List.mem_of_getElem? (i := 237) rfl)) rfl
theorem wl_X10_tellAct : Cond.selects yX10_tellAct.cls yX10_tellAct yX10_tellAct ∈ gws := gw (List.mem_append_left _ (List.mem_of_getElem? (i := 70) rfl)) rfl
theorem wc_X10_tellGusts : Cond.code yX10_tellGusts cX10_tellGusts 2 (some .boolean) ∈ gws := gw (mt_8 (List.mem_of_getElem? (i := 22) rfl)) rfl
theorem wi_X10_tellGusts : Cond.instanceMethod yX10_tellGusts ∈ gws := gw (mt_8 (List.mem_of_getElem? (i := 21) rfl)) rfl
theorem wl_X10_tellGusts : Cond.selects yX10_tellGusts.cls yX10_tellGusts yX10_tellGusts ∈ gws := gw (List.mem_append_left _ (List.mem_of_getElem? (i := 76) rfl)) rfl
theorem wc_X10_tellLaw : Cond.code yX10_tellLaw cX10_tellLaw 2 (some .boolean) ∈ gws := gw (mt_7 (List.mem_of_getElem? (i := 208) rfl)) rfl
theorem wi_X10_tellLaw : Cond.instanceMethod yX10_tellLaw ∈ gws := gw (mt_7 (List.mem_of_getElem? (i := 207) rfl)) rfl
theorem wl_X10_tellLaw : Cond.selects yX10_tellLaw.cls yX10_tellLaw yX10_tellLaw ∈ gws := gw (List.mem_append_left _ (List.mem_of_getElem? (i := 64) rfl)) rfl
theorem wc_X10_tellNumber : Cond.code yX10_tellNumber cX10_tellNumber 2 (some .boolean) ∈ gws := gw (mt_7 (List.mem_of_getElem? (i := 184) rfl)) rfl
theorem wi_X10_tellNumber : Cond.instanceMethod yX10_tellNumber ∈ gws := gw (mt_7 (List.mem_of_getElem? (i := 183) rfl)) rfl
theorem wl_X10_tellNumber : Cond.selects yX10_tellNumber.cls yX10_tellNumber yX10_tellNumber ∈ gws := gw (List.mem_append_left _ (List.mem_of_getElem? (i := 58) rfl)) rfl
theorem wc_X10_tellReflex : Cond.code yX10_tellReflex cX10_tellReflex 3 (some .boolean) ∈ gws := gw (mt_8 (List.mem_of_getElem? (i := 26) rfl)) rfl
theorem wi_X10_tellReflex : Cond.instanceMethod yX10_tellReflex ∈ gws := gw (mt_8 (List.mem_of_getElem? (i := 25) rfl)) rfl
theorem wl_X10_tellReflex : Cond.selects yX10_tellReflex.cls yX10_tellReflex yX10_tellReflex ∈ gws := gw (List.mem_append_left _ (List.mem_of_getElem? (i := 77) rfl)) rfl
theorem wc_X10_tells : Cond.code yX10_tells cX10_tells 4 (none) ∈ gws := gw (mt_7 (List.mem_of_getElem? (i := 204) rfl)) rfl
theorem wi_X10_tells : Cond.instanceMethod yX10_tells ∈ gws := gw (mt_7 (List.mem_of_getElem? (i := 203) rfl)) rfl
theorem wl_X10_tells : Cond.selects yX10_tells.cls yX10_tells yX10_tells ∈ gws := gw (List.mem_append_left _ (List.mem_of_getElem? (i := 63) rfl)) rfl
theorem wc_X10_thrown : Cond.code yX10_thrown cX10_thrown 1 (some .int) ∈ gws := gw (mt_7 (List.mem_of_getElem? (i := 106) rfl)) rfl
theorem wi_X10_thrown : Cond.instanceMethod yX10_thrown ∈ gws := gw (mt_7 (List.mem_of_getElem? (i := 104) rfl)) rfl
theorem wl_X10_thrown : Cond.selects yX10_thrown.cls yX10_thrown yX10_thrown ∈ gws := gw (mt_7 (List.mem_of_getElem? (i := 105) rfl)) rfl
theorem wc_X10_token : Cond.code yX10_token cX10_token 4 (none) ∈ gws := gw (mt_7 (List.mem_of_getElem? (i := 164) rfl)) rfl
theorem wi_X10_token : Cond.instanceMethod yX10_token ∈ gws := gw (mt_7 (List.mem_of_getElem? (i := 163) rfl)) rfl
theorem wl_X10_token : Cond.selects yX10_token.cls yX10_token yX10_token ∈ gws := gw (List.mem_append_left _ (List.mem_of_getElem? (i := 53) rfl)) rfl
theorem wc_X10_typed : Cond.code yX10_typed cX10_typed 3 (none) ∈ gws := gw (mt_7 (List.mem_of_getElem? (i := 114) rfl)) rfl
theorem wi_X10_typed : Cond.instanceMethod yX10_typed ∈ gws := gw (mt_7 (List.mem_of_getElem? (i := 113) rfl)) rfl
theorem wl_X10_typed : Cond.selects yX10_typed.cls yX10_typed yX10_typed ∈ gws := gw (List.mem_append_left _ (List.mem_of_getElem? (i := 48) rfl)) rfl
theorem wc_X10_undo : Cond.code yX10_undo cX10_undo 1 (some .boolean) ∈ gws := gw (mt_9 (List.mem_of_getElem? (i := 87) rfl)) rfl
theorem wi_X10_undo : Cond.instanceMethod yX10_undo ∈ gws := gw (mt_9 (List.mem_of_getElem? (i := 85) rfl)) rfl
theorem wl_X10_undo : Cond.selects yX10_undo.cls yX10_undo yX10_undo ∈ gws := gw (mt_9 (List.mem_of_getElem? (i := 86) rfl)) rfl
theorem wc_X10_variable : Cond.code yX10_variable cX10_variable 2 (some .int) ∈ gws := gw (mt_8 (List.mem_of_getElem? (i := 106) rfl)) rfl
theorem wi_X10_variable : Cond.instanceMethod yX10_variable ∈ gws := gw (mt_8 (List.mem_of_getElem? (i := 105) rfl)) rfl
theorem wl_X10_variable : Cond.selects yX10_variable.cls yX10_variable yX10_variable ∈ gws := gw (List.mem_append_left _ (List.mem_of_getElem? (i := 90) rfl)) rfl
theorem wc_X10_variableOf : Cond.code yX10_variableOf cX10_variableOf 1 (some .int) ∈ gws := gw (mt_7 (List.mem_of_getElem? (i := 223) rfl)) rfl
theorem wt_X10_variableOf : Cond.static yX10_variableOf ∈ gws := gw (mt_7 (List.mem_of_getElem? (i := 222) rfl)) rfl
theorem wc_X10_walked : Cond.code yX10_walked cX10_walked 3 (some .int) ∈ gws := gw (mt_9 (List.mem_of_getElem? (i := 91) rfl)) rfl
theorem wi_X10_walked : Cond.instanceMethod yX10_walked ∈ gws := gw (mt_9 (List.mem_of_getElem? (i := 89) rfl)) rfl
theorem wl_X10_walked : Cond.selects yX10_walked.cls yX10_walked yX10_walked ∈ gws := gw (mt_9 (List.mem_of_getElem? (i := 90) rfl)) rfl
theorem wc_X10_witness : Cond.code yX10_witness cX10_witness 5 (some .int) ∈ gws := gw (mt_9 (List.mem_of_getElem? (i := 42) rfl)) rfl
theorem wi_X10_witness : Cond.instanceMethod yX10_witness ∈ gws := gw (mt_9 (List.mem_of_getElem? (i := 40) rfl)) rfl
theorem wl_X10_witness : Cond.selects yX10_witness.cls yX10_witness yX10_witness ∈ gws := gw (mt_9 (List.mem_of_getElem? (i := 41) rfl)) rfl
theorem wc_X10_wordOf : Cond.code yX10_wordOf cX10_wordOf 2 (some .int) ∈ gws := gw (mt_7 (List.mem_of_getElem? (i := 143) rfl)) rfl
theorem wt_X10_wordOf : Cond.static yX10_wordOf ∈ gws := gw (mt_7 (List.mem_of_getElem? (i := 142) rfl)) rfl
theorem wc_X10_wrong : Cond.code yX10_wrong cX10_wrong 2 (some .boolean) ∈ gws := gw (mt_7 (List.mem_of_getElem? (i := 192) rfl)) rfl
theorem wi_X10_wrong : Cond.instanceMethod yX10_wrong ∈ gws := gw (mt_7 (List.mem_of_getElem? (i := 191) rfl)) rfl
theorem wl_X10_wrong : Cond.selects yX10_wrong.cls yX10_wrong yX10_wrong ∈ gws := gw (List.mem_append_left _ (List.mem_of_getElem? (i := 60) rfl)) rfl
theorem wc_J0_charAt_5068e : Cond.code yJ0_charAt_5068e cJ0_charAt_5068e 2 (some .char) ∈ gws := gw (mt_3 (List.mem_of_getElem? (i := 49) rfl)) rfl
theorem wi_J0_charAt_5068e : Cond.instanceMethod yJ0_charAt_5068e ∈ gws := gw (mt_3 (List.mem_of_getElem? (i := 47) rfl)) rfl
theorem wl_J0_charAt_5068e : Cond.selects yJ0_charAt_5068e.cls yJ0_charAt_5068e yJ0_charAt_5068e ∈ gws := gw (mt_3 (List.mem_of_getElem? (i := 48) rfl)) rfl
theorem wc_J0_checkIndex_df160 : Cond.code yJ0_checkIndex_df160 cJ0_checkIndex_df160 2 (none) ∈ gws := gw (mt_3 (List.mem_of_getElem? (i := 59) rfl)) rfl
theorem wt_J0_checkIndex_df160 : Cond.static yJ0_checkIndex_df160 ∈ gws := gw (mt_3 (List.mem_of_getElem? (i := 58) rfl)) rfl
theorem wc_J0_coder_7d493 : Cond.code yJ0_coder_7d493 cJ0_coder_7d493 1 (some .byte) ∈ gws := gw (mt_3 (List.mem_of_getElem? (i := 43) rfl)) rfl
theorem wi_J0_coder_7d493 : Cond.instanceMethod yJ0_coder_7d493 ∈ gws := gw (mt_3 (List.mem_of_getElem? (i := 41) rfl)) rfl
theorem wl_J0_coder_7d493 : Cond.selects yJ0_coder_7d493.cls yJ0_coder_7d493 yJ0_coder_7d493 ∈ gws := gw (mt_3 (List.mem_of_getElem? (i := 42) rfl)) rfl
theorem wc_J0_isLatin1_aae02 : Cond.code yJ0_isLatin1_aae02 cJ0_isLatin1_aae02 1 (some .boolean) ∈ gws := gw (mt_3 (List.mem_of_getElem? (i := 53) rfl)) rfl
theorem wi_J0_isLatin1_aae02 : Cond.instanceMethod yJ0_isLatin1_aae02 ∈ gws := gw (mt_3 (List.mem_of_getElem? (i := 51) rfl)) rfl
theorem wl_J0_isLatin1_aae02 : Cond.selects yJ0_isLatin1_aae02.cls yJ0_isLatin1_aae02 yJ0_isLatin1_aae02 ∈ gws := gw (mt_3 (List.mem_of_getElem? (i := 52) rfl)) rfl
theorem wc_J0_length_8abf5 : Cond.code yJ0_length_8abf5 cJ0_length_8abf5 1 (some .int) ∈ gws := gw (mt_3 (List.mem_of_getElem? (i := 39) rfl)) rfl
theorem wi_J0_length_8abf5 : Cond.instanceMethod yJ0_length_8abf5 ∈ gws := gw (mt_3 (List.mem_of_getElem? (i := 37) rfl)) rfl
theorem wl_J0_length_8abf5 : Cond.selects yJ0_length_8abf5.cls yJ0_length_8abf5 yJ0_length_8abf5 ∈ gws := gw (mt_3 (List.mem_of_getElem? (i := 38) rfl)) rfl
theorem wc_J1_charAt_3b067 : Cond.code yJ1_charAt_3b067 cJ1_charAt_3b067 2 (some .char) ∈ gws := gw (mt_3 (List.mem_of_getElem? (i := 56) rfl)) rfl
theorem wt_J1_charAt_3b067 : Cond.static yJ1_charAt_3b067 ∈ gws := gw (mt_3 (List.mem_of_getElem? (i := 55) rfl)) rfl
theorem wc_J7_fill_53178 : Cond.code yJ7_fill_53178 cJ7_fill_53178 4 (none) ∈ gws := gw (mt_4 (List.mem_of_getElem? (i := 234) rfl)) rfl
theorem wt_J7_fill_53178 : Cond.static yJ7_fill_53178 ∈ gws := gw (mt_4 (List.mem_of_getElem? (i := 233) rfl)) rfl
theorem wc_J7_fill_d0a16 : Cond.code yJ7_fill_d0a16 cJ7_fill_d0a16 5 (none) ∈ gws := gw (mt_5 (List.mem_of_getElem? (i := 107) rfl)) rfl
theorem wt_J7_fill_d0a16 : Cond.static yJ7_fill_d0a16 ∈ gws := gw (mt_5 (List.mem_of_getElem? (i := 106) rfl)) rfl
theorem wc_J3_checkIndex_8e157 : Cond.code yJ3_checkIndex_8e157 cJ3_checkIndex_8e157 3 (some .int) ∈ gws := gw (mt_3 (List.mem_of_getElem? (i := 64) rfl)) rfl
theorem wt_J3_checkIndex_8e157 : Cond.static yJ3_checkIndex_8e157 ∈ gws := gw (mt_3 (List.mem_of_getElem? (i := 63) rfl)) rfl
theorem in_X9 : Cond.initialized RX9 ∈ gws := gw (mt_1 (List.mem_of_getElem? (i := 1) rfl)) rfl
theorem in_X0 : Cond.initialized RX0 ∈ gws := gw (mt_1 (List.mem_of_getElem? (i := 3) rfl)) rfl
theorem in_X1 : Cond.initialized RX1 ∈ gws := gw (mt_1 (List.mem_of_getElem? (i := 5) rfl)) rfl
theorem in_X2 : Cond.initialized RX2 ∈ gws := gw (mt_1 (List.mem_of_getElem? (i := 4) rfl)) rfl
theorem in_X3 : Cond.initialized RX3 ∈ gws := gw (mt_1 (List.mem_of_getElem? (i := 8) rfl)) rfl
theorem in_X4 : Cond.initialized RX4 ∈ gws := gw (mt_1 (List.mem_of_getElem? (i := 2) rfl)) rfl
theorem in_X5 : Cond.initialized RX5 ∈ gws := gw (mt_1 (List.mem_of_getElem? (i := 7) rfl)) rfl
theorem in_X6 : Cond.initialized RX6 ∈ gws := gw (mt_1 (List.mem_of_getElem? (i := 9) rfl)) rfl
theorem in_X7 : Cond.initialized RX7 ∈ gws := gw (mt_1 (List.mem_of_getElem? (i := 6) rfl)) rfl
theorem in_X8 : Cond.initialized RX8 ∈ gws := gw (mt_1 (List.mem_of_getElem? (i := 10) rfl)) rfl
theorem in_X10 : Cond.initialized RX10 ∈ gws := gw (mt_1 (List.mem_of_getElem? (i := 11) rfl)) rfl
theorem in_J0 : Cond.initialized RJ0 ∈ gws := gw (mt_1 (List.mem_of_getElem? (i := 12) rfl)) rfl
theorem in_J1 : Cond.initialized RJ1 ∈ gws := gw (mt_1 (List.mem_of_getElem? (i := 13) rfl)) rfl
theorem in_J7 : Cond.initialized RJ7 ∈ gws := gw (mt_1 (List.mem_of_getElem? (i := 16) rfl)) rfl
theorem in_J3 : Cond.initialized RJ3 ∈ gws := gw (mt_1 (List.mem_of_getElem? (i := 14) rfl)) rfl
abbrev jJ0_length_8abf5 : gJ := (cJ0_length_8abf5, 1, RJ0, some .int, g_room 2)
abbrev jJ0_coder_7d493 : gJ := (cJ0_coder_7d493, 1, RJ0, some .byte, g_room 1)
abbrev jJ0_charAt_5068e : gJ := (cJ0_charAt_5068e, 2, RJ0, some .char, g_room 4)
abbrev jJ0_isLatin1_aae02 : gJ := (cJ0_isLatin1_aae02, 1, RJ0, some .boolean, g_room 1)
abbrev jJ0_checkIndex_df160 : gJ := (cJ0_checkIndex_df160, 2, RJ0, none, g_room 2)
abbrev jJ1_charAt_3b067 : gJ := (cJ1_charAt_3b067, 2, RJ1, some .char, g_room 3)
abbrev jJ3_checkIndex_8e157 : gJ := (cJ3_checkIndex_8e157, 3, RJ3, some .int, g_room 1)
abbrev jX0_settle : gJ := (cX0_settle, 3, RX0, none, g_room 1)
abbrev jX2_literal : gJ := (cX2_literal, 6, RX2, some .boolean, g_room 1)
abbrev jX2_run : gJ := (cX2_run, 8, RX2, some .int, g_room 1)
abbrev jX2_holds : gJ := (cX2_holds, 8, RX2, some .boolean, g_room 2)
abbrev jX2_standAt : gJ := (cX2_standAt, 3, RX2, none, g_room 1)
abbrev jX4_atOf : gJ := (cX4_atOf, 1, RX4, some .int, g_room 1)
abbrev jX4_isOver : gJ := (cX4_isOver, 2, RX4, some .boolean, g_room 2)
abbrev jX0_survey : gJ := (cX0_survey, 5, RX0, none, g_room 3)
abbrev jX0_allows : gJ := (cX0_allows, 3, RX0, some .boolean, g_room 4)
abbrev jX0_mask : gJ := (cX0_mask, 2, RX0, some .int, g_room 4)
abbrev jX0_least : gJ := (cX0_least, 2, RX0, some .int, g_room 4)
abbrev jX0_greatest : gJ := (cX0_greatest, 2, RX0, some .int, g_room 4)
abbrev jX0_firstOf : gJ := (cX0_firstOf, 2, RX0, some .int, g_room 1)
abbrev jX0_draw : gJ := (cX0_draw, 4, RX0, some .int, g_room 4)
abbrev jX2_result : gJ := (cX2_result, 1, RX2, some .int, g_room 1)
abbrev jX4_hasAct : gJ := (cX4_hasAct, 2, RX4, some .boolean, g_room 1)
abbrev jX4_leanOf : gJ := (cX4_leanOf, 1, RX4, some .int, g_room 1)
abbrev jX4_number : gJ := (cX4_number, 4, RX4, some .int, g_room 1)
abbrev jX4_swingOf : gJ := (cX4_swingOf, 1, RX4, some .int, g_room 1)
abbrev jX0_leap : gJ := (cX0_leap, 9, RX0, some .int, g_room 2)
abbrev jX0_after : gJ := (cX0_after, 10, RX0, some .int, g_room 3)
abbrev jX1_fail : gJ := (cX1_fail, 2, RX1, some .boolean, g_room 1)
abbrev jX1_kind : gJ := (cX1_kind, 1, RX1, some .int, g_room 1)
abbrev jX1_defer : gJ := (cX1_defer, 2, RX1, none, g_room 1)
abbrev jX1_value : gJ := (cX1_value, 1, RX1, some .long, g_room 1)
abbrev jX4_emit : gJ := (cX4_emit, 2, RX4, none, g_room 1)
abbrev jX1_emitUnit : gJ := (cX1_emitUnit, 2, RX1, none, g_room 2)
abbrev jX1_step : gJ := (cX1_step, 1, RX1, some .boolean, g_room 2)
abbrev jX1_binding : gJ := (cX1_binding, 1, RX1, some .int, g_room 1)
abbrev jX1_unwind : gJ := (cX1_unwind, 4, RX1, none, g_room 2)
abbrev jX1_expression : gJ := (cX1_expression, 6, RX1, some .boolean, g_room 3)
abbrev jX1_literal : gJ := (cX1_literal, 3, RX1, some .boolean, g_room 4)
abbrev jX1_condition : gJ := (cX1_condition, 3, RX1, some .boolean, g_room 5)
abbrev jX1_note : gJ := (cX1_note, 2, RX1, none, g_room 1)
abbrev jX1_take : gJ := (cX1_take, 2, RX1, some .boolean, g_room 3)
abbrev jX1_takeSigned : gJ := (cX1_takeSigned, 6, RX1, some .boolean, g_room 4)
abbrev jX4_actNamed : gJ := (cX4_actNamed, 4, RX4, some .int, g_room 1)
abbrev jX4_addAct : gJ := (cX4_addAct, 6, RX4, none, g_room 1)
abbrev jX1_tellAct : gJ := (cX1_tellAct, 6, RX1, some .boolean, g_room 6)
abbrev jX1_takeInt : gJ := (cX1_takeInt, 3, RX1, some .boolean, g_room 4)
abbrev jX4_addGusts : gJ := (cX4_addGusts, 7, RX4, none, g_room 1)
abbrev jX1_tellGusts : gJ := (cX1_tellGusts, 6, RX1, some .boolean, g_room 6)
abbrev jX1_tellLaw : gJ := (cX1_tellLaw, 3, RX1, some .boolean, g_room 4)
abbrev jX4_addReflex : gJ := (cX4_addReflex, 3, RX4, none, g_room 1)
abbrev jX1_tellReflex : gJ := (cX1_tellReflex, 3, RX1, some .boolean, g_room 6)
abbrev jX1_tellSize : gJ := (cX1_tellSize, 3, RX1, some .boolean, g_room 5)
abbrev jX4_finish : gJ := (cX4_finish, 1, RX4, none, g_room 2)
abbrev jX4_untell : gJ := (cX4_untell, 1, RX4, none, g_room 1)
abbrev jX7_charAt : gJ := (cX7_charAt, 2, RX7, some .int, g_room 1)
abbrev jX7_isBlank : gJ := (cX7_isBlank, 1, RX7, some .boolean, g_room 1)
abbrev jX7_skipBlanks : gJ := (cX7_skipBlanks, 2, RX7, none, g_room 2)
abbrev jX7_isDigit : gJ := (cX7_isDigit, 1, RX7, some .boolean, g_room 1)
abbrev jX7_digits : gJ := (cX7_digits, 4, RX7, some .int, g_room 2)
abbrev jX7_isLetter : gJ := (cX7_isLetter, 1, RX7, some .boolean, g_room 1)
abbrev jX7_isWord : gJ := (cX7_isWord, 8, RX7, some .boolean, g_room 8)
abbrev jX7_letters : gJ := (cX7_letters, 5, RX7, some .int, g_room 9)
abbrev jX7_second : gJ := (cX7_second, 2, RX7, some .int, g_room 1)
abbrev jX7_sign : gJ := (cX7_sign, 3, RX7, some .int, g_room 2)
abbrev jX7_token : gJ := (cX7_token, 3, RX7, some .int, g_room 10)
abbrev jX7_scan : gJ := (cX7_scan, 5, RX7, none, g_room 11)
abbrev jX1_parse : gJ := (cX1_parse, 6, RX1, some .int, g_room 12)
abbrev jX3_dropLearned : gJ := (cX3_dropLearned, 3, RX3, some .int, g_room 1)
abbrev jX3_actIn : gJ := (cX3_actIn, 3, RX3, some .int, g_room 5)
abbrev jX3_behind : gJ := (cX3_behind, 4, RX3, some .int, g_room 4)
abbrev jJ7_fill_53178 : gJ := (cJ7_fill_53178, 4, RJ7, none, g_room 1)
abbrev jX3_enqueue : gJ := (cX3_enqueue, 4, RX3, none, g_room 1)
abbrev jX3_explore : gJ := (cX3_explore, 8, RX3, none, g_room 6)
abbrev jX3_beatsToFall : gJ := (cX3_beatsToFall, 1, RX3, some .int, g_room 1)
abbrev jX3_witnessGust : gJ := (cX3_witnessGust, 5, RX3, some .int, g_room 2)
abbrev jX3_longestFrom : gJ := (cX3_longestFrom, 7, RX3, some .int, g_room 6)
abbrev jX3_longestWay : gJ := (cX3_longestWay, 6, RX3, some .int, g_room 7)
abbrev jJ7_fill_d0a16 : gJ := (cJ7_fill_d0a16, 5, RJ7, none, g_room 1)
abbrev jX3_spread : gJ := (cX3_spread, 7, RX3, some .long, g_room 6)
abbrev jX3_countRows : gJ := (cX3_countRows, 12, RX3, some .long, g_room 7)
abbrev jX5_isSafe : gJ := (cX5_isSafe, 2, RX5, some .boolean, g_room 1)
abbrev jX3_learnFrom : gJ := (cX3_learnFrom, 8, RX3, some .int, g_room 7)
abbrev jX3_stir : gJ := (cX3_stir, 3, RX3, some .int, g_room 1)
abbrev jX3_lot : gJ := (cX3_lot, 4, RX3, some .int, g_room 2)
abbrev jX3_drillEnd : gJ := (cX3_drillEnd, 8, RX3, some .int, g_room 6)
abbrev jX4_has : gJ := (cX4_has, 2, RX4, some .boolean, g_room 2)
abbrev jX5_dropText : gJ := (cX5_dropText, 1, RX5, none, g_room 1)
abbrev jX5_dropPole : gJ := (cX5_dropPole, 1, RX5, none, g_room 1)
abbrev jX5_leadsWell : gJ := (cX5_leadsWell, 9, RX5, some .boolean, g_room 4)
abbrev jX5_isSafeAct : gJ := (cX5_isSafeAct, 3, RX5, some .boolean, g_room 5)
abbrev jX5_safeAmong : gJ := (cX5_safeAmong, 5, RX5, some .int, g_room 2)
abbrev jX5_greatestDoom : gJ := (cX5_greatestDoom, 3, RX5, some .int, g_room 1)
abbrev jX5_listOpen : gJ := (cX5_listOpen, 3, RX5, some .int, g_room 3)
abbrev jX5_firstGood : gJ := (cX5_firstGood, 10, RX5, some .int, g_room 5)
abbrev jX5_fateRound : gJ := (cX5_fateRound, 7, RX5, some .int, g_room 6)
abbrev jX5_findFates : gJ := (cX5_findFates, 5, RX5, none, g_room 7)
abbrev jX5_reachRound : gJ := (cX5_reachRound, 7, RX5, some .int, g_room 6)
abbrev jX5_findReaches : gJ := (cX5_findReaches, 5, RX5, none, g_room 7)
abbrev jX5_shrink : gJ := (cX5_shrink, 10, RX5, none, g_room 6)
abbrev jX5_bearing : gJ := (cX5_bearing, 5, RX5, some .int, g_room 7)
abbrev jX5_leastPole : gJ := (cX5_leastPole, 6, RX5, some .int, g_room 7)
abbrev jX6_addForecast : gJ := (cX6_addForecast, 2, RX6, some .int, g_room 1)
abbrev jX6_dropForecasts : gJ := (cX6_dropForecasts, 1, RX6, none, g_room 1)
abbrev jX6_dropPlan : gJ := (cX6_dropPlan, 1, RX6, none, g_room 1)
abbrev jX6_goForwards : gJ := (cX6_goForwards, 7, RX6, some .boolean, g_room 5)
abbrev jX6_goodAct : gJ := (cX6_goodAct, 6, RX6, some .int, g_room 5)
abbrev jX6_plan : gJ := (cX6_plan, 5, RX6, none, g_room 6)
abbrev jX6_plannedAct : gJ := (cX6_plannedAct, 2, RX6, some .int, g_room 1)
abbrev jX6_allGoOn : gJ := (cX6_allGoOn, 8, RX6, some .boolean, g_room 5)
abbrev jX6_rowsFrom (d : Nat) : gJ := (cX6_rowsFrom, 6, RX6, some .int, g_room (6 + d))
abbrev jX6_blindRows : gJ := (cX6_blindRows, 4, RX6, some .int, g_room 13)
abbrev jX8_leave : gJ := (cX8_leave, 1, RX8, none, g_room 1)
abbrev jX8_begin : gJ := (cX8_begin, 2, RX8, none, g_room 1)
abbrev jX8_standsIn : gJ := (cX8_standsIn, 1, RX8, some .int, g_room 1)
abbrev jX8_go : gJ := (cX8_go, 4, RX8, none, g_room 1)
abbrev jX8_goBack : gJ := (cX8_goBack, 1, RX8, some .boolean, g_room 1)
abbrev jX8_told : gJ := (cX8_told, 3, RX8, some .int, g_room 1)
abbrev jX9_tapeWord : gJ := (cX9_tapeWord, 3, RX9, none, g_room 1)
abbrev jX9_feed : gJ := (cX9_feed, 6, RX9, some .int, g_room 2)
abbrev jX9_back : gJ := (cX9_back, 2, RX9, some .int, g_room 1)
abbrev jX9_settle : gJ := (cX9_settle, 2, RX9, none, g_room 2)
abbrev jX9_read : gJ := (cX9_read, 3, RX9, some .int, g_room 13)
abbrev jX9_place : gJ := (cX9_place, 1, RX9, some .int, g_room 1)
abbrev jX9_pole : gJ := (cX9_pole, 2, RX9, some .boolean, g_room 3)
abbrev jX9_state : gJ := (cX9_state, 4, RX9, some .int, g_room 2)
abbrev jX9_can : gJ := (cX9_can, 3, RX9, some .int, g_room 5)
abbrev jX9_gust : gJ := (cX9_gust, 3, RX9, some .int, g_room 5)
abbrev jX9_isForecast : gJ := (cX9_isForecast, 1, RX9, some .boolean, g_room 1)
abbrev jX9_next : gJ := (cX9_next, 4, RX9, some .int, g_room 5)
abbrev jX9_fate : gJ := (cX9_fate, 3, RX9, some .int, g_room 8)
abbrev jX9_keep : gJ := (cX9_keep, 2, RX9, some .int, g_room 8)
abbrev jX9_reach : gJ := (cX9_reach, 3, RX9, some .int, g_room 8)
abbrev jX9_lead : gJ := (cX9_lead, 2, RX9, some .int, g_room 8)
abbrev jX9_safe : gJ := (cX9_safe, 2, RX9, some .int, g_room 8)
abbrev jX9_edge : gJ := (cX9_edge, 6, RX9, some .int, g_room 8)
abbrev jX9_doom : gJ := (cX9_doom, 1, RX9, some .int, g_room 8)
abbrev jX9_borne : gJ := (cX9_borne, 2, RX9, some .int, g_room 8)
abbrev jX9_poles : gJ := (cX9_poles, 2, RX9, some .int, g_room 8)
abbrev jX9_forecast : gJ := (cX9_forecast, 2, RX9, some .int, g_room 2)
abbrev jX9_clear : gJ := (cX9_clear, 1, RX9, none, g_room 2)
abbrev jX9_known : gJ := (cX9_known, 2, RX9, some .int, g_room 7)
abbrev jX9_knownAct : gJ := (cX9_knownAct, 3, RX9, some .int, g_room 7)
abbrev jX9_blind : gJ := (cX9_blind, 3, RX9, some .int, g_room 14)
abbrev jX9_blindAct : gJ := (cX9_blindAct, 4, RX9, some .int, g_room 14)
abbrev jX9_reflex : gJ := (cX9_reflex, 2, RX9, some .int, g_room 6)
abbrev jX9_proof : gJ := (cX9_proof, 2, RX9, some .int, g_room 7)
abbrev jX9_witness : gJ := (cX9_witness, 3, RX9, some .int, g_room 7)
abbrev jX9_arrives : gJ := (cX9_arrives, 2, RX9, some .int, g_room 8)
abbrev jX9_odds : gJ := (cX9_odds, 4, RX9, some .long, g_room 8)
abbrev jX9_learn : gJ := (cX9_learn, 2, RX9, some .int, g_room 8)
abbrev jX9_learned : gJ := (cX9_learned, 2, RX9, some .int, g_room 1)
abbrev jX9_forget : gJ := (cX9_forget, 1, RX9, some .int, g_room 2)
abbrev jX9_stand : gJ := (cX9_stand, 2, RX9, some .boolean, g_room 3)
abbrev jX9_beat : gJ := (cX9_beat, 5, RX9, some .int, ({ frames := 20, cells := 1, slots := 6, locals := 800 } : Room))
abbrev jX9_undo : gJ := (cX9_undo, 1, RX9, some .boolean, g_room 2)
abbrev jX9_walked : gJ := (cX9_walked, 3, RX9, some .int, g_room 2)
abbrev jX9_blame : gJ := (cX9_blame, 3, RX9, some .int, g_room 8)
abbrev jX9_drill : gJ := (cX9_drill, 9, RX9, some .int, g_room 7)
abbrev jX9_hold : gJ := (cX9_hold, 5, RX9, some .int, g_room 8)
abbrev jX9_compare : gJ := (cX9_compare, 7, RX9, some .int, g_room 8)
abbrev jX9_count : gJ := (cX9_count, 2, RX9, some .int, g_room 8)
abbrev jX10_thrown : gJ := (cX10_thrown, 1, RX10, some .int, g_room 1)
abbrev jX10_raise : gJ := (cX10_raise, 2, RX10, some .int, g_room 1)
abbrev jX10_begin : gJ := (cX10_begin, 2, RX10, none, g_room 1)
abbrev jX10_typed : gJ := (cX10_typed, 3, RX10, none, g_room 1)
abbrev jX10_feed : gJ := (cX10_feed, 6, RX10, some .int, g_room 2)
abbrev jX10_back : gJ := (cX10_back, 2, RX10, some .int, g_room 1)
abbrev jX10_byteAt : gJ := (cX10_byteAt, 2, RX10, some .int, g_room 1)
abbrev jX10_isLetter : gJ := (cX10_isLetter, 2, RX10, some .boolean, g_room 2)
abbrev jX10_isDigit : gJ := (cX10_isDigit, 2, RX10, some .boolean, g_room 2)
abbrev jX10_token : gJ := (cX10_token, 4, RX10, none, g_room 1)
abbrev jX10_wordOf : gJ := (cX10_wordOf, 2, RX10, some .int, g_room 1)
abbrev jX10_signAt : gJ := (cX10_signAt, 4, RX10, some .int, g_room 2)
abbrev jX10_scan : gJ := (cX10_scan, 6, RX10, some .int, g_room 3)
abbrev jX10_scanAll : gJ := (cX10_scanAll, 4, RX10, none, g_room 4)
abbrev jX10_wrong : gJ := (cX10_wrong, 2, RX10, some .boolean, g_room 1)
abbrev jX10_tells : gJ := (cX10_tells, 4, RX10, none, g_room 1)
abbrev jX10_pass : gJ := (cX10_pass, 1, RX10, some .boolean, g_room 2)
abbrev jX10_isSign : gJ := (cX10_isSign, 2, RX10, some .boolean, g_room 1)
abbrev jX10_isWord : gJ := (cX10_isWord, 2, RX10, some .boolean, g_room 1)
abbrev jX10_takes : gJ := (cX10_takes, 2, RX10, some .boolean, g_room 3)
abbrev jX10_takesSigned : gJ := (cX10_takesSigned, 4, RX10, some .boolean, g_room 4)
abbrev jX10_takesInt : gJ := (cX10_takesInt, 4, RX10, some .boolean, g_room 4)
abbrev jX10_emit : gJ := (cX10_emit, 3, RX10, none, g_room 1)
abbrev jX10_rank : gJ := (cX10_rank, 1, RX10, some .int, g_room 1)
abbrev jX10_reduce : gJ := (cX10_reduce, 3, RX10, none, g_room 2)
abbrev jX10_await : gJ := (cX10_await, 2, RX10, none, g_room 1)
abbrev jX10_variableOf : gJ := (cX10_variableOf, 1, RX10, some .int, g_room 1)
abbrev jX10_expr : gJ := (cX10_expr, 5, RX10, some .boolean, g_room 3)
abbrev jX10_cond : gJ := (cX10_cond, 6, RX10, some .boolean, g_room 4)
abbrev jX10_mayCond : gJ := (cX10_mayCond, 1, RX10, some .boolean, g_room 5)
abbrev jX10_actOf : gJ := (cX10_actOf, 4, RX10, some .int, g_room 1)
abbrev jX10_tellAct : gJ := (cX10_tellAct, 5, RX10, some .boolean, g_room 6)
abbrev jX10_tellGusts : gJ := (cX10_tellGusts, 2, RX10, some .boolean, g_room 6)
abbrev jX10_tellReflex : gJ := (cX10_tellReflex, 3, RX10, some .boolean, g_room 5)
abbrev jX10_tellLaw : gJ := (cX10_tellLaw, 2, RX10, some .boolean, g_room 4)
abbrev jX10_tellNumber : gJ := (cX10_tellNumber, 2, RX10, some .boolean, g_room 5)
abbrev jX10_tell : gJ := (cX10_tell, 2, RX10, some .boolean, g_room 7)
abbrev jX10_parses : gJ := (cX10_parses, 1, RX10, some .boolean, g_room 8)
abbrev jX10_afresh : gJ := (cX10_afresh, 1, RX10, none, g_room 1)
abbrev jX10_read : gJ := (cX10_read, 1, RX10, some .int, g_room 9)
abbrev jX10_place : gJ := (cX10_place, 1, RX10, some .int, g_room 1)
abbrev jX10_pole : gJ := (cX10_pole, 3, RX10, some .boolean, g_room 2)
abbrev jX10_variable : gJ := (cX10_variable, 2, RX10, some .int, g_room 1)
abbrev jX10_sum : gJ := (cX10_sum, 8, RX10, some .int, g_room 2)
abbrev jX10_isLit : gJ := (cX10_isLit, 5, RX10, some .boolean, g_room 3)
abbrev jX10_isHeld : gJ := (cX10_isHeld, 6, RX10, some .boolean, g_room 4)
abbrev jX10_numberOf : gJ := (cX10_numberOf, 3, RX10, some .int, g_room 1)
abbrev jX10_atOf : gJ := (cX10_atOf, 1, RX10, some .int, g_room 1)
abbrev jX10_leanOf : gJ := (cX10_leanOf, 1, RX10, some .int, g_room 1)
abbrev jX10_swingOf : gJ := (cX10_swingOf, 1, RX10, some .int, g_room 1)
abbrev jX10_isPlace : gJ := (cX10_isPlace, 4, RX10, some .boolean, g_room 1)
abbrev jX10_isState : gJ := (cX10_isState, 2, RX10, some .boolean, g_room 2)
abbrev jX10_isOver : gJ := (cX10_isOver, 2, RX10, some .boolean, g_room 2)
abbrev jX10_actsOf : gJ := (cX10_actsOf, 1, RX10, some .int, g_room 1)
abbrev jX10_look : gJ := (cX10_look, 4, RX10, none, g_room 2)
abbrev jX10_pushOf : gJ := (cX10_pushOf, 2, RX10, some .int, g_room 1)
abbrev jX10_mayDo : gJ := (cX10_mayDo, 3, RX10, some .boolean, g_room 5)
abbrev jX10_beaten : gJ := (cX10_beaten, 7, RX10, some .int, g_room 3)
abbrev jX10_blow : gJ := (cX10_blow, 4, RX10, none, g_room 5)
abbrev jX10_layAll : gJ := (cX10_layAll, 4, RX10, none, g_room 6)
abbrev jX10_leads : gJ := (cX10_leads, 4, RX10, some .int, g_room 1)
abbrev jX10_isKept : gJ := (cX10_isKept, 6, RX10, some .boolean, g_room 2)
abbrev jX10_fates : gJ := (cX10_fates, 6, RX10, none, g_room 3)
abbrev jX10_lay : gJ := (cX10_lay, 1, RX10, none, g_room 7)
abbrev jX10_isSafe : gJ := (cX10_isSafe, 2, RX10, some .boolean, g_room 1)
abbrev jX10_state : gJ := (cX10_state, 4, RX10, some .int, g_room 2)
abbrev jX10_isAct : gJ := (cX10_isAct, 2, RX10, some .boolean, g_room 2)
abbrev jX10_can : gJ := (cX10_can, 3, RX10, some .int, g_room 8)
abbrev jX10_gust : gJ := (cX10_gust, 3, RX10, some .int, g_room 8)
abbrev jX10_next : gJ := (cX10_next, 4, RX10, some .int, g_room 8)
abbrev jX10_fate : gJ := (cX10_fate, 2, RX10, some .int, g_room 8)
abbrev jX10_isSafeBy : gJ := (cX10_isSafeBy, 5, RX10, some .boolean, g_room 2)
abbrev jX10_keepOf : gJ := (cX10_keepOf, 3, RX10, some .int, g_room 3)
abbrev jX10_keep : gJ := (cX10_keep, 2, RX10, some .int, g_room 8)
abbrev jX10_isNearer : gJ := (cX10_isNearer, 6, RX10, some .boolean, g_room 2)
abbrev jX10_reaches : gJ := (cX10_reaches, 6, RX10, none, g_room 8)
abbrev jX10_reach : gJ := (cX10_reach, 2, RX10, some .int, g_room 9)
abbrev jX10_lead : gJ := (cX10_lead, 3, RX10, some .int, g_room 9)
abbrev jX10_safe : gJ := (cX10_safe, 4, RX10, some .int, g_room 8)
abbrev jX10_edge : gJ := (cX10_edge, 6, RX10, some .int, g_room 8)
abbrev jX10_doom : gJ := (cX10_doom, 3, RX10, some .int, g_room 8)
abbrev jX10_isSaved : gJ := (cX10_isSaved, 6, RX10, some .boolean, g_room 2)
abbrev jX10_saves : gJ := (cX10_saves, 6, RX10, none, g_room 3)
abbrev jX10_borne : gJ := (cX10_borne, 4, RX10, some .int, g_room 8)
abbrev jX10_poles : gJ := (cX10_poles, 4, RX10, some .int, g_room 7)
abbrev jX10_forecast : gJ := (cX10_forecast, 2, RX10, some .int, g_room 1)
abbrev jX10_clear : gJ := (cX10_clear, 1, RX10, none, g_room 1)
abbrev jX10_knownOf : gJ := (cX10_knownOf, 7, RX10, some .int, g_room 8)
abbrev jX10_known : gJ := (cX10_known, 2, RX10, some .int, g_room 9)
abbrev jX10_knownAct : gJ := (cX10_knownAct, 10, RX10, some .int, g_room 9)
abbrev jX10_goesBlindly : gJ := (cX10_goesBlindly, 5, RX10, some .boolean, g_room 3)
abbrev jX10_isBlindly : gJ := (cX10_isBlindly, 9, RX10, some .boolean, g_room 4)
abbrev jX10_rowsOf : gJ := (cX10_rowsOf, 4, RX10, some .int, g_room 2)
abbrev jX10_blind : gJ := (cX10_blind, 6, RX10, some .int, g_room 8)
abbrev jX10_blindAct : gJ := (cX10_blindAct, 8, RX10, some .int, g_room 8)
abbrev jX10_learnedAt : gJ := (cX10_learnedAt, 3, RX10, some .int, g_room 1)
abbrev jX10_reflexAt : gJ := (cX10_reflexAt, 4, RX10, some .int, g_room 5)
abbrev jX10_driven : gJ := (cX10_driven, 3, RX10, some .int, g_room 2)
abbrev jX10_comes : gJ := (cX10_comes, 5, RX10, some .boolean, g_room 3)
abbrev jX10_mayFall : gJ := (cX10_mayFall, 5, RX10, some .boolean, g_room 3)
abbrev jX10_reflexAll : gJ := (cX10_reflexAll, 4, RX10, none, g_room 8)
abbrev jX10_reflex : gJ := (cX10_reflex, 2, RX10, some .int, g_room 9)
abbrev jX10_proof : gJ := (cX10_proof, 2, RX10, some .int, g_room 9)
abbrev jX10_fatal : gJ := (cX10_fatal, 4, RX10, some .int, g_room 3)
abbrev jX10_witness : gJ := (cX10_witness, 5, RX10, some .int, g_room 9)
abbrev jX10_arrives : gJ := (cX10_arrives, 2, RX10, some .int, g_room 9)
abbrev jX10_countRows : gJ := (cX10_countRows, 6, RX10, none, g_room 3)
abbrev jX10_odds : gJ := (cX10_odds, 6, RX10, some .long, g_room 9)
abbrev jX10_learn : gJ := (cX10_learn, 8, RX10, some .int, g_room 9)
abbrev jX10_learned : gJ := (cX10_learned, 2, RX10, some .int, g_room 1)
abbrev jX10_forget : gJ := (cX10_forget, 2, RX10, some .int, g_room 1)
abbrev jX10_stand : gJ := (cX10_stand, 2, RX10, some .boolean, g_room 3)
abbrev jX10_beat : gJ := (cX10_beat, 4, RX10, some .int, g_room 8)
abbrev jX10_undo : gJ := (cX10_undo, 1, RX10, some .boolean, g_room 1)
abbrev jX10_walked : gJ := (cX10_walked, 3, RX10, some .int, g_room 1)
abbrev jX10_blame : gJ := (cX10_blame, 2, RX10, some .int, g_room 8)
abbrev jX10_mixed : gJ := (cX10_mixed, 3, RX10, some .int, g_room 1)
abbrev jX10_lot : gJ := (cX10_lot, 3, RX10, some .int, g_room 2)
abbrev jX10_drilled : gJ := (cX10_drilled, 6, RX10, some .int, g_room 3)
abbrev jX10_drill : gJ := (cX10_drill, 8, RX10, some .int, g_room 9)
abbrev jX10_hold : gJ := (cX10_hold, 5, RX10, some .int, g_room 8)
abbrev jX10_compare : gJ := (cX10_compare, 7, RX10, some .int, g_room 8)
abbrev jX10_statesOf : gJ := (cX10_statesOf, 4, RX10, some .int, g_room 3)
abbrev jX10_count : gJ := (cX10_count, 2, RX10, some .int, g_room 8)
theorem mv_X9_82 : g_wV RX9 82 yX9_tapeWord jX9_tapeWord 1 := ⟨⟨gw (mt_2 (List.mem_of_getElem? (i := 227) rfl)) rfl, in_X9, wc_X9_tapeWord, by decide, by decide, by decide +kernel⟩, wi_X9_tapeWord, wl_X9_tapeWord⟩
theorem mv_X9_86 : g_wV RX9 86 yX1_parse jX1_parse 3 := ⟨⟨gw (mt_2 (List.mem_of_getElem? (i := 239) rfl)) rfl, in_X1, wc_X1_parse, by decide, by decide, by decide +kernel⟩, wi_X1_parse, wl_X1_parse⟩
theorem mv_X9_93 : g_wV RX9 93 yX6_dropForecasts jX6_dropForecasts 0 := ⟨⟨gw (mt_3 (List.mem_of_getElem? (i := 209) rfl)) rfl, in_X6, wc_X6_dropForecasts, by decide, by decide, by decide +kernel⟩, wi_X6_dropForecasts, wl_X6_dropForecasts⟩
theorem mv_X9_96 : g_wV RX9 96 yX5_dropText jX5_dropText 0 := ⟨⟨gw (mt_3 (List.mem_of_getElem? (i := 213) rfl)) rfl, in_X5, wc_X5_dropText, by decide, by decide, by decide +kernel⟩, wi_X5_dropText, wl_X5_dropText⟩
theorem mv_X9_99 : g_wV RX9 99 yX9_settle jX9_settle 1 := ⟨⟨gw (mt_3 (List.mem_of_getElem? (i := 217) rfl)) rfl, in_X9, wc_X9_settle, by decide, by decide, by decide +kernel⟩, wi_X9_settle, wl_X9_settle⟩
theorem mv_X9_102 : g_wV RX9 102 yX0_settle jX0_settle 2 := ⟨⟨gw (mt_3 (List.mem_of_getElem? (i := 221) rfl)) rfl, in_X0, wc_X0_settle, by decide, by decide, by decide +kernel⟩, wi_X0_settle, wl_X0_settle⟩
theorem mv_X9_105 : g_wV RX9 105 yX5_dropPole jX5_dropPole 0 := ⟨⟨gw (mt_3 (List.mem_of_getElem? (i := 225) rfl)) rfl, in_X5, wc_X5_dropPole, by decide, by decide, by decide +kernel⟩, wi_X5_dropPole, wl_X5_dropPole⟩
theorem mv_X9_108 : g_wV RX9 108 yX3_dropLearned jX3_dropLearned 0 := ⟨⟨gw (mt_3 (List.mem_of_getElem? (i := 229) rfl)) rfl, in_X3, wc_X3_dropLearned, by decide, by decide, by decide +kernel⟩, wi_X3_dropLearned, wl_X3_dropLearned⟩
theorem mv_X9_112 : g_wV RX9 112 yX6_dropPlan jX6_dropPlan 0 := ⟨⟨gw (mt_3 (List.mem_of_getElem? (i := 233) rfl)) rfl, in_X6, wc_X6_dropPlan, by decide, by decide, by decide +kernel⟩, wi_X6_dropPlan, wl_X6_dropPlan⟩
theorem mv_X9_115 : g_wV RX9 115 yX8_leave jX8_leave 0 := ⟨⟨gw (mt_3 (List.mem_of_getElem? (i := 237) rfl)) rfl, in_X8, wc_X8_leave, by decide, by decide, by decide +kernel⟩, wi_X8_leave, wl_X8_leave⟩
theorem mv_X9_118 : g_wV RX9 118 yX4_number jX4_number 3 := ⟨⟨gw (mt_4 (List.mem_of_getElem? (i := 14) rfl)) rfl, in_X4, wc_X4_number, by decide, by decide, by decide +kernel⟩, wi_X4_number, wl_X4_number⟩
theorem mv_X9_122 : g_wV RX9 122 yX4_has jX4_has 1 := ⟨⟨gw (mt_4 (List.mem_of_getElem? (i := 22) rfl)) rfl, in_X4, wc_X4_has, by decide, by decide, by decide +kernel⟩, wi_X4_has, wl_X4_has⟩
theorem mv_X9_126 : g_wV RX9 126 yX4_hasAct jX4_hasAct 1 := ⟨⟨gw (mt_4 (List.mem_of_getElem? (i := 36) rfl)) rfl, in_X4, wc_X4_hasAct, by decide, by decide, by decide +kernel⟩, wi_X4_hasAct, wl_X4_hasAct⟩
theorem mv_X9_129 : g_wV RX9 129 yX0_allows jX0_allows 2 := ⟨⟨gw (mt_4 (List.mem_of_getElem? (i := 40) rfl)) rfl, in_X0, wc_X0_allows, by decide, by decide, by decide +kernel⟩, wi_X0_allows, wl_X0_allows⟩
theorem mv_X9_133 : g_wV RX9 133 yX0_greatest jX0_greatest 1 := ⟨⟨gw (mt_4 (List.mem_of_getElem? (i := 73) rfl)) rfl, in_X0, wc_X0_greatest, by decide, by decide, by decide +kernel⟩, wi_X0_greatest, wl_X0_greatest⟩
theorem mv_X9_137 : g_wV RX9 137 yX0_least jX0_least 1 := ⟨⟨gw (mt_4 (List.mem_of_getElem? (i := 77) rfl)) rfl, in_X0, wc_X0_least, by decide, by decide, by decide +kernel⟩, wi_X0_least, wl_X0_least⟩
theorem mv_X9_143 : g_wV RX9 143 yX0_after jX0_after 3 := ⟨⟨gw (mt_4 (List.mem_of_getElem? (i := 88) rfl)) rfl, in_X0, wc_X0_after, by decide, by decide, by decide +kernel⟩, wi_X0_after, wl_X0_after⟩
theorem mv_X9_146 : g_wV RX9 146 yX5_findFates jX5_findFates 0 := ⟨⟨gw (mt_4 (List.mem_of_getElem? (i := 109) rfl)) rfl, in_X5, wc_X5_findFates, by decide, by decide, by decide +kernel⟩, wi_X5_findFates, wl_X5_findFates⟩
theorem mv_X9_156 : g_wV RX9 156 yX5_findReaches jX5_findReaches 0 := ⟨⟨gw (mt_4 (List.mem_of_getElem? (i := 150) rfl)) rfl, in_X5, wc_X5_findReaches, by decide, by decide, by decide +kernel⟩, wi_X5_findReaches, wl_X5_findReaches⟩
theorem mv_X9_169 : g_wV RX9 169 yX5_safeAmong jX5_safeAmong 2 := ⟨⟨gw (mt_4 (List.mem_of_getElem? (i := 169) rfl)) rfl, in_X5, wc_X5_safeAmong, by decide, by decide, by decide +kernel⟩, wi_X5_safeAmong, wl_X5_safeAmong⟩
theorem mv_X9_176 : g_wV RX9 176 yX5_isSafe jX5_isSafe 1 := ⟨⟨gw (mt_4 (List.mem_of_getElem? (i := 181) rfl)) rfl, in_X5, wc_X5_isSafe, by decide, by decide, by decide +kernel⟩, wi_X5_isSafe, wl_X5_isSafe⟩
theorem mv_X9_179 : g_wV RX9 179 yX5_greatestDoom jX5_greatestDoom 0 := ⟨⟨gw (mt_4 (List.mem_of_getElem? (i := 186) rfl)) rfl, in_X5, wc_X5_greatestDoom, by decide, by decide, by decide +kernel⟩, wi_X5_greatestDoom, wl_X5_greatestDoom⟩
theorem mv_X9_182 : g_wV RX9 182 yX5_bearing jX5_bearing 1 := ⟨⟨gw (mt_4 (List.mem_of_getElem? (i := 194) rfl)) rfl, in_X5, wc_X5_bearing, by decide, by decide, by decide +kernel⟩, wi_X5_bearing, wl_X5_bearing⟩
theorem mv_X9_185 : g_wV RX9 185 yX5_leastPole jX5_leastPole 1 := ⟨⟨gw (mt_4 (List.mem_of_getElem? (i := 206) rfl)) rfl, in_X5, wc_X5_leastPole, by decide, by decide, by decide +kernel⟩, wi_X5_leastPole, wl_X5_leastPole⟩
theorem mv_X9_188 : g_wV RX9 188 yX6_addForecast jX6_addForecast 1 := ⟨⟨gw (mt_4 (List.mem_of_getElem? (i := 215) rfl)) rfl, in_X6, wc_X6_addForecast, by decide, by decide, by decide +kernel⟩, wi_X6_addForecast, wl_X6_addForecast⟩
theorem mv_X9_191 : g_wV RX9 191 yX6_plan jX6_plan 1 := ⟨⟨gw (mt_4 (List.mem_of_getElem? (i := 227) rfl)) rfl, in_X6, wc_X6_plan, by decide, by decide, by decide +kernel⟩, wi_X6_plan, wl_X6_plan⟩
theorem mv_X9_197 : g_wV RX9 197 yX6_plannedAct jX6_plannedAct 1 := ⟨⟨gw (mt_5 (List.mem_of_getElem? (i := 9) rfl)) rfl, in_X6, wc_X6_plannedAct, by decide, by decide, by decide +kernel⟩, wi_X6_plannedAct, wl_X6_plannedAct⟩
theorem mv_X9_200 : g_wV RX9 200 yX6_blindRows jX6_blindRows 3 := ⟨⟨gw (mt_5 (List.mem_of_getElem? (i := 17) rfl)) rfl, in_X6, wc_X6_blindRows, by decide, by decide, by decide +kernel⟩, wi_X6_blindRows, wl_X6_blindRows⟩
theorem mv_X9_207 : g_wV RX9 207 yX3_actIn jX3_actIn 1 := ⟨⟨gw (mt_5 (List.mem_of_getElem? (i := 40) rfl)) rfl, in_X3, wc_X3_actIn, by decide, by decide, by decide +kernel⟩, wi_X3_actIn, wl_X3_actIn⟩
theorem mv_X9_210 : g_wV RX9 210 yX3_explore jX3_explore 1 := ⟨⟨gw (mt_5 (List.mem_of_getElem? (i := 53) rfl)) rfl, in_X3, wc_X3_explore, by decide, by decide, by decide +kernel⟩, wi_X3_explore, wl_X3_explore⟩
theorem mv_X9_213 : g_wV RX9 213 yX3_beatsToFall jX3_beatsToFall 0 := ⟨⟨gw (mt_5 (List.mem_of_getElem? (i := 71) rfl)) rfl, in_X3, wc_X3_beatsToFall, by decide, by decide, by decide +kernel⟩, wi_X3_beatsToFall, wl_X3_beatsToFall⟩
theorem mv_X9_216 : g_wV RX9 216 yX3_witnessGust jX3_witnessGust 1 := ⟨⟨gw (mt_5 (List.mem_of_getElem? (i := 79) rfl)) rfl, in_X3, wc_X3_witnessGust, by decide, by decide, by decide +kernel⟩, wi_X3_witnessGust, wl_X3_witnessGust⟩
theorem mv_X9_219 : g_wV RX9 219 yX3_longestWay jX3_longestWay 1 := ⟨⟨gw (mt_5 (List.mem_of_getElem? (i := 88) rfl)) rfl, in_X3, wc_X3_longestWay, by decide, by decide, by decide +kernel⟩, wi_X3_longestWay, wl_X3_longestWay⟩
theorem mv_X9_224 : g_wV RX9 224 yX3_countRows jX3_countRows 3 := ⟨⟨gw (mt_5 (List.mem_of_getElem? (i := 101) rfl)) rfl, in_X3, wc_X3_countRows, by decide, by decide, by decide +kernel⟩, wi_X3_countRows, wl_X3_countRows⟩
theorem mv_X9_228 : g_wV RX9 228 yX3_learnFrom jX3_learnFrom 2 := ⟨⟨gw (mt_5 (List.mem_of_getElem? (i := 116) rfl)) rfl, in_X3, wc_X3_learnFrom, by decide, by decide, by decide +kernel⟩, wi_X3_learnFrom, wl_X3_learnFrom⟩
theorem mv_X9_238 : g_wV RX9 238 yX8_begin jX8_begin 1 := ⟨⟨gw (mt_5 (List.mem_of_getElem? (i := 134) rfl)) rfl, in_X8, wc_X8_begin, by decide, by decide, by decide +kernel⟩, wi_X8_begin, wl_X8_begin⟩
theorem mv_X9_241 : g_wV RX9 241 yX8_standsIn jX8_standsIn 0 := ⟨⟨gw (mt_5 (List.mem_of_getElem? (i := 190) rfl)) rfl, in_X8, wc_X8_standsIn, by decide, by decide, by decide +kernel⟩, wi_X8_standsIn, wl_X8_standsIn⟩
theorem mv_X9_244 : g_wV RX9 244 yX4_isOver jX4_isOver 1 := ⟨⟨gw (mt_5 (List.mem_of_getElem? (i := 177) rfl)) rfl, in_X4, wc_X4_isOver, by decide, by decide, by decide +kernel⟩, wi_X4_isOver, wl_X4_isOver⟩
theorem mv_X9_264 : g_wV RX9 264 yX8_go jX8_go 3 := ⟨⟨gw (mt_6 (List.mem_of_getElem? (i := 46) rfl)) rfl, in_X8, wc_X8_go, by decide, by decide, by decide +kernel⟩, wi_X8_go, wl_X8_go⟩
theorem mv_X9_268 : g_wV RX9 268 yX8_goBack jX8_goBack 0 := ⟨⟨gw (mt_5 (List.mem_of_getElem? (i := 142) rfl)) rfl, in_X8, wc_X8_goBack, by decide, by decide, by decide +kernel⟩, wi_X8_goBack, wl_X8_goBack⟩
theorem mv_X9_272 : g_wV RX9 272 yX8_told jX8_told 2 := ⟨⟨gw (mt_5 (List.mem_of_getElem? (i := 150) rfl)) rfl, in_X8, wc_X8_told, by decide, by decide, by decide +kernel⟩, wi_X8_told, wl_X8_told⟩
theorem mv_X9_275 : g_wV RX9 275 yX5_isSafeAct jX5_isSafeAct 2 := ⟨⟨gw (mt_5 (List.mem_of_getElem? (i := 158) rfl)) rfl, in_X5, wc_X5_isSafeAct, by decide, by decide, by decide +kernel⟩, wi_X5_isSafeAct, wl_X5_isSafeAct⟩
theorem mv_X9_278 : g_wV RX9 278 yX3_drillEnd jX3_drillEnd 3 := ⟨⟨gw (mt_5 (List.mem_of_getElem? (i := 166) rfl)) rfl, in_X3, wc_X3_drillEnd, by decide, by decide, by decide +kernel⟩, wi_X3_drillEnd, wl_X3_drillEnd⟩
theorem mv_X0_50 : g_wV RX0 50 yX0_survey jX0_survey 1 := ⟨⟨gw (mt_4 (List.mem_of_getElem? (i := 44) rfl)) rfl, in_X0, wc_X0_survey, by decide, by decide, by decide +kernel⟩, wi_X0_survey, wl_X0_survey⟩
theorem mv_X0_54 : g_wV RX0 54 yX2_standAt jX2_standAt 2 := ⟨⟨gw (mt_4 (List.mem_of_getElem? (i := 48) rfl)) rfl, in_X2, wc_X2_standAt, by decide, by decide, by decide +kernel⟩, wi_X2_standAt, wl_X2_standAt⟩
theorem mv_X0_73 : g_wV RX0 73 yX2_holds jX2_holds 2 := ⟨⟨gw (mt_4 (List.mem_of_getElem? (i := 53) rfl)) rfl, in_X2, wc_X2_holds, by decide, by decide, by decide +kernel⟩, wi_X2_holds, wl_X2_holds⟩
theorem mv_X0_80 : g_wV RX0 80 yX4_isOver jX4_isOver 1 := ⟨⟨gw (mt_4 (List.mem_of_getElem? (i := 65) rfl)) rfl, in_X4, wc_X4_isOver, by decide, by decide, by decide +kernel⟩, wi_X4_isOver, wl_X4_isOver⟩
theorem mv_X0_105 : g_wV RX0 105 yX0_leap jX0_leap 3 := ⟨⟨gw (mt_4 (List.mem_of_getElem? (i := 92) rfl)) rfl, in_X0, wc_X0_leap, by decide, by decide, by decide +kernel⟩, wi_X0_leap, wl_X0_leap⟩
theorem mv_X0_109 : g_wV RX0 109 yX4_hasAct jX4_hasAct 1 := ⟨⟨gw (mt_4 (List.mem_of_getElem? (i := 96) rfl)) rfl, in_X4, wc_X4_hasAct, by decide, by decide, by decide +kernel⟩, wi_X4_hasAct, wl_X4_hasAct⟩
theorem mv_X0_121 : g_wV RX0 121 yX2_run jX2_run 2 := ⟨⟨gw (mt_4 (List.mem_of_getElem? (i := 99) rfl)) rfl, in_X2, wc_X2_run, by decide, by decide, by decide +kernel⟩, wi_X2_run, wl_X2_run⟩
theorem mv_X0_125 : g_wV RX0 125 yX2_result jX2_result 0 := ⟨⟨gw (mt_4 (List.mem_of_getElem? (i := 100) rfl)) rfl, in_X2, wc_X2_result, by decide, by decide, by decide +kernel⟩, wi_X2_result, wl_X2_result⟩
theorem mv_X0_139 : g_wV RX0 139 yX4_number jX4_number 3 := ⟨⟨gw (mt_4 (List.mem_of_getElem? (i := 104) rfl)) rfl, in_X4, wc_X4_number, by decide, by decide, by decide +kernel⟩, wi_X4_number, wl_X4_number⟩
theorem mv_X1_26 : g_wV RX1 26 yX7_scan jX7_scan 2 := ⟨⟨gw (mt_3 (List.mem_of_getElem? (i := 3) rfl)) rfl, in_X7, wc_X7_scan, by decide, by decide, by decide +kernel⟩, wi_X7_scan, wl_X7_scan⟩
theorem mv_X1_30 : g_wV RX1 30 yX4_untell jX4_untell 0 := ⟨⟨gw (mt_3 (List.mem_of_getElem? (i := 101) rfl)) rfl, in_X4, wc_X4_untell, by decide, by decide, by decide +kernel⟩, wi_X4_untell, wl_X4_untell⟩
theorem mv_X1_51 : g_wV RX1 51 yX1_kind jX1_kind 0 := ⟨⟨gw (mt_3 (List.mem_of_getElem? (i := 105) rfl)) rfl, in_X1, wc_X1_kind, by decide, by decide, by decide +kernel⟩, wi_X1_kind, wl_X1_kind⟩
theorem mv_X1_55 : g_wV RX1 55 yX1_tellSize jX1_tellSize 1 := ⟨⟨gw (mt_3 (List.mem_of_getElem? (i := 109) rfl)) rfl, in_X1, wc_X1_tellSize, by decide, by decide, by decide +kernel⟩, wi_X1_tellSize, wl_X1_tellSize⟩
theorem mv_X1_59 : g_wV RX1 59 yX1_tellLaw jX1_tellLaw 1 := ⟨⟨gw (mt_3 (List.mem_of_getElem? (i := 137) rfl)) rfl, in_X1, wc_X1_tellLaw, by decide, by decide, by decide +kernel⟩, wi_X1_tellLaw, wl_X1_tellLaw⟩
theorem mv_X1_62 : g_wV RX1 62 yX1_tellAct jX1_tellAct 0 := ⟨⟨gw (mt_3 (List.mem_of_getElem? (i := 164) rfl)) rfl, in_X1, wc_X1_tellAct, by decide, by decide, by decide +kernel⟩, wi_X1_tellAct, wl_X1_tellAct⟩
theorem mv_X1_66 : g_wV RX1 66 yX1_tellGusts jX1_tellGusts 0 := ⟨⟨gw (mt_3 (List.mem_of_getElem? (i := 188) rfl)) rfl, in_X1, wc_X1_tellGusts, by decide, by decide, by decide +kernel⟩, wi_X1_tellGusts, wl_X1_tellGusts⟩
theorem mv_X1_69 : g_wV RX1 69 yX1_tellReflex jX1_tellReflex 0 := ⟨⟨gw (mt_3 (List.mem_of_getElem? (i := 196) rfl)) rfl, in_X1, wc_X1_tellReflex, by decide, by decide, by decide +kernel⟩, wi_X1_tellReflex, wl_X1_tellReflex⟩
theorem mv_X1_72 : g_wV RX1 72 yX1_fail jX1_fail 1 := ⟨⟨gw (mt_3 (List.mem_of_getElem? (i := 117) rfl)) rfl, in_X1, wc_X1_fail, by decide, by decide, by decide +kernel⟩, wi_X1_fail, wl_X1_fail⟩
theorem mv_X1_75 : g_wV RX1 75 yX4_finish jX4_finish 0 := ⟨⟨gw (mt_3 (List.mem_of_getElem? (i := 204) rfl)) rfl, in_X4, wc_X4_finish, by decide, by decide, by decide +kernel⟩, wi_X4_finish, wl_X4_finish⟩
theorem mv_X1_88 : g_wV RX1 88 yX1_step jX1_step 0 := ⟨⟨gw (mt_3 (List.mem_of_getElem? (i := 113) rfl)) rfl, in_X1, wc_X1_step, by decide, by decide, by decide +kernel⟩, wi_X1_step, wl_X1_step⟩
theorem mv_X1_91 : g_wV RX1 91 yX1_takeInt jX1_takeInt 2 := ⟨⟨gw (mt_3 (List.mem_of_getElem? (i := 121) rfl)) rfl, in_X1, wc_X1_takeInt, by decide, by decide, by decide +kernel⟩, wi_X1_takeInt, wl_X1_takeInt⟩
theorem mv_X1_107 : g_wV RX1 107 yX1_take jX1_take 1 := ⟨⟨gw (mt_3 (List.mem_of_getElem? (i := 133) rfl)) rfl, in_X1, wc_X1_take, by decide, by decide, by decide +kernel⟩, wi_X1_take, wl_X1_take⟩
theorem mv_X1_110 : g_wV RX1 110 yX1_value jX1_value 0 := ⟨⟨gw (mt_3 (List.mem_of_getElem? (i := 125) rfl)) rfl, in_X1, wc_X1_value, by decide, by decide, by decide +kernel⟩, wi_X1_value, wl_X1_value⟩
theorem mv_X1_114 : g_wV RX1 114 yX1_note jX1_note 1 := ⟨⟨gw (mt_3 (List.mem_of_getElem? (i := 129) rfl)) rfl, in_X1, wc_X1_note, by decide, by decide, by decide +kernel⟩, wi_X1_note, wl_X1_note⟩
theorem mv_X1_121 : g_wV RX1 121 yX1_expression jX1_expression 0 := ⟨⟨gw (mt_3 (List.mem_of_getElem? (i := 141) rfl)) rfl, in_X1, wc_X1_expression, by decide, by decide, by decide +kernel⟩, wi_X1_expression, wl_X1_expression⟩
theorem mv_X1_126 : g_wV RX1 126 yX4_emit jX4_emit 1 := ⟨⟨gw (mt_3 (List.mem_of_getElem? (i := 149) rfl)) rfl, in_X4, wc_X4_emit, by decide, by decide, by decide +kernel⟩, wi_X4_emit, wl_X4_emit⟩
theorem mv_X1_138 : g_wV RX1 138 yX4_actNamed jX4_actNamed 1 := ⟨⟨gw (mt_3 (List.mem_of_getElem? (i := 168) rfl)) rfl, in_X4, wc_X4_actNamed, by decide, by decide, by decide +kernel⟩, wi_X4_actNamed, wl_X4_actNamed⟩
theorem mv_X1_142 : g_wV RX1 142 yX1_takeSigned jX1_takeSigned 2 := ⟨⟨gw (mt_3 (List.mem_of_getElem? (i := 172) rfl)) rfl, in_X1, wc_X1_takeSigned, by decide, by decide, by decide +kernel⟩, wi_X1_takeSigned, wl_X1_takeSigned⟩
theorem mv_X1_145 : g_wV RX1 145 yX1_condition jX1_condition 0 := ⟨⟨gw (mt_3 (List.mem_of_getElem? (i := 176) rfl)) rfl, in_X1, wc_X1_condition, by decide, by decide, by decide +kernel⟩, wi_X1_condition, wl_X1_condition⟩
theorem mv_X1_148 : g_wV RX1 148 yX4_addAct jX4_addAct 4 := ⟨⟨gw (mt_3 (List.mem_of_getElem? (i := 184) rfl)) rfl, in_X4, wc_X4_addAct, by decide, by decide, by decide +kernel⟩, wi_X4_addAct, wl_X4_addAct⟩
theorem mv_X1_155 : g_wV RX1 155 yX4_addGusts jX4_addGusts 5 := ⟨⟨gw (mt_3 (List.mem_of_getElem? (i := 192) rfl)) rfl, in_X4, wc_X4_addGusts, by decide, by decide, by decide +kernel⟩, wi_X4_addGusts, wl_X4_addGusts⟩
theorem mv_X1_162 : g_wV RX1 162 yX4_addReflex jX4_addReflex 2 := ⟨⟨gw (mt_3 (List.mem_of_getElem? (i := 200) rfl)) rfl, in_X4, wc_X4_addReflex, by decide, by decide, by decide +kernel⟩, wi_X4_addReflex, wl_X4_addReflex⟩
theorem mv_X1_166 : g_wV RX1 166 yX1_literal jX1_literal 0 := ⟨⟨gw (mt_3 (List.mem_of_getElem? (i := 180) rfl)) rfl, in_X1, wc_X1_literal, by decide, by decide, by decide +kernel⟩, wi_X1_literal, wl_X1_literal⟩
theorem mv_X1_172 : g_wV RX1 172 yX1_emitUnit jX1_emitUnit 1 := ⟨⟨gw (mt_3 (List.mem_of_getElem? (i := 145) rfl)) rfl, in_X1, wc_X1_emitUnit, by decide, by decide, by decide +kernel⟩, wi_X1_emitUnit, wl_X1_emitUnit⟩
theorem mv_X1_175 : g_wV RX1 175 yX1_defer jX1_defer 1 := ⟨⟨gw (mt_3 (List.mem_of_getElem? (i := 153) rfl)) rfl, in_X1, wc_X1_defer, by decide, by decide, by decide +kernel⟩, wi_X1_defer, wl_X1_defer⟩
theorem mv_X1_178 : g_wV RX1 178 yX1_unwind jX1_unwind 1 := ⟨⟨gw (mt_3 (List.mem_of_getElem? (i := 157) rfl)) rfl, in_X1, wc_X1_unwind, by decide, by decide, by decide +kernel⟩, wi_X1_unwind, wl_X1_unwind⟩
theorem mv_X2_18 : g_wV RX2 18 yX2_run jX2_run 2 := ⟨⟨gw (mt_4 (List.mem_of_getElem? (i := 57) rfl)) rfl, in_X2, wc_X2_run, by decide, by decide, by decide +kernel⟩, wi_X2_run, wl_X2_run⟩
theorem mv_X2_22 : g_wV RX2 22 yX2_literal jX2_literal 1 := ⟨⟨gw (mt_4 (List.mem_of_getElem? (i := 61) rfl)) rfl, in_X2, wc_X2_literal, by decide, by decide, by decide +kernel⟩, wi_X2_literal, wl_X2_literal⟩
theorem mv_X3_54 : g_wV RX3 54 yX0_draw jX0_draw 1 := ⟨⟨gw (mt_5 (List.mem_of_getElem? (i := 44) rfl)) rfl, in_X0, wc_X0_draw, by decide, by decide, by decide +kernel⟩, wi_X0_draw, wl_X0_draw⟩
theorem mv_X3_60 : g_wV RX3 60 yX0_after jX0_after 3 := ⟨⟨gw (mt_5 (List.mem_of_getElem? (i := 70) rfl)) rfl, in_X0, wc_X0_after, by decide, by decide, by decide +kernel⟩, wi_X0_after, wl_X0_after⟩
theorem mv_X3_73 : g_wV RX3 73 yX3_enqueue jX3_enqueue 3 := ⟨⟨gw (mt_5 (List.mem_of_getElem? (i := 58) rfl)) rfl, in_X3, wc_X3_enqueue, by decide, by decide, by decide +kernel⟩, wi_X3_enqueue, wl_X3_enqueue⟩
theorem mv_X3_77 : g_wV RX3 77 yX3_actIn jX3_actIn 1 := ⟨⟨gw (mt_5 (List.mem_of_getElem? (i := 62) rfl)) rfl, in_X3, wc_X3_actIn, by decide, by decide, by decide +kernel⟩, wi_X3_actIn, wl_X3_actIn⟩
theorem mv_X3_84 : g_wV RX3 84 yX4_isOver jX4_isOver 1 := ⟨⟨gw (mt_5 (List.mem_of_getElem? (i := 63) rfl)) rfl, in_X4, wc_X4_isOver, by decide, by decide, by decide +kernel⟩, wi_X4_isOver, wl_X4_isOver⟩
theorem mv_X3_90 : g_wV RX3 90 yX0_greatest jX0_greatest 1 := ⟨⟨gw (mt_5 (List.mem_of_getElem? (i := 64) rfl)) rfl, in_X0, wc_X0_greatest, by decide, by decide, by decide +kernel⟩, wi_X0_greatest, wl_X0_greatest⟩
theorem mv_X3_93 : g_wV RX3 93 yX0_least jX0_least 1 := ⟨⟨gw (mt_5 (List.mem_of_getElem? (i := 65) rfl)) rfl, in_X0, wc_X0_least, by decide, by decide, by decide +kernel⟩, wi_X0_least, wl_X0_least⟩
theorem mv_X3_96 : g_wV RX3 96 yX3_behind jX3_behind 3 := ⟨⟨gw (mt_5 (List.mem_of_getElem? (i := 66) rfl)) rfl, in_X3, wc_X3_behind, by decide, by decide, by decide +kernel⟩, wi_X3_behind, wl_X3_behind⟩
theorem mv_X3_102 : g_wV RX3 102 yX3_beatsToFall jX3_beatsToFall 0 := ⟨⟨gw (mt_5 (List.mem_of_getElem? (i := 83) rfl)) rfl, in_X3, wc_X3_beatsToFall, by decide, by decide, by decide +kernel⟩, wi_X3_beatsToFall, wl_X3_beatsToFall⟩
theorem mv_X3_106 : g_wV RX3 106 yX3_longestFrom jX3_longestFrom 1 := ⟨⟨gw (mt_5 (List.mem_of_getElem? (i := 92) rfl)) rfl, in_X3, wc_X3_longestFrom, by decide, by decide, by decide +kernel⟩, wi_X3_longestFrom, wl_X3_longestFrom⟩
theorem mv_X3_115 : g_wV RX3 115 yX3_spread jX3_spread 1 := ⟨⟨gw (mt_5 (List.mem_of_getElem? (i := 108) rfl)) rfl, in_X3, wc_X3_spread, by decide, by decide, by decide +kernel⟩, wi_X3_spread, wl_X3_spread⟩
theorem mv_X3_119 : g_wV RX3 119 yX3_explore jX3_explore 1 := ⟨⟨gw (mt_5 (List.mem_of_getElem? (i := 120) rfl)) rfl, in_X3, wc_X3_explore, by decide, by decide, by decide +kernel⟩, wi_X3_explore, wl_X3_explore⟩
theorem mv_X3_123 : g_wV RX3 123 yX5_isSafe jX5_isSafe 1 := ⟨⟨gw (mt_5 (List.mem_of_getElem? (i := 121) rfl)) rfl, in_X5, wc_X5_isSafe, by decide, by decide, by decide +kernel⟩, wi_X5_isSafe, wl_X5_isSafe⟩
theorem mv_X4_65 : g_wV RX4 65 yX4_addAct jX4_addAct 4 := ⟨⟨gw (mt_3 (List.mem_of_getElem? (i := 208) rfl)) rfl, in_X4, wc_X4_addAct, by decide, by decide, by decide +kernel⟩, wi_X4_addAct, wl_X4_addAct⟩
theorem mv_X4_79 : g_wV RX4 79 yX4_number jX4_number 3 := ⟨⟨gw (mt_4 (List.mem_of_getElem? (i := 35) rfl)) rfl, in_X4, wc_X4_number, by decide, by decide, by decide +kernel⟩, wi_X4_number, wl_X4_number⟩
theorem mv_X5_58 : g_wV RX5 58 yX0_least jX0_least 1 := ⟨⟨gw (mt_4 (List.mem_of_getElem? (i := 134) rfl)) rfl, in_X0, wc_X0_least, by decide, by decide, by decide +kernel⟩, wi_X0_least, wl_X0_least⟩
theorem mv_X5_64 : g_wV RX5 64 yX0_greatest jX0_greatest 1 := ⟨⟨gw (mt_4 (List.mem_of_getElem? (i := 135) rfl)) rfl, in_X0, wc_X0_greatest, by decide, by decide, by decide +kernel⟩, wi_X0_greatest, wl_X0_greatest⟩
theorem mv_X5_67 : g_wV RX5 67 yX5_leadsWell jX5_leadsWell 6 := ⟨⟨gw (mt_4 (List.mem_of_getElem? (i := 136) rfl)) rfl, in_X5, wc_X5_leadsWell, by decide, by decide, by decide +kernel⟩, wi_X5_leadsWell, wl_X5_leadsWell⟩
theorem mv_X5_71 : g_wV RX5 71 yX5_isSafe jX5_isSafe 1 := ⟨⟨gw (mt_4 (List.mem_of_getElem? (i := 173) rfl)) rfl, in_X5, wc_X5_isSafe, by decide, by decide, by decide +kernel⟩, wi_X5_isSafe, wl_X5_isSafe⟩
theorem mv_X5_84 : g_wV RX5 84 yX4_has jX4_has 1 := ⟨⟨gw (mt_4 (List.mem_of_getElem? (i := 113) rfl)) rfl, in_X4, wc_X4_has, by decide, by decide, by decide +kernel⟩, wi_X4_has, wl_X4_has⟩
theorem mv_X5_87 : g_wV RX5 87 yX0_after jX0_after 3 := ⟨⟨gw (mt_4 (List.mem_of_getElem? (i := 140) rfl)) rfl, in_X0, wc_X0_after, by decide, by decide, by decide +kernel⟩, wi_X0_after, wl_X0_after⟩
theorem mv_X5_91 : g_wV RX5 91 yX0_mask jX0_mask 1 := ⟨⟨gw (mt_4 (List.mem_of_getElem? (i := 119) rfl)) rfl, in_X0, wc_X0_mask, by decide, by decide, by decide +kernel⟩, wi_X0_mask, wl_X0_mask⟩
theorem mv_X5_94 : g_wV RX5 94 yX5_listOpen jX5_listOpen 0 := ⟨⟨gw (mt_4 (List.mem_of_getElem? (i := 115) rfl)) rfl, in_X5, wc_X5_listOpen, by decide, by decide, by decide +kernel⟩, wi_X5_listOpen, wl_X5_listOpen⟩
theorem mv_X5_101 : g_wV RX5 101 yX5_fateRound jX5_fateRound 2 := ⟨⟨gw (mt_4 (List.mem_of_getElem? (i := 126) rfl)) rfl, in_X5, wc_X5_fateRound, by decide, by decide, by decide +kernel⟩, wi_X5_fateRound, wl_X5_fateRound⟩
theorem mv_X5_105 : g_wV RX5 105 yX5_firstGood jX5_firstGood 5 := ⟨⟨gw (mt_4 (List.mem_of_getElem? (i := 130) rfl)) rfl, in_X5, wc_X5_firstGood, by decide, by decide, by decide +kernel⟩, wi_X5_firstGood, wl_X5_firstGood⟩
theorem mv_X5_109 : g_wV RX5 109 yX4_isOver jX4_isOver 1 := ⟨⟨gw (mt_4 (List.mem_of_getElem? (i := 154) rfl)) rfl, in_X4, wc_X4_isOver, by decide, by decide, by decide +kernel⟩, wi_X4_isOver, wl_X4_isOver⟩
theorem mv_X5_113 : g_wV RX5 113 yX5_reachRound jX5_reachRound 2 := ⟨⟨gw (mt_4 (List.mem_of_getElem? (i := 156) rfl)) rfl, in_X5, wc_X5_reachRound, by decide, by decide, by decide +kernel⟩, wi_X5_reachRound, wl_X5_reachRound⟩
theorem mv_X5_116 : g_wV RX5 116 yX5_shrink jX5_shrink 2 := ⟨⟨gw (mt_4 (List.mem_of_getElem? (i := 198) rfl)) rfl, in_X5, wc_X5_shrink, by decide, by decide, by decide +kernel⟩, wi_X5_shrink, wl_X5_shrink⟩
theorem mv_X5_123 : g_wV RX5 123 yX0_settle jX0_settle 2 := ⟨⟨gw (mt_4 (List.mem_of_getElem? (i := 210) rfl)) rfl, in_X0, wc_X0_settle, by decide, by decide, by decide +kernel⟩, wi_X0_settle, wl_X0_settle⟩
theorem mv_X6_53 : g_wV RX6 53 yX4_isOver jX4_isOver 1 := ⟨⟨gw (mt_4 (List.mem_of_getElem? (i := 231) rfl)) rfl, in_X4, wc_X4_isOver, by decide, by decide, by decide +kernel⟩, wi_X4_isOver, wl_X4_isOver⟩
theorem mv_X6_68 : g_wV RX6 68 yX6_goForwards jX6_goForwards 1 := ⟨⟨gw (mt_4 (List.mem_of_getElem? (i := 235) rfl)) rfl, in_X6, wc_X6_goForwards, by decide, by decide, by decide +kernel⟩, wi_X6_goForwards, wl_X6_goForwards⟩
theorem mv_X6_71 : g_wV RX6 71 yX6_goodAct jX6_goodAct 2 := ⟨⟨gw (mt_5 (List.mem_of_getElem? (i := 1) rfl)) rfl, in_X6, wc_X6_goodAct, by decide, by decide, by decide +kernel⟩, wi_X6_goodAct, wl_X6_goodAct⟩
theorem mv_X6_75 : g_wV RX6 75 yX0_after jX0_after 3 := ⟨⟨gw (mt_5 (List.mem_of_getElem? (i := 0) rfl)) rfl, in_X0, wc_X0_after, by decide, by decide, by decide +kernel⟩, wi_X0_after, wl_X0_after⟩
theorem mv_X6_79 : g_wV RX6 79 yX0_mask jX0_mask 1 := ⟨⟨gw (mt_4 (List.mem_of_getElem? (i := 239) rfl)) rfl, in_X0, wc_X0_mask, by decide, by decide, by decide +kernel⟩, wi_X0_mask, wl_X0_mask⟩
theorem mv_X6_83 (d : Nat) : g_wV RX6 83 yX6_rowsFrom (jX6_rowsFrom d) 3 := ⟨⟨gw (mt_5 (List.mem_of_getElem? (i := 21) rfl)) rfl, in_X6, wc_X6_rowsFrom, by decide, by decide, by decide +kernel⟩, wi_X6_rowsFrom, wl_X6_rowsFrom⟩
theorem mv_X6_90 : g_wV RX6 90 yX6_allGoOn jX6_allGoOn 2 := ⟨⟨gw (mt_5 (List.mem_of_getElem? (i := 25) rfl)) rfl, in_X6, wc_X6_allGoOn, by decide, by decide, by decide +kernel⟩, wi_X6_allGoOn, wl_X6_allGoOn⟩
theorem mv_X6_97 : g_wV RX6 97 yX0_allows jX0_allows 2 := ⟨⟨gw (mt_5 (List.mem_of_getElem? (i := 29) rfl)) rfl, in_X0, wc_X0_allows, by decide, by decide, by decide +kernel⟩, wi_X0_allows, wl_X0_allows⟩
theorem mv_X6_100 : g_wV RX6 100 yX0_least jX0_least 1 := ⟨⟨gw (mt_5 (List.mem_of_getElem? (i := 30) rfl)) rfl, in_X0, wc_X0_least, by decide, by decide, by decide +kernel⟩, wi_X0_least, wl_X0_least⟩
theorem mv_X6_103 : g_wV RX6 103 yX0_greatest jX0_greatest 1 := ⟨⟨gw (mt_5 (List.mem_of_getElem? (i := 31) rfl)) rfl, in_X0, wc_X0_greatest, by decide, by decide, by decide +kernel⟩, wi_X0_greatest, wl_X0_greatest⟩
theorem mv_X7_32 : g_wV RX7 32 yX7_skipBlanks jX7_skipBlanks 0 := ⟨⟨gw (mt_3 (List.mem_of_getElem? (i := 7) rfl)) rfl, in_X7, wc_X7_skipBlanks, by decide, by decide, by decide +kernel⟩, wi_X7_skipBlanks, wl_X7_skipBlanks⟩
theorem mv_X7_35 : g_wV RX7 35 yX7_token jX7_token 1 := ⟨⟨gw (mt_3 (List.mem_of_getElem? (i := 18) rfl)) rfl, in_X7, wc_X7_token, by decide, by decide, by decide +kernel⟩, wi_X7_token, wl_X7_token⟩
theorem mv_X7_39 : g_wV RX7 39 yX7_charAt jX7_charAt 1 := ⟨⟨gw (mt_3 (List.mem_of_getElem? (i := 11) rfl)) rfl, in_X7, wc_X7_charAt, by decide, by decide, by decide +kernel⟩, wi_X7_charAt, wl_X7_charAt⟩
theorem mv_X7_49 : g_wV RX7 49 yX7_letters jX7_letters 1 := ⟨⟨gw (mt_3 (List.mem_of_getElem? (i := 25) rfl)) rfl, in_X7, wc_X7_letters, by decide, by decide, by decide +kernel⟩, wi_X7_letters, wl_X7_letters⟩
theorem mv_X7_55 : g_wV RX7 55 yX7_digits jX7_digits 1 := ⟨⟨gw (mt_3 (List.mem_of_getElem? (i := 87) rfl)) rfl, in_X7, wc_X7_digits, by decide, by decide, by decide +kernel⟩, wi_X7_digits, wl_X7_digits⟩
theorem mv_X7_58 : g_wV RX7 58 yX7_sign jX7_sign 1 := ⟨⟨gw (mt_3 (List.mem_of_getElem? (i := 93) rfl)) rfl, in_X7, wc_X7_sign, by decide, by decide, by decide +kernel⟩, wi_X7_sign, wl_X7_sign⟩
theorem mv_X7_65 : g_wV RX7 65 yX7_isWord jX7_isWord 3 := ⟨⟨gw (mt_3 (List.mem_of_getElem? (i := 31) rfl)) rfl, in_X7, wc_X7_isWord, by decide, by decide, by decide +kernel⟩, wi_X7_isWord, wl_X7_isWord⟩
theorem mv_X7_71 : g_wV RX7 71 yJ0_length_8abf5 jJ0_length_8abf5 0 := ⟨⟨gw (mt_3 (List.mem_of_getElem? (i := 36) rfl)) rfl, in_J0, wc_J0_length_8abf5, by decide, by decide, by decide +kernel⟩, wi_J0_length_8abf5, wl_J0_length_8abf5⟩
theorem mv_X7_77 : g_wV RX7 77 yJ0_charAt_5068e jJ0_charAt_5068e 1 := ⟨⟨gw (mt_3 (List.mem_of_getElem? (i := 46) rfl)) rfl, in_J0, wc_J0_charAt_5068e, by decide, by decide, by decide +kernel⟩, wi_J0_charAt_5068e, wl_J0_charAt_5068e⟩
theorem mv_X7_84 : g_wV RX7 84 yX7_second jX7_second 1 := ⟨⟨gw (mt_3 (List.mem_of_getElem? (i := 97) rfl)) rfl, in_X7, wc_X7_second, by decide, by decide, by decide +kernel⟩, wi_X7_second, wl_X7_second⟩
theorem mv_L_7 : g_wV RL 7 yX9_beat jX9_beat 2 := ⟨⟨gw (mt_5 (List.mem_of_getElem? (i := 199) rfl)) rfl, in_X9, wc_X9_beat, by decide, by decide, by decide +kernel⟩, wi_X9_beat, wl_X9_beat⟩
theorem mv_L_21 : g_wV RL 21 yX9_feed jX9_feed 5 := ⟨⟨gw (mt_2 (List.mem_of_getElem? (i := 223) rfl)) rfl, in_X9, wc_X9_feed, by decide, by decide, by decide +kernel⟩, wi_X9_feed, wl_X9_feed⟩
theorem mv_L_25 : g_wV RL 25 yX10_feed jX10_feed 5 := ⟨⟨gw (mt_7 (List.mem_of_getElem? (i := 107) rfl)) rfl, in_X10, wc_X10_feed, by decide, by decide, by decide +kernel⟩, wi_X10_feed, wl_X10_feed⟩
theorem mv_L_26 : g_wV RL 26 yX9_back jX9_back 1 := ⟨⟨gw (mt_2 (List.mem_of_getElem? (i := 231) rfl)) rfl, in_X9, wc_X9_back, by decide, by decide, by decide +kernel⟩, wi_X9_back, wl_X9_back⟩
theorem mv_L_30 : g_wV RL 30 yX10_back jX10_back 1 := ⟨⟨gw (mt_7 (List.mem_of_getElem? (i := 115) rfl)) rfl, in_X10, wc_X10_back, by decide, by decide, by decide +kernel⟩, wi_X10_back, wl_X10_back⟩
theorem mv_L_31 : g_wV RL 31 yX9_read jX9_read 0 := ⟨⟨gw (mt_2 (List.mem_of_getElem? (i := 235) rfl)) rfl, in_X9, wc_X9_read, by decide, by decide, by decide +kernel⟩, wi_X9_read, wl_X9_read⟩
theorem mv_L_35 : g_wV RL 35 yX10_read jX10_read 0 := ⟨⟨gw (mt_7 (List.mem_of_getElem? (i := 119) rfl)) rfl, in_X10, wc_X10_read, by decide, by decide, by decide +kernel⟩, wi_X10_read, wl_X10_read⟩
theorem mv_L_36 : g_wV RL 36 yX9_place jX9_place 0 := ⟨⟨gw (mt_4 (List.mem_of_getElem? (i := 2) rfl)) rfl, in_X9, wc_X9_place, by decide, by decide, by decide +kernel⟩, wi_X9_place, wl_X9_place⟩
theorem mv_L_39 : g_wV RL 39 yX10_place jX10_place 0 := ⟨⟨gw (mt_8 (List.mem_of_getElem? (i := 31) rfl)) rfl, in_X10, wc_X10_place, by decide, by decide, by decide +kernel⟩, wi_X10_place, wl_X10_place⟩
theorem mv_L_40 : g_wV RL 40 yX9_pole jX9_pole 1 := ⟨⟨gw (mt_4 (List.mem_of_getElem? (i := 6) rfl)) rfl, in_X9, wc_X9_pole, by decide, by decide, by decide +kernel⟩, wi_X9_pole, wl_X9_pole⟩
theorem mv_L_44 : g_wV RL 44 yX10_pole jX10_pole 1 := ⟨⟨gw (mt_8 (List.mem_of_getElem? (i := 35) rfl)) rfl, in_X10, wc_X10_pole, by decide, by decide, by decide +kernel⟩, wi_X10_pole, wl_X10_pole⟩
theorem mv_L_45 : g_wV RL 45 yX9_state jX9_state 3 := ⟨⟨gw (mt_4 (List.mem_of_getElem? (i := 10) rfl)) rfl, in_X9, wc_X9_state, by decide, by decide, by decide +kernel⟩, wi_X9_state, wl_X9_state⟩
theorem mv_L_49 : g_wV RL 49 yX10_state jX10_state 3 := ⟨⟨gw (mt_8 (List.mem_of_getElem? (i := 39) rfl)) rfl, in_X10, wc_X10_state, by decide, by decide, by decide +kernel⟩, wi_X10_state, wl_X10_state⟩
theorem mv_L_50 : g_wV RL 50 yX9_can jX9_can 2 := ⟨⟨gw (mt_4 (List.mem_of_getElem? (i := 18) rfl)) rfl, in_X9, wc_X9_can, by decide, by decide, by decide +kernel⟩, wi_X9_can, wl_X9_can⟩
theorem mv_L_53 : g_wV RL 53 yX10_can jX10_can 2 := ⟨⟨gw (mt_8 (List.mem_of_getElem? (i := 50) rfl)) rfl, in_X10, wc_X10_can, by decide, by decide, by decide +kernel⟩, wi_X10_can, wl_X10_can⟩
theorem mv_L_54 : g_wV RL 54 yX9_gust jX9_gust 2 := ⟨⟨gw (mt_4 (List.mem_of_getElem? (i := 69) rfl)) rfl, in_X9, wc_X9_gust, by decide, by decide, by decide +kernel⟩, wi_X9_gust, wl_X9_gust⟩
theorem mv_L_58 : g_wV RL 58 yX10_gust jX10_gust 2 := ⟨⟨gw (mt_8 (List.mem_of_getElem? (i := 135) rfl)) rfl, in_X10, wc_X10_gust, by decide, by decide, by decide +kernel⟩, wi_X10_gust, wl_X10_gust⟩
theorem mv_L_59 : g_wV RL 59 yX9_next jX9_next 3 := ⟨⟨gw (mt_4 (List.mem_of_getElem? (i := 81) rfl)) rfl, in_X9, wc_X9_next, by decide, by decide, by decide +kernel⟩, wi_X9_next, wl_X9_next⟩
theorem mv_L_62 : g_wV RL 62 yX10_next jX10_next 3 := ⟨⟨gw (mt_8 (List.mem_of_getElem? (i := 139) rfl)) rfl, in_X10, wc_X10_next, by decide, by decide, by decide +kernel⟩, wi_X10_next, wl_X10_next⟩
theorem mv_L_63 : g_wV RL 63 yX9_fate jX9_fate 1 := ⟨⟨gw (mt_4 (List.mem_of_getElem? (i := 105) rfl)) rfl, in_X9, wc_X9_fate, by decide, by decide, by decide +kernel⟩, wi_X9_fate, wl_X9_fate⟩
theorem mv_L_66 : g_wV RL 66 yX10_fate jX10_fate 1 := ⟨⟨gw (mt_8 (List.mem_of_getElem? (i := 143) rfl)) rfl, in_X10, wc_X10_fate, by decide, by decide, by decide +kernel⟩, wi_X10_fate, wl_X10_fate⟩
theorem mv_L_67 : g_wV RL 67 yX9_keep jX9_keep 1 := ⟨⟨gw (mt_4 (List.mem_of_getElem? (i := 142) rfl)) rfl, in_X9, wc_X9_keep, by decide, by decide, by decide +kernel⟩, wi_X9_keep, wl_X9_keep⟩
theorem mv_L_70 : g_wV RL 70 yX10_keep jX10_keep 1 := ⟨⟨gw (mt_8 (List.mem_of_getElem? (i := 147) rfl)) rfl, in_X10, wc_X10_keep, by decide, by decide, by decide +kernel⟩, wi_X10_keep, wl_X10_keep⟩
theorem mv_L_71 : g_wV RL 71 yX9_reach jX9_reach 1 := ⟨⟨gw (mt_4 (List.mem_of_getElem? (i := 146) rfl)) rfl, in_X9, wc_X9_reach, by decide, by decide, by decide +kernel⟩, wi_X9_reach, wl_X9_reach⟩
theorem mv_L_74 : g_wV RL 74 yX10_reach jX10_reach 1 := ⟨⟨gw (mt_8 (List.mem_of_getElem? (i := 163) rfl)) rfl, in_X10, wc_X10_reach, by decide, by decide, by decide +kernel⟩, wi_X10_reach, wl_X10_reach⟩
theorem mv_L_75 : g_wV RL 75 yX9_lead jX9_lead 1 := ⟨⟨gw (mt_4 (List.mem_of_getElem? (i := 161) rfl)) rfl, in_X9, wc_X9_lead, by decide, by decide, by decide +kernel⟩, wi_X9_lead, wl_X9_lead⟩
theorem mv_L_78 : g_wV RL 78 yX10_lead jX10_lead 1 := ⟨⟨gw (mt_8 (List.mem_of_getElem? (i := 175) rfl)) rfl, in_X10, wc_X10_lead, by decide, by decide, by decide +kernel⟩, wi_X10_lead, wl_X10_lead⟩
theorem mv_L_79 : g_wV RL 79 yX9_safe jX9_safe 1 := ⟨⟨gw (mt_4 (List.mem_of_getElem? (i := 165) rfl)) rfl, in_X9, wc_X9_safe, by decide, by decide, by decide +kernel⟩, wi_X9_safe, wl_X9_safe⟩
theorem mv_L_82 : g_wV RL 82 yX10_safe jX10_safe 1 := ⟨⟨gw (mt_8 (List.mem_of_getElem? (i := 179) rfl)) rfl, in_X10, wc_X10_safe, by decide, by decide, by decide +kernel⟩, wi_X10_safe, wl_X10_safe⟩
theorem mv_L_83 : g_wV RL 83 yX9_edge jX9_edge 3 := ⟨⟨gw (mt_4 (List.mem_of_getElem? (i := 177) rfl)) rfl, in_X9, wc_X9_edge, by decide, by decide, by decide +kernel⟩, wi_X9_edge, wl_X9_edge⟩
theorem mv_L_87 : g_wV RL 87 yX10_edge jX10_edge 3 := ⟨⟨gw (mt_8 (List.mem_of_getElem? (i := 183) rfl)) rfl, in_X10, wc_X10_edge, by decide, by decide, by decide +kernel⟩, wi_X10_edge, wl_X10_edge⟩
theorem mv_L_88 : g_wV RL 88 yX9_doom jX9_doom 0 := ⟨⟨gw (mt_4 (List.mem_of_getElem? (i := 182) rfl)) rfl, in_X9, wc_X9_doom, by decide, by decide, by decide +kernel⟩, wi_X9_doom, wl_X9_doom⟩
theorem mv_L_91 : g_wV RL 91 yX10_doom jX10_doom 0 := ⟨⟨gw (mt_8 (List.mem_of_getElem? (i := 187) rfl)) rfl, in_X10, wc_X10_doom, by decide, by decide, by decide +kernel⟩, wi_X10_doom, wl_X10_doom⟩
theorem mv_L_92 : g_wV RL 92 yX9_borne jX9_borne 1 := ⟨⟨gw (mt_4 (List.mem_of_getElem? (i := 190) rfl)) rfl, in_X9, wc_X9_borne, by decide, by decide, by decide +kernel⟩, wi_X9_borne, wl_X9_borne⟩
theorem mv_L_95 : g_wV RL 95 yX10_borne jX10_borne 1 := ⟨⟨gw (mt_8 (List.mem_of_getElem? (i := 191) rfl)) rfl, in_X10, wc_X10_borne, by decide, by decide, by decide +kernel⟩, wi_X10_borne, wl_X10_borne⟩
theorem mv_L_96 : g_wV RL 96 yX9_poles jX9_poles 1 := ⟨⟨gw (mt_4 (List.mem_of_getElem? (i := 202) rfl)) rfl, in_X9, wc_X9_poles, by decide, by decide, by decide +kernel⟩, wi_X9_poles, wl_X9_poles⟩
theorem mv_L_99 : g_wV RL 99 yX10_poles jX10_poles 1 := ⟨⟨gw (mt_8 (List.mem_of_getElem? (i := 203) rfl)) rfl, in_X10, wc_X10_poles, by decide, by decide, by decide +kernel⟩, wi_X10_poles, wl_X10_poles⟩
theorem mv_L_100 : g_wV RL 100 yX9_forecast jX9_forecast 1 := ⟨⟨gw (mt_4 (List.mem_of_getElem? (i := 211) rfl)) rfl, in_X9, wc_X9_forecast, by decide, by decide, by decide +kernel⟩, wi_X9_forecast, wl_X9_forecast⟩
theorem mv_L_103 : g_wV RL 103 yX10_forecast jX10_forecast 1 := ⟨⟨gw (mt_8 (List.mem_of_getElem? (i := 207) rfl)) rfl, in_X10, wc_X10_forecast, by decide, by decide, by decide +kernel⟩, wi_X10_forecast, wl_X10_forecast⟩
theorem mv_L_104 : g_wV RL 104 yX9_clear jX9_clear 0 := ⟨⟨gw (mt_4 (List.mem_of_getElem? (i := 219) rfl)) rfl, in_X9, wc_X9_clear, by decide, by decide, by decide +kernel⟩, wi_X9_clear, wl_X9_clear⟩
theorem mv_L_107 : g_wV RL 107 yX10_clear jX10_clear 0 := ⟨⟨gw (mt_8 (List.mem_of_getElem? (i := 211) rfl)) rfl, in_X10, wc_X10_clear, by decide, by decide, by decide +kernel⟩, wi_X10_clear, wl_X10_clear⟩
theorem mv_L_108 : g_wV RL 108 yX9_known jX9_known 1 := ⟨⟨gw (mt_4 (List.mem_of_getElem? (i := 223) rfl)) rfl, in_X9, wc_X9_known, by decide, by decide, by decide +kernel⟩, wi_X9_known, wl_X9_known⟩
theorem mv_L_111 : g_wV RL 111 yX10_known jX10_known 1 := ⟨⟨gw (mt_8 (List.mem_of_getElem? (i := 215) rfl)) rfl, in_X10, wc_X10_known, by decide, by decide, by decide +kernel⟩, wi_X10_known, wl_X10_known⟩
theorem mv_L_112 : g_wV RL 112 yX9_knownAct jX9_knownAct 2 := ⟨⟨gw (mt_5 (List.mem_of_getElem? (i := 5) rfl)) rfl, in_X9, wc_X9_knownAct, by decide, by decide, by decide +kernel⟩, wi_X9_knownAct, wl_X9_knownAct⟩
theorem mv_L_115 : g_wV RL 115 yX10_knownAct jX10_knownAct 2 := ⟨⟨gw (mt_8 (List.mem_of_getElem? (i := 223) rfl)) rfl, in_X10, wc_X10_knownAct, by decide, by decide, by decide +kernel⟩, wi_X10_knownAct, wl_X10_knownAct⟩
theorem mv_L_116 : g_wV RL 116 yX9_blind jX9_blind 2 := ⟨⟨gw (mt_5 (List.mem_of_getElem? (i := 13) rfl)) rfl, in_X9, wc_X9_blind, by decide, by decide, by decide +kernel⟩, wi_X9_blind, wl_X9_blind⟩
theorem mv_L_119 : g_wV RL 119 yX10_blind jX10_blind 2 := ⟨⟨gw (mt_8 (List.mem_of_getElem? (i := 227) rfl)) rfl, in_X10, wc_X10_blind, by decide, by decide, by decide +kernel⟩, wi_X10_blind, wl_X10_blind⟩
theorem mv_L_120 : g_wV RL 120 yX9_blindAct jX9_blindAct 3 := ⟨⟨gw (mt_5 (List.mem_of_getElem? (i := 32) rfl)) rfl, in_X9, wc_X9_blindAct, by decide, by decide, by decide +kernel⟩, wi_X9_blindAct, wl_X9_blindAct⟩
theorem mv_L_123 : g_wV RL 123 yX10_blindAct jX10_blindAct 3 := ⟨⟨gw (mt_9 (List.mem_of_getElem? (i := 3) rfl)) rfl, in_X10, wc_X10_blindAct, by decide, by decide, by decide +kernel⟩, wi_X10_blindAct, wl_X10_blindAct⟩
theorem mv_L_124 : g_wV RL 124 yX9_reflex jX9_reflex 1 := ⟨⟨gw (mt_5 (List.mem_of_getElem? (i := 36) rfl)) rfl, in_X9, wc_X9_reflex, by decide, by decide, by decide +kernel⟩, wi_X9_reflex, wl_X9_reflex⟩
theorem mv_L_127 : g_wV RL 127 yX10_reflex jX10_reflex 1 := ⟨⟨gw (mt_9 (List.mem_of_getElem? (i := 7) rfl)) rfl, in_X10, wc_X10_reflex, by decide, by decide, by decide +kernel⟩, wi_X10_reflex, wl_X10_reflex⟩
theorem mv_L_128 : g_wV RL 128 yX9_proof jX9_proof 1 := ⟨⟨gw (mt_5 (List.mem_of_getElem? (i := 49) rfl)) rfl, in_X9, wc_X9_proof, by decide, by decide, by decide +kernel⟩, wi_X9_proof, wl_X9_proof⟩
theorem mv_L_131 : g_wV RL 131 yX10_proof jX10_proof 1 := ⟨⟨gw (mt_9 (List.mem_of_getElem? (i := 35) rfl)) rfl, in_X10, wc_X10_proof, by decide, by decide, by decide +kernel⟩, wi_X10_proof, wl_X10_proof⟩
theorem mv_L_132 : g_wV RL 132 yX9_witness jX9_witness 2 := ⟨⟨gw (mt_5 (List.mem_of_getElem? (i := 75) rfl)) rfl, in_X9, wc_X9_witness, by decide, by decide, by decide +kernel⟩, wi_X9_witness, wl_X9_witness⟩
theorem mv_L_135 : g_wV RL 135 yX10_witness jX10_witness 2 := ⟨⟨gw (mt_9 (List.mem_of_getElem? (i := 39) rfl)) rfl, in_X10, wc_X10_witness, by decide, by decide, by decide +kernel⟩, wi_X10_witness, wl_X10_witness⟩
theorem mv_L_136 : g_wV RL 136 yX9_arrives jX9_arrives 1 := ⟨⟨gw (mt_5 (List.mem_of_getElem? (i := 84) rfl)) rfl, in_X9, wc_X9_arrives, by decide, by decide, by decide +kernel⟩, wi_X9_arrives, wl_X9_arrives⟩
theorem mv_L_139 : g_wV RL 139 yX10_arrives jX10_arrives 1 := ⟨⟨gw (mt_9 (List.mem_of_getElem? (i := 47) rfl)) rfl, in_X10, wc_X10_arrives, by decide, by decide, by decide +kernel⟩, wi_X10_arrives, wl_X10_arrives⟩
theorem mv_L_140 : g_wV RL 140 yX9_odds jX9_odds 3 := ⟨⟨gw (mt_5 (List.mem_of_getElem? (i := 96) rfl)) rfl, in_X9, wc_X9_odds, by decide, by decide, by decide +kernel⟩, wi_X9_odds, wl_X9_odds⟩
theorem mv_L_144 : g_wV RL 144 yX10_odds jX10_odds 3 := ⟨⟨gw (mt_9 (List.mem_of_getElem? (i := 51) rfl)) rfl, in_X10, wc_X10_odds, by decide, by decide, by decide +kernel⟩, wi_X10_odds, wl_X10_odds⟩
theorem mv_L_145 : g_wV RL 145 yX9_learn jX9_learn 1 := ⟨⟨gw (mt_5 (List.mem_of_getElem? (i := 112) rfl)) rfl, in_X9, wc_X9_learn, by decide, by decide, by decide +kernel⟩, wi_X9_learn, wl_X9_learn⟩
theorem mv_L_148 : g_wV RL 148 yX10_learn jX10_learn 1 := ⟨⟨gw (mt_9 (List.mem_of_getElem? (i := 60) rfl)) rfl, in_X10, wc_X10_learn, by decide, by decide, by decide +kernel⟩, wi_X10_learn, wl_X10_learn⟩
theorem mv_L_149 : g_wV RL 149 yX9_learned jX9_learned 1 := ⟨⟨gw (mt_5 (List.mem_of_getElem? (i := 122) rfl)) rfl, in_X9, wc_X9_learned, by decide, by decide, by decide +kernel⟩, wi_X9_learned, wl_X9_learned⟩
theorem mv_L_152 : g_wV RL 152 yX10_learned jX10_learned 1 := ⟨⟨gw (mt_9 (List.mem_of_getElem? (i := 64) rfl)) rfl, in_X10, wc_X10_learned, by decide, by decide, by decide +kernel⟩, wi_X10_learned, wl_X10_learned⟩
theorem mv_L_153 : g_wV RL 153 yX9_forget jX9_forget 0 := ⟨⟨gw (mt_5 (List.mem_of_getElem? (i := 126) rfl)) rfl, in_X9, wc_X9_forget, by decide, by decide, by decide +kernel⟩, wi_X9_forget, wl_X9_forget⟩
theorem mv_L_156 : g_wV RL 156 yX10_forget jX10_forget 0 := ⟨⟨gw (mt_9 (List.mem_of_getElem? (i := 68) rfl)) rfl, in_X10, wc_X10_forget, by decide, by decide, by decide +kernel⟩, wi_X10_forget, wl_X10_forget⟩
theorem mv_L_157 : g_wV RL 157 yX9_stand jX9_stand 1 := ⟨⟨gw (mt_5 (List.mem_of_getElem? (i := 130) rfl)) rfl, in_X9, wc_X9_stand, by decide, by decide, by decide +kernel⟩, wi_X9_stand, wl_X9_stand⟩
theorem mv_L_160 : g_wV RL 160 yX10_stand jX10_stand 1 := ⟨⟨gw (mt_9 (List.mem_of_getElem? (i := 72) rfl)) rfl, in_X10, wc_X10_stand, by decide, by decide, by decide +kernel⟩, wi_X10_stand, wl_X10_stand⟩
theorem mv_L_166 : g_wV RL 166 yX10_beat jX10_beat 2 := ⟨⟨gw (mt_9 (List.mem_of_getElem? (i := 76) rfl)) rfl, in_X10, wc_X10_beat, by decide, by decide, by decide +kernel⟩, wi_X10_beat, wl_X10_beat⟩
theorem mv_L_167 : g_wV RL 167 yX10_thrown jX10_thrown 0 := ⟨⟨gw (mt_7 (List.mem_of_getElem? (i := 103) rfl)) rfl, in_X10, wc_X10_thrown, by decide, by decide, by decide +kernel⟩, wi_X10_thrown, wl_X10_thrown⟩
theorem mv_L_170 : g_wV RL 170 yX9_undo jX9_undo 0 := ⟨⟨gw (mt_5 (List.mem_of_getElem? (i := 138) rfl)) rfl, in_X9, wc_X9_undo, by decide, by decide, by decide +kernel⟩, wi_X9_undo, wl_X9_undo⟩
theorem mv_L_174 : g_wV RL 174 yX10_undo jX10_undo 0 := ⟨⟨gw (mt_9 (List.mem_of_getElem? (i := 84) rfl)) rfl, in_X10, wc_X10_undo, by decide, by decide, by decide +kernel⟩, wi_X10_undo, wl_X10_undo⟩
theorem mv_L_175 : g_wV RL 175 yX9_walked jX9_walked 2 := ⟨⟨gw (mt_5 (List.mem_of_getElem? (i := 146) rfl)) rfl, in_X9, wc_X9_walked, by decide, by decide, by decide +kernel⟩, wi_X9_walked, wl_X9_walked⟩
theorem mv_L_178 : g_wV RL 178 yX10_walked jX10_walked 2 := ⟨⟨gw (mt_9 (List.mem_of_getElem? (i := 88) rfl)) rfl, in_X10, wc_X10_walked, by decide, by decide, by decide +kernel⟩, wi_X10_walked, wl_X10_walked⟩
theorem mv_L_179 : g_wV RL 179 yX9_blame jX9_blame 0 := ⟨⟨gw (mt_5 (List.mem_of_getElem? (i := 154) rfl)) rfl, in_X9, wc_X9_blame, by decide, by decide, by decide +kernel⟩, wi_X9_blame, wl_X9_blame⟩
theorem mv_L_182 : g_wV RL 182 yX10_blame jX10_blame 0 := ⟨⟨gw (mt_9 (List.mem_of_getElem? (i := 92) rfl)) rfl, in_X10, wc_X10_blame, by decide, by decide, by decide +kernel⟩, wi_X10_blame, wl_X10_blame⟩
theorem mv_L_183 : g_wV RL 183 yX9_drill jX9_drill 5 := ⟨⟨gw (mt_5 (List.mem_of_getElem? (i := 162) rfl)) rfl, in_X9, wc_X9_drill, by decide, by decide, by decide +kernel⟩, wi_X9_drill, wl_X9_drill⟩
theorem mv_L_186 : g_wV RL 186 yX10_drill jX10_drill 5 := ⟨⟨gw (mt_9 (List.mem_of_getElem? (i := 96) rfl)) rfl, in_X10, wc_X10_drill, by decide, by decide, by decide +kernel⟩, wi_X10_drill, wl_X10_drill⟩
theorem mv_L_187 : g_wV RL 187 yX9_hold jX9_hold 1 := ⟨⟨gw (mt_5 (List.mem_of_getElem? (i := 178) rfl)) rfl, in_X9, wc_X9_hold, by decide, by decide, by decide +kernel⟩, wi_X9_hold, wl_X9_hold⟩
theorem mv_L_190 : g_wV RL 190 yX10_hold jX10_hold 1 := ⟨⟨gw (mt_9 (List.mem_of_getElem? (i := 111) rfl)) rfl, in_X10, wc_X10_hold, by decide, by decide, by decide +kernel⟩, wi_X10_hold, wl_X10_hold⟩
theorem mv_L_191 : g_wV RL 191 yX9_compare jX9_compare 2 := ⟨⟨gw (mt_5 (List.mem_of_getElem? (i := 182) rfl)) rfl, in_X9, wc_X9_compare, by decide, by decide, by decide +kernel⟩, wi_X9_compare, wl_X9_compare⟩
theorem mv_L_194 : g_wV RL 194 yX10_compare jX10_compare 2 := ⟨⟨gw (mt_9 (List.mem_of_getElem? (i := 115) rfl)) rfl, in_X10, wc_X10_compare, by decide, by decide, by decide +kernel⟩, wi_X10_compare, wl_X10_compare⟩
theorem mv_L_195 : g_wV RL 195 yX9_count jX9_count 1 := ⟨⟨gw (mt_5 (List.mem_of_getElem? (i := 186) rfl)) rfl, in_X9, wc_X9_count, by decide, by decide, by decide +kernel⟩, wi_X9_count, wl_X9_count⟩
theorem mv_L_198 : g_wV RL 198 yX10_count jX10_count 1 := ⟨⟨gw (mt_9 (List.mem_of_getElem? (i := 119) rfl)) rfl, in_X10, wc_X10_count, by decide, by decide, by decide +kernel⟩, wi_X10_count, wl_X10_count⟩
theorem mv_X10_207 : g_wV RX10 207 yX10_begin jX10_begin 1 := ⟨⟨gw (mt_6 (List.mem_of_getElem? (i := 58) rfl)) rfl, in_X10, wc_X10_begin, by decide, by decide, by decide +kernel⟩, wi_X10_begin, wl_X10_begin⟩
theorem mv_X10_217 : g_wV RX10 217 yX10_typed jX10_typed 1 := ⟨⟨gw (mt_7 (List.mem_of_getElem? (i := 111) rfl)) rfl, in_X10, wc_X10_typed, by decide, by decide, by decide +kernel⟩, wi_X10_typed, wl_X10_typed⟩
theorem mv_X10_220 : g_wV RX10 220 yX10_byteAt jX10_byteAt 1 := ⟨⟨gw (mt_7 (List.mem_of_getElem? (i := 127) rfl)) rfl, in_X10, wc_X10_byteAt, by decide, by decide, by decide +kernel⟩, wi_X10_byteAt, wl_X10_byteAt⟩
theorem mv_X10_261 : g_wV RX10 261 yX10_isLetter jX10_isLetter 1 := ⟨⟨gw (mt_7 (List.mem_of_getElem? (i := 135) rfl)) rfl, in_X10, wc_X10_isLetter, by decide, by decide, by decide +kernel⟩, wi_X10_isLetter, wl_X10_isLetter⟩
theorem mv_X10_273 : g_wV RX10 273 yX10_token jX10_token 3 := ⟨⟨gw (mt_7 (List.mem_of_getElem? (i := 161) rfl)) rfl, in_X10, wc_X10_token, by decide, by decide, by decide +kernel⟩, wi_X10_token, wl_X10_token⟩
theorem mv_X10_277 : g_wV RX10 277 yX10_isDigit jX10_isDigit 1 := ⟨⟨gw (mt_7 (List.mem_of_getElem? (i := 165) rfl)) rfl, in_X10, wc_X10_isDigit, by decide, by decide, by decide +kernel⟩, wi_X10_isDigit, wl_X10_isDigit⟩
theorem mv_X10_280 : g_wV RX10 280 yX10_signAt jX10_signAt 1 := ⟨⟨gw (mt_7 (List.mem_of_getElem? (i := 169) rfl)) rfl, in_X10, wc_X10_signAt, by decide, by decide, by decide +kernel⟩, wi_X10_signAt, wl_X10_signAt⟩
theorem mv_X10_283 : g_wV RX10 283 yX10_scan jX10_scan 1 := ⟨⟨gw (mt_7 (List.mem_of_getElem? (i := 131) rfl)) rfl, in_X10, wc_X10_scan, by decide, by decide, by decide +kernel⟩, wi_X10_scan, wl_X10_scan⟩
theorem mv_X10_298 : g_wV RX10 298 yX10_wrong jX10_wrong 1 := ⟨⟨gw (mt_7 (List.mem_of_getElem? (i := 189) rfl)) rfl, in_X10, wc_X10_wrong, by decide, by decide, by decide +kernel⟩, wi_X10_wrong, wl_X10_wrong⟩
theorem mv_X10_301 : g_wV RX10 301 yX10_pass jX10_pass 0 := ⟨⟨gw (mt_7 (List.mem_of_getElem? (i := 185) rfl)) rfl, in_X10, wc_X10_pass, by decide, by decide, by decide +kernel⟩, wi_X10_pass, wl_X10_pass⟩
theorem mv_X10_305 : g_wV RX10 305 yX10_isSign jX10_isSign 1 := ⟨⟨gw (mt_7 (List.mem_of_getElem? (i := 213) rfl)) rfl, in_X10, wc_X10_isSign, by decide, by decide, by decide +kernel⟩, wi_X10_isSign, wl_X10_isSign⟩
theorem mv_X10_308 : g_wV RX10 308 yX10_takes jX10_takes 1 := ⟨⟨gw (mt_7 (List.mem_of_getElem? (i := 197) rfl)) rfl, in_X10, wc_X10_takes, by decide, by decide, by decide +kernel⟩, wi_X10_takes, wl_X10_takes⟩
theorem mv_X10_311 : g_wV RX10 311 yX10_tells jX10_tells 2 := ⟨⟨gw (mt_7 (List.mem_of_getElem? (i := 201) rfl)) rfl, in_X10, wc_X10_tells, by decide, by decide, by decide +kernel⟩, wi_X10_tells, wl_X10_tells⟩
theorem mv_X10_327 : g_wV RX10 327 yX10_emit jX10_emit 2 := ⟨⟨gw (mt_7 (List.mem_of_getElem? (i := 224) rfl)) rfl, in_X10, wc_X10_emit, by decide, by decide, by decide +kernel⟩, wi_X10_emit, wl_X10_emit⟩
theorem mv_X10_333 : g_wV RX10 333 yX10_await jX10_await 1 := ⟨⟨gw (mt_7 (List.mem_of_getElem? (i := 217) rfl)) rfl, in_X10, wc_X10_await, by decide, by decide, by decide +kernel⟩, wi_X10_await, wl_X10_await⟩
theorem mv_X10_339 : g_wV RX10 339 yX10_reduce jX10_reduce 2 := ⟨⟨gw (mt_7 (List.mem_of_getElem? (i := 228) rfl)) rfl, in_X10, wc_X10_reduce, by decide, by decide, by decide +kernel⟩, wi_X10_reduce, wl_X10_reduce⟩
theorem mv_X10_345 : g_wV RX10 345 yX10_isWord jX10_isWord 1 := ⟨⟨gw (mt_8 (List.mem_of_getElem? (i := 11) rfl)) rfl, in_X10, wc_X10_isWord, by decide, by decide, by decide +kernel⟩, wi_X10_isWord, wl_X10_isWord⟩
theorem mv_X10_348 : g_wV RX10 348 yX10_expr jX10_expr 0 := ⟨⟨gw (mt_7 (List.mem_of_getElem? (i := 209) rfl)) rfl, in_X10, wc_X10_expr, by decide, by decide, by decide +kernel⟩, wi_X10_expr, wl_X10_expr⟩
theorem mv_X10_351 : g_wV RX10 351 yX10_cond jX10_cond 0 := ⟨⟨gw (mt_8 (List.mem_of_getElem? (i := 15) rfl)) rfl, in_X10, wc_X10_cond, by decide, by decide, by decide +kernel⟩, wi_X10_cond, wl_X10_cond⟩
theorem mv_X10_354 : g_wV RX10 354 yX10_actOf jX10_actOf 1 := ⟨⟨gw (mt_7 (List.mem_of_getElem? (i := 239) rfl)) rfl, in_X10, wc_X10_actOf, by decide, by decide, by decide +kernel⟩, wi_X10_actOf, wl_X10_actOf⟩
theorem mv_X10_357 : g_wV RX10 357 yX10_takesSigned jX10_takesSigned 1 := ⟨⟨gw (mt_8 (List.mem_of_getElem? (i := 3) rfl)) rfl, in_X10, wc_X10_takesSigned, by decide, by decide, by decide +kernel⟩, wi_X10_takesSigned, wl_X10_takesSigned⟩
theorem mv_X10_360 : g_wV RX10 360 yX10_mayCond jX10_mayCond 0 := ⟨⟨gw (mt_8 (List.mem_of_getElem? (i := 7) rfl)) rfl, in_X10, wc_X10_mayCond, by decide, by decide, by decide +kernel⟩, wi_X10_mayCond, wl_X10_mayCond⟩
theorem mv_X10_363 : g_wV RX10 363 yX10_takesInt jX10_takesInt 2 := ⟨⟨gw (mt_7 (List.mem_of_getElem? (i := 193) rfl)) rfl, in_X10, wc_X10_takesInt, by decide, by decide, by decide +kernel⟩, wi_X10_takesInt, wl_X10_takesInt⟩
theorem mv_X10_367 : g_wV RX10 367 yX10_tellNumber jX10_tellNumber 1 := ⟨⟨gw (mt_7 (List.mem_of_getElem? (i := 181) rfl)) rfl, in_X10, wc_X10_tellNumber, by decide, by decide, by decide +kernel⟩, wi_X10_tellNumber, wl_X10_tellNumber⟩
theorem mv_X10_370 : g_wV RX10 370 yX10_tellLaw jX10_tellLaw 1 := ⟨⟨gw (mt_7 (List.mem_of_getElem? (i := 205) rfl)) rfl, in_X10, wc_X10_tellLaw, by decide, by decide, by decide +kernel⟩, wi_X10_tellLaw, wl_X10_tellLaw⟩
theorem mv_X10_373 : g_wV RX10 373 yX10_tellAct jX10_tellAct 0 := ⟨⟨gw (mt_7 (List.mem_of_getElem? (i := 235) rfl)) rfl, in_X10, wc_X10_tellAct, by decide, by decide, by decide +kernel⟩, wi_X10_tellAct, wl_X10_tellAct⟩
theorem mv_X10_376 : g_wV RX10 376 yX10_tellGusts jX10_tellGusts 0 := ⟨⟨gw (mt_8 (List.mem_of_getElem? (i := 19) rfl)) rfl, in_X10, wc_X10_tellGusts, by decide, by decide, by decide +kernel⟩, wi_X10_tellGusts, wl_X10_tellGusts⟩
theorem mv_X10_379 : g_wV RX10 379 yX10_tellReflex jX10_tellReflex 0 := ⟨⟨gw (mt_8 (List.mem_of_getElem? (i := 23) rfl)) rfl, in_X10, wc_X10_tellReflex, by decide, by decide, by decide +kernel⟩, wi_X10_tellReflex, wl_X10_tellReflex⟩
theorem mv_X10_382 : g_wV RX10 382 yX10_tell jX10_tell 0 := ⟨⟨gw (mt_7 (List.mem_of_getElem? (i := 177) rfl)) rfl, in_X10, wc_X10_tell, by decide, by decide, by decide +kernel⟩, wi_X10_tell, wl_X10_tell⟩
theorem mv_X10_385 : g_wV RX10 385 yX10_scanAll jX10_scanAll 0 := ⟨⟨gw (mt_7 (List.mem_of_getElem? (i := 123) rfl)) rfl, in_X10, wc_X10_scanAll, by decide, by decide, by decide +kernel⟩, wi_X10_scanAll, wl_X10_scanAll⟩
theorem mv_X10_391 : g_wV RX10 391 yX10_parses jX10_parses 0 := ⟨⟨gw (mt_7 (List.mem_of_getElem? (i := 173) rfl)) rfl, in_X10, wc_X10_parses, by decide, by decide, by decide +kernel⟩, wi_X10_parses, wl_X10_parses⟩
theorem mv_X10_397 : g_wV RX10 397 yX10_afresh jX10_afresh 0 := ⟨⟨gw (mt_8 (List.mem_of_getElem? (i := 27) rfl)) rfl, in_X10, wc_X10_afresh, by decide, by decide, by decide +kernel⟩, wi_X10_afresh, wl_X10_afresh⟩
theorem mv_X10_437 : g_wV RX10 437 yX10_variable jX10_variable 1 := ⟨⟨gw (mt_8 (List.mem_of_getElem? (i := 103) rfl)) rfl, in_X10, wc_X10_variable, by decide, by decide, by decide +kernel⟩, wi_X10_variable, wl_X10_variable⟩
theorem mv_X10_440 : g_wV RX10 440 yX10_sum jX10_sum 2 := ⟨⟨gw (mt_8 (List.mem_of_getElem? (i := 99) rfl)) rfl, in_X10, wc_X10_sum, by decide, by decide, by decide +kernel⟩, wi_X10_sum, wl_X10_sum⟩
theorem mv_X10_444 : g_wV RX10 444 yX10_isLit jX10_isLit 1 := ⟨⟨gw (mt_8 (List.mem_of_getElem? (i := 95) rfl)) rfl, in_X10, wc_X10_isLit, by decide, by decide, by decide +kernel⟩, wi_X10_isLit, wl_X10_isLit⟩
theorem mv_X10_456 : g_wV RX10 456 yX10_isPlace jX10_isPlace 3 := ⟨⟨gw (mt_8 (List.mem_of_getElem? (i := 43) rfl)) rfl, in_X10, wc_X10_isPlace, by decide, by decide, by decide +kernel⟩, wi_X10_isPlace, wl_X10_isPlace⟩
theorem mv_X10_460 : g_wV RX10 460 yX10_isOver jX10_isOver 1 := ⟨⟨gw (mt_8 (List.mem_of_getElem? (i := 111) rfl)) rfl, in_X10, wc_X10_isOver, by decide, by decide, by decide +kernel⟩, wi_X10_isOver, wl_X10_isOver⟩
theorem mv_X10_463 : g_wV RX10 463 yX10_pushOf jX10_pushOf 1 := ⟨⟨gw (mt_8 (List.mem_of_getElem? (i := 115) rfl)) rfl, in_X10, wc_X10_pushOf, by decide, by decide, by decide +kernel⟩, wi_X10_pushOf, wl_X10_pushOf⟩
theorem mv_X10_466 : g_wV RX10 466 yX10_look jX10_look 3 := ⟨⟨gw (mt_8 (List.mem_of_getElem? (i := 87) rfl)) rfl, in_X10, wc_X10_look, by decide, by decide, by decide +kernel⟩, wi_X10_look, wl_X10_look⟩
theorem mv_X10_469 : g_wV RX10 469 yX10_isHeld jX10_isHeld 2 := ⟨⟨gw (mt_8 (List.mem_of_getElem? (i := 91) rfl)) rfl, in_X10, wc_X10_isHeld, by decide, by decide, by decide +kernel⟩, wi_X10_isHeld, wl_X10_isHeld⟩
theorem mv_X10_476 : g_wV RX10 476 yX10_isState jX10_isState 1 := ⟨⟨gw (mt_8 (List.mem_of_getElem? (i := 54) rfl)) rfl, in_X10, wc_X10_isState, by decide, by decide, by decide +kernel⟩, wi_X10_isState, wl_X10_isState⟩
theorem mv_X10_479 : g_wV RX10 479 yX10_blow jX10_blow 1 := ⟨⟨gw (mt_8 (List.mem_of_getElem? (i := 83) rfl)) rfl, in_X10, wc_X10_blow, by decide, by decide, by decide +kernel⟩, wi_X10_blow, wl_X10_blow⟩
theorem mv_X10_482 : g_wV RX10 482 yX10_actsOf jX10_actsOf 0 := ⟨⟨gw (mt_8 (List.mem_of_getElem? (i := 71) rfl)) rfl, in_X10, wc_X10_actsOf, by decide, by decide, by decide +kernel⟩, wi_X10_actsOf, wl_X10_actsOf⟩
theorem mv_X10_486 : g_wV RX10 486 yX10_mayDo jX10_mayDo 2 := ⟨⟨gw (mt_8 (List.mem_of_getElem? (i := 107) rfl)) rfl, in_X10, wc_X10_mayDo, by decide, by decide, by decide +kernel⟩, wi_X10_mayDo, wl_X10_mayDo⟩
theorem mv_X10_489 : g_wV RX10 489 yX10_beaten jX10_beaten 3 := ⟨⟨gw (mt_8 (List.mem_of_getElem? (i := 119) rfl)) rfl, in_X10, wc_X10_beaten, by decide, by decide, by decide +kernel⟩, wi_X10_beaten, wl_X10_beaten⟩
theorem mv_X10_501 : g_wV RX10 501 yX10_layAll jX10_layAll 0 := ⟨⟨gw (mt_8 (List.mem_of_getElem? (i := 79) rfl)) rfl, in_X10, wc_X10_layAll, by decide, by decide, by decide +kernel⟩, wi_X10_layAll, wl_X10_layAll⟩
theorem mv_X10_504 : g_wV RX10 504 yX10_fates jX10_fates 0 := ⟨⟨gw (mt_8 (List.mem_of_getElem? (i := 123) rfl)) rfl, in_X10, wc_X10_fates, by decide, by decide, by decide +kernel⟩, wi_X10_fates, wl_X10_fates⟩
theorem mv_X10_507 : g_wV RX10 507 yX10_leads jX10_leads 3 := ⟨⟨gw (mt_8 (List.mem_of_getElem? (i := 131) rfl)) rfl, in_X10, wc_X10_leads, by decide, by decide, by decide +kernel⟩, wi_X10_leads, wl_X10_leads⟩
theorem mv_X10_510 : g_wV RX10 510 yX10_isKept jX10_isKept 3 := ⟨⟨gw (mt_8 (List.mem_of_getElem? (i := 127) rfl)) rfl, in_X10, wc_X10_isKept, by decide, by decide, by decide +kernel⟩, wi_X10_isKept, wl_X10_isKept⟩
theorem mv_X10_513 : g_wV RX10 513 yX10_isAct jX10_isAct 1 := ⟨⟨gw (mt_8 (List.mem_of_getElem? (i := 67) rfl)) rfl, in_X10, wc_X10_isAct, by decide, by decide, by decide +kernel⟩, wi_X10_isAct, wl_X10_isAct⟩
theorem mv_X10_516 : g_wV RX10 516 yX10_lay jX10_lay 0 := ⟨⟨gw (mt_8 (List.mem_of_getElem? (i := 75) rfl)) rfl, in_X10, wc_X10_lay, by decide, by decide, by decide +kernel⟩, wi_X10_lay, wl_X10_lay⟩
theorem mv_X10_519 : g_wV RX10 519 yX10_isSafe jX10_isSafe 1 := ⟨⟨gw (mt_8 (List.mem_of_getElem? (i := 155) rfl)) rfl, in_X10, wc_X10_isSafe, by decide, by decide, by decide +kernel⟩, wi_X10_isSafe, wl_X10_isSafe⟩
theorem mv_X10_522 : g_wV RX10 522 yX10_isSafeBy jX10_isSafeBy 2 := ⟨⟨gw (mt_8 (List.mem_of_getElem? (i := 159) rfl)) rfl, in_X10, wc_X10_isSafeBy, by decide, by decide, by decide +kernel⟩, wi_X10_isSafeBy, wl_X10_isSafeBy⟩
theorem mv_X10_525 : g_wV RX10 525 yX10_keepOf jX10_keepOf 1 := ⟨⟨gw (mt_8 (List.mem_of_getElem? (i := 151) rfl)) rfl, in_X10, wc_X10_keepOf, by decide, by decide, by decide +kernel⟩, wi_X10_keepOf, wl_X10_keepOf⟩
theorem mv_X10_528 : g_wV RX10 528 yX10_isNearer jX10_isNearer 3 := ⟨⟨gw (mt_8 (List.mem_of_getElem? (i := 171) rfl)) rfl, in_X10, wc_X10_isNearer, by decide, by decide, by decide +kernel⟩, wi_X10_isNearer, wl_X10_isNearer⟩
theorem mv_X10_531 : g_wV RX10 531 yX10_reaches jX10_reaches 0 := ⟨⟨gw (mt_8 (List.mem_of_getElem? (i := 167) rfl)) rfl, in_X10, wc_X10_reaches, by decide, by decide, by decide +kernel⟩, wi_X10_reaches, wl_X10_reaches⟩
theorem mv_X10_534 : g_wV RX10 534 yX10_isSaved jX10_isSaved 3 := ⟨⟨gw (mt_8 (List.mem_of_getElem? (i := 199) rfl)) rfl, in_X10, wc_X10_isSaved, by decide, by decide, by decide +kernel⟩, wi_X10_isSaved, wl_X10_isSaved⟩
theorem mv_X10_537 : g_wV RX10 537 yX10_saves jX10_saves 1 := ⟨⟨gw (mt_8 (List.mem_of_getElem? (i := 195) rfl)) rfl, in_X10, wc_X10_saves, by decide, by decide, by decide +kernel⟩, wi_X10_saves, wl_X10_saves⟩
theorem mv_X10_540 : g_wV RX10 540 yX10_knownOf jX10_knownOf 1 := ⟨⟨gw (mt_8 (List.mem_of_getElem? (i := 219) rfl)) rfl, in_X10, wc_X10_knownOf, by decide, by decide, by decide +kernel⟩, wi_X10_knownOf, wl_X10_knownOf⟩
theorem mv_X10_543 : g_wV RX10 543 yX10_goesBlindly jX10_goesBlindly 1 := ⟨⟨gw (mt_8 (List.mem_of_getElem? (i := 239) rfl)) rfl, in_X10, wc_X10_goesBlindly, by decide, by decide, by decide +kernel⟩, wi_X10_goesBlindly, wl_X10_goesBlindly⟩
theorem mv_X10_546 : g_wV RX10 546 yX10_rowsOf jX10_rowsOf 1 := ⟨⟨gw (mt_8 (List.mem_of_getElem? (i := 231) rfl)) rfl, in_X10, wc_X10_rowsOf, by decide, by decide, by decide +kernel⟩, wi_X10_rowsOf, wl_X10_rowsOf⟩
theorem mv_X10_549 : g_wV RX10 549 yX10_isBlindly jX10_isBlindly 3 := ⟨⟨gw (mt_8 (List.mem_of_getElem? (i := 235) rfl)) rfl, in_X10, wc_X10_isBlindly, by decide, by decide, by decide +kernel⟩, wi_X10_isBlindly, wl_X10_isBlindly⟩
theorem mv_X10_552 : g_wV RX10 552 yX10_learnedAt jX10_learnedAt 1 := ⟨⟨gw (mt_9 (List.mem_of_getElem? (i := 19) rfl)) rfl, in_X10, wc_X10_learnedAt, by decide, by decide, by decide +kernel⟩, wi_X10_learnedAt, wl_X10_learnedAt⟩
theorem mv_X10_555 : g_wV RX10 555 yX10_reflexAt jX10_reflexAt 1 := ⟨⟨gw (mt_9 (List.mem_of_getElem? (i := 15) rfl)) rfl, in_X10, wc_X10_reflexAt, by decide, by decide, by decide +kernel⟩, wi_X10_reflexAt, wl_X10_reflexAt⟩
theorem mv_X10_558 : g_wV RX10 558 yX10_mayFall jX10_mayFall 2 := ⟨⟨gw (mt_9 (List.mem_of_getElem? (i := 23) rfl)) rfl, in_X10, wc_X10_mayFall, by decide, by decide, by decide +kernel⟩, wi_X10_mayFall, wl_X10_mayFall⟩
theorem mv_X10_561 : g_wV RX10 561 yX10_comes jX10_comes 2 := ⟨⟨gw (mt_9 (List.mem_of_getElem? (i := 31) rfl)) rfl, in_X10, wc_X10_comes, by decide, by decide, by decide +kernel⟩, wi_X10_comes, wl_X10_comes⟩
theorem mv_X10_564 : g_wV RX10 564 yX10_driven jX10_driven 2 := ⟨⟨gw (mt_9 (List.mem_of_getElem? (i := 27) rfl)) rfl, in_X10, wc_X10_driven, by decide, by decide, by decide +kernel⟩, wi_X10_driven, wl_X10_driven⟩
theorem mv_X10_567 : g_wV RX10 567 yX10_reflexAll jX10_reflexAll 0 := ⟨⟨gw (mt_9 (List.mem_of_getElem? (i := 11) rfl)) rfl, in_X10, wc_X10_reflexAll, by decide, by decide, by decide +kernel⟩, wi_X10_reflexAll, wl_X10_reflexAll⟩
theorem mv_X10_570 : g_wV RX10 570 yX10_fatal jX10_fatal 1 := ⟨⟨gw (mt_9 (List.mem_of_getElem? (i := 43) rfl)) rfl, in_X10, wc_X10_fatal, by decide, by decide, by decide +kernel⟩, wi_X10_fatal, wl_X10_fatal⟩
theorem mv_X10_575 : g_wV RX10 575 yX10_countRows jX10_countRows 1 := ⟨⟨gw (mt_9 (List.mem_of_getElem? (i := 56) rfl)) rfl, in_X10, wc_X10_countRows, by decide, by decide, by decide +kernel⟩, wi_X10_countRows, wl_X10_countRows⟩
theorem mv_X10_578 : g_wV RX10 578 yX10_raise jX10_raise 1 := ⟨⟨gw (mt_9 (List.mem_of_getElem? (i := 80) rfl)) rfl, in_X10, wc_X10_raise, by decide, by decide, by decide +kernel⟩, wi_X10_raise, wl_X10_raise⟩
theorem mv_X10_588 : g_wV RX10 588 yX10_drilled jX10_drilled 3 := ⟨⟨gw (mt_9 (List.mem_of_getElem? (i := 100) rfl)) rfl, in_X10, wc_X10_drilled, by decide, by decide, by decide +kernel⟩, wi_X10_drilled, wl_X10_drilled⟩
theorem mv_X10_591 : g_wV RX10 591 yX10_statesOf jX10_statesOf 1 := ⟨⟨gw (mt_9 (List.mem_of_getElem? (i := 123) rfl)) rfl, in_X10, wc_X10_statesOf, by decide, by decide, by decide +kernel⟩, wi_X10_statesOf, wl_X10_statesOf⟩
theorem mv_J0_335 : g_wV RJ0 335 yJ0_coder_7d493 jJ0_coder_7d493 0 := ⟨⟨gw (mt_3 (List.mem_of_getElem? (i := 40) rfl)) rfl, in_J0, wc_J0_coder_7d493, by decide, by decide, by decide +kernel⟩, wi_J0_coder_7d493, wl_J0_coder_7d493⟩
theorem mv_J0_492 : g_wV RJ0 492 yJ0_isLatin1_aae02 jJ0_isLatin1_aae02 0 := ⟨⟨gw (mt_3 (List.mem_of_getElem? (i := 50) rfl)) rfl, in_J0, wc_J0_isLatin1_aae02, by decide, by decide, by decide +kernel⟩, wi_J0_isLatin1_aae02, wl_J0_isLatin1_aae02⟩
theorem ms_X9_140 : g_wS RX9 140 yX9_isForecast jX9_isForecast 1 := ⟨⟨gw (mt_4 (List.mem_of_getElem? (i := 85) rfl)) rfl, in_X9, wc_X9_isForecast, by decide, by decide, by decide +kernel⟩, wt_X9_isForecast⟩
theorem ms_X0_58 : g_wS RX0 58 yX4_atOf jX4_atOf 1 := ⟨⟨gw (mt_4 (List.mem_of_getElem? (i := 52) rfl)) rfl, in_X4, wc_X4_atOf, by decide, by decide, by decide +kernel⟩, wt_X4_atOf⟩
theorem ms_X0_93 : g_wS RX0 93 yX0_firstOf jX0_firstOf 1 := ⟨⟨gw (mt_5 (List.mem_of_getElem? (i := 48) rfl)) rfl, in_X0, wc_X0_firstOf, by decide, by decide, by decide +kernel⟩, wt_X0_firstOf⟩
theorem ms_X0_112 : g_wS RX0 112 yX4_swingOf jX4_swingOf 1 := ⟨⟨gw (mt_4 (List.mem_of_getElem? (i := 97) rfl)) rfl, in_X4, wc_X4_swingOf, by decide, by decide, by decide +kernel⟩, wt_X4_swingOf⟩
theorem ms_X0_115 : g_wS RX0 115 yX4_leanOf jX4_leanOf 1 := ⟨⟨gw (mt_4 (List.mem_of_getElem? (i := 98) rfl)) rfl, in_X4, wc_X4_leanOf, by decide, by decide, by decide +kernel⟩, wt_X4_leanOf⟩
theorem ms_X1_181 : g_wS RX1 181 yX1_binding jX1_binding 1 := ⟨⟨gw (mt_3 (List.mem_of_getElem? (i := 161) rfl)) rfl, in_X1, wc_X1_binding, by decide, by decide, by decide +kernel⟩, wt_X1_binding⟩
theorem ms_X3_64 : g_wS RX3 64 yJ7_fill_53178 jJ7_fill_53178 2 := ⟨⟨gw (mt_5 (List.mem_of_getElem? (i := 57) rfl)) rfl, in_J7, wc_J7_fill_53178, by decide, by decide, by decide +kernel⟩, wt_J7_fill_53178⟩
theorem ms_X3_112 : g_wS RX3 112 yJ7_fill_d0a16 jJ7_fill_d0a16 2 := ⟨⟨gw (mt_5 (List.mem_of_getElem? (i := 105) rfl)) rfl, in_J7, wc_J7_fill_d0a16, by decide, by decide, by decide +kernel⟩, wt_J7_fill_d0a16⟩
theorem ms_X3_131 : g_wS RX3 131 yX3_lot jX3_lot 3 := ⟨⟨gw (mt_5 (List.mem_of_getElem? (i := 170) rfl)) rfl, in_X3, wc_X3_lot, by decide, by decide, by decide +kernel⟩, wt_X3_lot⟩
theorem ms_X3_134 : g_wS RX3 134 yX3_stir jX3_stir 2 := ⟨⟨gw (mt_5 (List.mem_of_getElem? (i := 173) rfl)) rfl, in_X3, wc_X3_stir, by decide, by decide, by decide +kernel⟩, wt_X3_stir⟩
theorem ms_X4_69 : g_wS RX4 69 yX4_atOf jX4_atOf 1 := ⟨⟨gw (mt_4 (List.mem_of_getElem? (i := 26) rfl)) rfl, in_X4, wc_X4_atOf, by decide, by decide, by decide +kernel⟩, wt_X4_atOf⟩
theorem ms_X4_73 : g_wS RX4 73 yX4_leanOf jX4_leanOf 1 := ⟨⟨gw (mt_4 (List.mem_of_getElem? (i := 29) rfl)) rfl, in_X4, wc_X4_leanOf, by decide, by decide, by decide +kernel⟩, wt_X4_leanOf⟩
theorem ms_X4_76 : g_wS RX4 76 yX4_swingOf jX4_swingOf 1 := ⟨⟨gw (mt_4 (List.mem_of_getElem? (i := 32) rfl)) rfl, in_X4, wc_X4_swingOf, by decide, by decide, by decide +kernel⟩, wt_X4_swingOf⟩
theorem ms_X5_98 : g_wS RX5 98 yX0_firstOf jX0_firstOf 1 := ⟨⟨gw (mt_4 (List.mem_of_getElem? (i := 123) rfl)) rfl, in_X0, wc_X0_firstOf, by decide, by decide, by decide +kernel⟩, wt_X0_firstOf⟩
theorem ms_X6_62 : g_wS RX6 62 yJ7_fill_53178 jJ7_fill_53178 2 := ⟨⟨gw (mt_4 (List.mem_of_getElem? (i := 232) rfl)) rfl, in_J7, wc_J7_fill_53178, by decide, by decide, by decide +kernel⟩, wt_J7_fill_53178⟩
theorem ms_X7_42 : g_wS RX7 42 yX7_isBlank jX7_isBlank 1 := ⟨⟨gw (mt_3 (List.mem_of_getElem? (i := 15) rfl)) rfl, in_X7, wc_X7_isBlank, by decide, by decide, by decide +kernel⟩, wt_X7_isBlank⟩
theorem ms_X7_46 : g_wS RX7 46 yX7_isLetter jX7_isLetter 1 := ⟨⟨gw (mt_3 (List.mem_of_getElem? (i := 22) rfl)) rfl, in_X7, wc_X7_isLetter, by decide, by decide, by decide +kernel⟩, wt_X7_isLetter⟩
theorem ms_X7_52 : g_wS RX7 52 yX7_isDigit jX7_isDigit 1 := ⟨⟨gw (mt_3 (List.mem_of_getElem? (i := 84) rfl)) rfl, in_X7, wc_X7_isDigit, by decide, by decide, by decide +kernel⟩, wt_X7_isDigit⟩
theorem ms_X10_269 : g_wS RX10 269 yX10_wordOf jX10_wordOf 1 := ⟨⟨gw (mt_7 (List.mem_of_getElem? (i := 141) rfl)) rfl, in_X10, wc_X10_wordOf, by decide, by decide, by decide +kernel⟩, wt_X10_wordOf⟩
theorem ms_X10_324 : g_wS RX10 324 yX10_rank jX10_rank 1 := ⟨⟨gw (mt_7 (List.mem_of_getElem? (i := 232) rfl)) rfl, in_X10, wc_X10_rank, by decide, by decide, by decide +kernel⟩, wt_X10_rank⟩
theorem ms_X10_336 : g_wS RX10 336 yX10_variableOf jX10_variableOf 1 := ⟨⟨gw (mt_7 (List.mem_of_getElem? (i := 221) rfl)) rfl, in_X10, wc_X10_variableOf, by decide, by decide, by decide +kernel⟩, wt_X10_variableOf⟩
theorem ms_X10_447 : g_wS RX10 447 yX10_atOf jX10_atOf 1 := ⟨⟨gw (mt_8 (List.mem_of_getElem? (i := 58) rfl)) rfl, in_X10, wc_X10_atOf, by decide, by decide, by decide +kernel⟩, wt_X10_atOf⟩
theorem ms_X10_450 : g_wS RX10 450 yX10_leanOf jX10_leanOf 1 := ⟨⟨gw (mt_8 (List.mem_of_getElem? (i := 61) rfl)) rfl, in_X10, wc_X10_leanOf, by decide, by decide, by decide +kernel⟩, wt_X10_leanOf⟩
theorem ms_X10_453 : g_wS RX10 453 yX10_swingOf jX10_swingOf 1 := ⟨⟨gw (mt_8 (List.mem_of_getElem? (i := 64) rfl)) rfl, in_X10, wc_X10_swingOf, by decide, by decide, by decide +kernel⟩, wt_X10_swingOf⟩
theorem ms_X10_472 : g_wS RX10 472 yX10_numberOf jX10_numberOf 3 := ⟨⟨gw (mt_8 (List.mem_of_getElem? (i := 47) rfl)) rfl, in_X10, wc_X10_numberOf, by decide, by decide, by decide +kernel⟩, wt_X10_numberOf⟩
theorem ms_X10_582 : g_wS RX10 582 yX10_mixed jX10_mixed 2 := ⟨⟨gw (mt_9 (List.mem_of_getElem? (i := 107) rfl)) rfl, in_X10, wc_X10_mixed, by decide, by decide, by decide +kernel⟩, wt_X10_mixed⟩
theorem ms_X10_585 : g_wS RX10 585 yX10_lot jX10_lot 3 := ⟨⟨gw (mt_9 (List.mem_of_getElem? (i := 104) rfl)) rfl, in_X10, wc_X10_lot, by decide, by decide, by decide +kernel⟩, wt_X10_lot⟩
theorem ms_J0_495 : g_wS RJ0 495 yJ1_charAt_3b067 jJ1_charAt_3b067 2 := ⟨⟨gw (mt_3 (List.mem_of_getElem? (i := 54) rfl)) rfl, in_J1, wc_J1_charAt_3b067, by decide, by decide, by decide +kernel⟩, wt_J1_charAt_3b067⟩
theorem ms_J0_1059 : g_wS RJ0 1059 yJ3_checkIndex_8e157 jJ3_checkIndex_8e157 3 := ⟨⟨gw (mt_3 (List.mem_of_getElem? (i := 62) rfl)) rfl, in_J3, wc_J3_checkIndex_8e157, by decide, by decide, by decide +kernel⟩, wt_J3_checkIndex_8e157⟩
theorem ms_J1_9 : g_wS RJ1 9 yJ0_checkIndex_df160 jJ0_checkIndex_df160 2 := ⟨⟨gw (mt_3 (List.mem_of_getElem? (i := 57) rfl)) rfl, in_J0, wc_J0_checkIndex_df160, by decide, by decide, by decide +kernel⟩, wt_J0_checkIndex_df160⟩
