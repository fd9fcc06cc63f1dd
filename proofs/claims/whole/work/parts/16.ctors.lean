abbrev d_X0 : List Value := [.null, .int 0, .int 0, .null, .null, .null, .null, .null, .null, .null]
theorem df_X0 : ∀ j, j < 10 → defaultValue (tyX0 j) = vp_V d_X0 j := fun j hj => match j, hj with
  | 0, _ => rfl
  | 1, _ => rfl
  | 2, _ => rfl
  | 3, _ => rfl
  | 4, _ => rfl
  | 5, _ => rfl
  | 6, _ => rfl
  | 7, _ => rfl
  | 8, _ => rfl
  | 9, _ => rfl
  | n + 10, h => absurd h (by omega)
abbrev d_X1 : List Value := [.int 0, .int 0, .int 0, .int 0, .int 0, .int 0, .null, .int 0, .null, .null]
theorem df_X1 : ∀ j, j < 10 → defaultValue (tyX1 j) = vp_V d_X1 j := fun j hj => match j, hj with
  | 0, _ => rfl
  | 1, _ => rfl
  | 2, _ => rfl
  | 3, _ => rfl
  | 4, _ => rfl
  | 5, _ => rfl
  | 6, _ => rfl
  | 7, _ => rfl
  | 8, _ => rfl
  | 9, _ => rfl
  | n + 10, h => absurd h (by omega)
abbrev d_X2 : List Value := [.null, .null, .int 0]
theorem df_X2 : ∀ j, j < 3 → defaultValue (tyX2 j) = vp_V d_X2 j := fun j hj => match j, hj with
  | 0, _ => rfl
  | 1, _ => rfl
  | 2, _ => rfl
  | n + 3, h => absurd h (by omega)
abbrev d_X3 : List Value := [.null, .null, .int 0, .null, .int 0, .int 0, .int 0, .int 0, .null, .null, .null, .null, .null, .null, .null]
theorem df_X3 : ∀ j, j < 15 → defaultValue (tyX3 j) = vp_V d_X3 j := fun j hj => match j, hj with
  | 0, _ => rfl
  | 1, _ => rfl
  | 2, _ => rfl
  | 3, _ => rfl
  | 4, _ => rfl
  | 5, _ => rfl
  | 6, _ => rfl
  | 7, _ => rfl
  | 8, _ => rfl
  | 9, _ => rfl
  | 10, _ => rfl
  | 11, _ => rfl
  | 12, _ => rfl
  | 13, _ => rfl
  | 14, _ => rfl
  | n + 15, h => absurd h (by omega)
abbrev d_X4 : List Value := [.int 0, .int 0, .int 0, .int 0, .int 0, .int 0, .int 0, .int 0, .int 0, .null, .null, .null, .null, .null, .null, .null, .null]
theorem df_X4 : ∀ j, j < 17 → defaultValue (tyX4 j) = vp_V d_X4 j := fun j hj => match j, hj with
  | 0, _ => rfl
  | 1, _ => rfl
  | 2, _ => rfl
  | 3, _ => rfl
  | 4, _ => rfl
  | 5, _ => rfl
  | 6, _ => rfl
  | 7, _ => rfl
  | 8, _ => rfl
  | 9, _ => rfl
  | 10, _ => rfl
  | 11, _ => rfl
  | 12, _ => rfl
  | 13, _ => rfl
  | 14, _ => rfl
  | 15, _ => rfl
  | 16, _ => rfl
  | n + 17, h => absurd h (by omega)
abbrev d_X5 : List Value := [.null, .null, .null, .null, .null, .null, .null, .null, .null, .null, .int 0, .int 0, .int 0, .int 0]
theorem df_X5 : ∀ j, j < 14 → defaultValue (tyX5 j) = vp_V d_X5 j := fun j hj => match j, hj with
  | 0, _ => rfl
  | 1, _ => rfl
  | 2, _ => rfl
  | 3, _ => rfl
  | 4, _ => rfl
  | 5, _ => rfl
  | 6, _ => rfl
  | 7, _ => rfl
  | 8, _ => rfl
  | 9, _ => rfl
  | 10, _ => rfl
  | 11, _ => rfl
  | 12, _ => rfl
  | 13, _ => rfl
  | n + 14, h => absurd h (by omega)
abbrev d_X6 : List Value := [.null, .int 0, .null, .int 0, .int 0, .null, .null, .null, .null, .null, .null, .null, .int 0]
theorem df_X6 : ∀ j, j < 13 → defaultValue (tyX6 j) = vp_V d_X6 j := fun j hj => match j, hj with
  | 0, _ => rfl
  | 1, _ => rfl
  | 2, _ => rfl
  | 3, _ => rfl
  | 4, _ => rfl
  | 5, _ => rfl
  | 6, _ => rfl
  | 7, _ => rfl
  | 8, _ => rfl
  | 9, _ => rfl
  | 10, _ => rfl
  | 11, _ => rfl
  | 12, _ => rfl
  | n + 13, h => absurd h (by omega)
abbrev d_X7 : List Value := [.null, .null, .null, .null, .int 0, .int 0]
theorem df_X7 : ∀ j, j < 6 → defaultValue (tyX7 j) = vp_V d_X7 j := fun j hj => match j, hj with
  | 0, _ => rfl
  | 1, _ => rfl
  | 2, _ => rfl
  | 3, _ => rfl
  | 4, _ => rfl
  | 5, _ => rfl
  | n + 6, h => absurd h (by omega)
abbrev d_X8 : List Value := [.int 0, .null, .null, .null]
theorem df_X8 : ∀ j, j < 4 → defaultValue (tyX8 j) = vp_V d_X8 j := fun j hj => match j, hj with
  | 0, _ => rfl
  | 1, _ => rfl
  | 2, _ => rfl
  | 3, _ => rfl
  | n + 4, h => absurd h (by omega)
abbrev d_X9 : List Value := [.null, .int 0, .int 0, .int 0, .null, .null, .null, .null, .null, .null, .null, .null, .null]
theorem df_X9 : ∀ j, j < 13 → defaultValue (tyX9 j) = vp_V d_X9 j := fun j hj => match j, hj with
  | 0, _ => rfl
  | 1, _ => rfl
  | 2, _ => rfl
  | 3, _ => rfl
  | 4, _ => rfl
  | 5, _ => rfl
  | 6, _ => rfl
  | 7, _ => rfl
  | 8, _ => rfl
  | 9, _ => rfl
  | 10, _ => rfl
  | 11, _ => rfl
  | 12, _ => rfl
  | n + 13, h => absurd h (by omega)
abbrev d_X10 : List Value := [.int 0, .int 0, .null, .int 0, .null, .null, .null, .null, .int 0, .int 0, .int 0, .int 0, .int 0, .int 0, .int 0, .null, .null, .null, .null, .null, .null, .null, .null, .null, .null, .null, .null, .null, .null, .null, .null, .null, .null, .null, .null, .null, .null, .null, .null, .null, .null, .null, .null, .null, .null, .null, .null, .int 0, .int 0, .null, .int 0, .null, .null, .int 0, .int 0, .null, .null, .null, .null, .int 0, .int 0, .null, .int 0, .int 0, .int 0, .int 0, .int 0, .int 0, .int 0, .int 0, .int 0, .null, .int 0, .int 0, .int 0, .int 0, .int 0, .null, .null, .null, .null, .null, .null, .null, .null, .null, .null, .null, .null, .null, .null, .null, .null]
theorem df_X10 : ∀ j, j < 93 → defaultValue (tyX10 j) = vp_V d_X10 j := fun j hj => match j, hj with
  | 0, _ => rfl
  | 1, _ => rfl
  | 2, _ => rfl
  | 3, _ => rfl
  | 4, _ => rfl
  | 5, _ => rfl
  | 6, _ => rfl
  | 7, _ => rfl
  | 8, _ => rfl
  | 9, _ => rfl
  | 10, _ => rfl
  | 11, _ => rfl
  | 12, _ => rfl
  | 13, _ => rfl
  | 14, _ => rfl
  | 15, _ => rfl
  | 16, _ => rfl
  | 17, _ => rfl
  | 18, _ => rfl
  | 19, _ => rfl
  | 20, _ => rfl
  | 21, _ => rfl
  | 22, _ => rfl
  | 23, _ => rfl
  | 24, _ => rfl
  | 25, _ => rfl
  | 26, _ => rfl
  | 27, _ => rfl
  | 28, _ => rfl
  | 29, _ => rfl
  | 30, _ => rfl
  | 31, _ => rfl
  | 32, _ => rfl
  | 33, _ => rfl
  | 34, _ => rfl
  | 35, _ => rfl
  | 36, _ => rfl
  | 37, _ => rfl
  | 38, _ => rfl
  | 39, _ => rfl
  | 40, _ => rfl
  | 41, _ => rfl
  | 42, _ => rfl
  | 43, _ => rfl
  | 44, _ => rfl
  | 45, _ => rfl
  | 46, _ => rfl
  | 47, _ => rfl
  | 48, _ => rfl
  | 49, _ => rfl
  | 50, _ => rfl
  | 51, _ => rfl
  | 52, _ => rfl
  | 53, _ => rfl
  | 54, _ => rfl
  | 55, _ => rfl
  | 56, _ => rfl
  | 57, _ => rfl
  | 58, _ => rfl
  | 59, _ => rfl
  | 60, _ => rfl
  | 61, _ => rfl
  | 62, _ => rfl
  | 63, _ => rfl
  | 64, _ => rfl
  | 65, _ => rfl
  | 66, _ => rfl
  | 67, _ => rfl
  | 68, _ => rfl
  | 69, _ => rfl
  | 70, _ => rfl
  | 71, _ => rfl
  | 72, _ => rfl
  | 73, _ => rfl
  | 74, _ => rfl
  | 75, _ => rfl
  | 76, _ => rfl
  | 77, _ => rfl
  | 78, _ => rfl
  | 79, _ => rfl
  | 80, _ => rfl
  | 81, _ => rfl
  | 82, _ => rfl
  | 83, _ => rfl
  | 84, _ => rfl
  | 85, _ => rfl
  | 86, _ => rfl
  | 87, _ => rfl
  | 88, _ => rfl
  | 89, _ => rfl
  | 90, _ => rfl
  | 91, _ => rfl
  | 92, _ => rfl
  | n + 93, h => absurd h (by omega)
theorem ac_int : Cond.arrayClass .int ∈ gws := gw (mt_1 (List.mem_of_getElem? (i := 118) rfl)) rfl
theorem ac_long : Cond.arrayClass .long ∈ gws := gw (mt_1 (List.mem_of_getElem? (i := 119) rfl)) rfl
theorem ac_boolean : Cond.arrayClass .boolean ∈ gws := gw (mt_7 (List.mem_of_getElem? (i := 102) rfl)) rfl
theorem oi_m : Cond.instanceMethod Lib.objectInit ∈ gws := gw (mt_1 (List.mem_of_getElem? (i := 28) rfl)) rfl
theorem oi_c : Cond.code Lib.objectInit ⟨#[0xb1]⟩ 1 none ∈ gws := gw (mt_1 (List.mem_of_getElem? (i := 29) rfl)) rfl
abbrev jX2_init : gJ := (cX2_init, 1, RX2, none, ({ frames := 4, cells := 2, slots := 72, locals := 160 } : Room))
abbrev jX7_init : gJ := (cX7_init, 1, RX7, none, ({ frames := 5, cells := 4, slots := 1203, locals := 200 } : Room))
abbrev jX4_init : gJ := (cX4_init, 1, RX4, none, ({ frames := 6, cells := 8, slots := 888, locals := 240 } : Room))
abbrev jX8_init : gJ := (cX8_init, 1, RX8, none, ({ frames := 7, cells := 3, slots := 601, locals := 280 } : Room))
abbrev jX1_init : gJ := (cX1_init, 2, RX1, none, ({ frames := 8, cells := 6, slots := 1610, locals := 320 } : Room))
abbrev jX0_init : gJ := (cX0_init, 2, RX0, none, ({ frames := 9, cells := 9, slots := 97788, locals := 360 } : Room))
abbrev jX5_init : gJ := (cX5_init, 2, RX5, none, ({ frames := 10, cells := 9, slots := 18711, locals := 400 } : Room))
abbrev jX3_init : gJ := (cX3_init, 2, RX3, none, ({ frames := 11, cells := 9, slots := 16672, locals := 440 } : Room))
abbrev jX6_init : gJ := (cX6_init, 2, RX6, none, ({ frames := 12, cells := 8, slots := 16689, locals := 480 } : Room))
abbrev jX9_init : gJ := (cX9_init, 4, RX9, none, ({ frames := 13, cells := 70, slots := 158026, locals := 520 } : Room))
abbrev jX10_init : gJ := (cX10_init, 1, RX10, none, ({ frames := 14, cells := 62, slots := 488294, locals := 560 } : Room))
theorem ckl_X0_9 : Cond.classLink RX0 9 RX2 ∈ gws := gw (mt_1 (List.mem_of_getElem? (i := 126) rfl)) rfl
theorem ckl_X1_15 : Cond.classLink RX1 15 RX7 ∈ gws := gw (mt_1 (List.mem_of_getElem? (i := 186) rfl)) rfl
theorem ckl_X9_16 : Cond.classLink RX9 16 RX4 ∈ gws := gw (mt_1 (List.mem_of_getElem? (i := 30) rfl)) rfl
theorem ckl_X9_19 : Cond.classLink RX9 19 RX0 ∈ gws := gw (mt_1 (List.mem_of_getElem? (i := 120) rfl)) rfl
theorem ckl_X9_38 : Cond.classLink RX9 38 RX1 ∈ gws := gw (mt_1 (List.mem_of_getElem? (i := 180) rfl)) rfl
theorem ckl_X9_49 : Cond.classLink RX9 49 RX5 ∈ gws := gw (mt_2 (List.mem_of_getElem? (i := 6) rfl)) rfl
theorem ckl_X9_58 : Cond.classLink RX9 58 RX3 ∈ gws := gw (mt_2 (List.mem_of_getElem? (i := 60) rfl)) rfl
theorem ckl_X9_65 : Cond.classLink RX9 65 RX6 ∈ gws := gw (mt_2 (List.mem_of_getElem? (i := 114) rfl)) rfl
theorem ckl_X9_72 : Cond.classLink RX9 72 RX8 ∈ gws := gw (mt_2 (List.mem_of_getElem? (i := 163) rfl)) rfl
theorem ins_X0 : Cond.instantiable RX0 10 ∈ gws := gw (mt_1 (List.mem_of_getElem? (i := 121) rfl)) rfl
theorem ins_X1 : Cond.instantiable RX1 10 ∈ gws := gw (mt_1 (List.mem_of_getElem? (i := 181) rfl)) rfl
theorem ins_X2 : Cond.instantiable RX2 3 ∈ gws := gw (mt_1 (List.mem_of_getElem? (i := 127) rfl)) rfl
theorem ins_X3 : Cond.instantiable RX3 15 ∈ gws := gw (mt_2 (List.mem_of_getElem? (i := 61) rfl)) rfl
theorem ins_X4 : Cond.instantiable RX4 17 ∈ gws := gw (mt_1 (List.mem_of_getElem? (i := 31) rfl)) rfl
theorem ins_X5 : Cond.instantiable RX5 14 ∈ gws := gw (mt_2 (List.mem_of_getElem? (i := 7) rfl)) rfl
theorem ins_X6 : Cond.instantiable RX6 13 ∈ gws := gw (mt_2 (List.mem_of_getElem? (i := 115) rfl)) rfl
theorem ins_X7 : Cond.instantiable RX7 6 ∈ gws := gw (mt_1 (List.mem_of_getElem? (i := 187) rfl)) rfl
theorem ins_X8 : Cond.instantiable RX8 4 ∈ gws := gw (mt_2 (List.mem_of_getElem? (i := 164) rfl)) rfl
theorem mi_X9_18 : n_wI RX9 18 yX4_init jX4_init 0 := ⟨⟨gw (mt_1 (List.mem_of_getElem? (i := 32) rfl)) rfl, in_X4, gw (mt_1 (List.mem_of_getElem? (i := 34) rfl)) rfl, by decide, by decide, by decide +kernel⟩, rfl, gw (mt_1 (List.mem_of_getElem? (i := 33) rfl)) rfl⟩
theorem mi_X9_21 : n_wI RX9 21 yX0_init jX0_init 1 := ⟨⟨gw (mt_1 (List.mem_of_getElem? (i := 122) rfl)) rfl, in_X0, gw (mt_1 (List.mem_of_getElem? (i := 124) rfl)) rfl, by decide, by decide, by decide +kernel⟩, rfl, gw (mt_1 (List.mem_of_getElem? (i := 123) rfl)) rfl⟩
theorem mi_X9_40 : n_wI RX9 40 yX1_init jX1_init 1 := ⟨⟨gw (mt_1 (List.mem_of_getElem? (i := 182) rfl)) rfl, in_X1, gw (mt_1 (List.mem_of_getElem? (i := 184) rfl)) rfl, by decide, by decide, by decide +kernel⟩, rfl, gw (mt_1 (List.mem_of_getElem? (i := 183) rfl)) rfl⟩
theorem mi_X9_51 : n_wI RX9 51 yX5_init jX5_init 1 := ⟨⟨gw (mt_2 (List.mem_of_getElem? (i := 8) rfl)) rfl, in_X5, gw (mt_2 (List.mem_of_getElem? (i := 10) rfl)) rfl, by decide, by decide, by decide +kernel⟩, rfl, gw (mt_2 (List.mem_of_getElem? (i := 9) rfl)) rfl⟩
theorem mi_X9_60 : n_wI RX9 60 yX3_init jX3_init 1 := ⟨⟨gw (mt_2 (List.mem_of_getElem? (i := 62) rfl)) rfl, in_X3, gw (mt_2 (List.mem_of_getElem? (i := 64) rfl)) rfl, by decide, by decide, by decide +kernel⟩, rfl, gw (mt_2 (List.mem_of_getElem? (i := 63) rfl)) rfl⟩
theorem mi_X9_67 : n_wI RX9 67 yX6_init jX6_init 1 := ⟨⟨gw (mt_2 (List.mem_of_getElem? (i := 116) rfl)) rfl, in_X6, gw (mt_2 (List.mem_of_getElem? (i := 118) rfl)) rfl, by decide, by decide, by decide +kernel⟩, rfl, gw (mt_2 (List.mem_of_getElem? (i := 117) rfl)) rfl⟩
theorem mi_X9_74 : n_wI RX9 74 yX8_init jX8_init 0 := ⟨⟨gw (mt_2 (List.mem_of_getElem? (i := 165) rfl)) rfl, in_X8, gw (mt_2 (List.mem_of_getElem? (i := 167) rfl)) rfl, by decide, by decide, by decide +kernel⟩, rfl, gw (mt_2 (List.mem_of_getElem? (i := 166) rfl)) rfl⟩
theorem nwn_X2_init : (Cond.initialized yX2_init.cls ∈ gws ∧ Cond.code yX2_init jX2_init.1 jX2_init.2.1 jX2_init.2.2.2.1 ∈ gws ∧ (yX2_init.cls ≠ "java/lang/invoke/MethodHandle" ∧ yX2_init.cls ≠ "java/lang/invoke/VarHandle" ∧ (parseMethodDescriptor yX2_init.desc).map (fun d => d.parameters.length) = some 0)) ∧ yX2_init.name = "<init>" ∧ Cond.instanceMethod yX2_init ∈ gws := ⟨⟨in_X2, gw (mt_1 (List.mem_of_getElem? (i := 130) rfl)) rfl, by decide, by decide, by decide +kernel⟩, rfl, gw (mt_1 (List.mem_of_getElem? (i := 129) rfl)) rfl⟩
theorem nwn_X7_init : (Cond.initialized yX7_init.cls ∈ gws ∧ Cond.code yX7_init jX7_init.1 jX7_init.2.1 jX7_init.2.2.2.1 ∈ gws ∧ (yX7_init.cls ≠ "java/lang/invoke/MethodHandle" ∧ yX7_init.cls ≠ "java/lang/invoke/VarHandle" ∧ (parseMethodDescriptor yX7_init.desc).map (fun d => d.parameters.length) = some 0)) ∧ yX7_init.name = "<init>" ∧ Cond.instanceMethod yX7_init ∈ gws := ⟨⟨in_X7, gw (mt_1 (List.mem_of_getElem? (i := 190) rfl)) rfl, by decide, by decide, by decide +kernel⟩, rfl, gw (mt_1 (List.mem_of_getElem? (i := 189) rfl)) rfl⟩
theorem oi_X0_3 : Cond.methodLink RX0 3 Lib.objectInit ∈ gws := gw (mt_1 (List.mem_of_getElem? (i := 125) rfl)) rfl
theorem oi_X1_3 : Cond.methodLink RX1 3 Lib.objectInit ∈ gws := gw (mt_1 (List.mem_of_getElem? (i := 185) rfl)) rfl
theorem oi_X10_1 : Cond.methodLink RX10 1 Lib.objectInit ∈ gws := gw (mt_6 (List.mem_of_getElem? (i := 55) rfl)) rfl
theorem oi_X2_3 : Cond.methodLink RX2 3 Lib.objectInit ∈ gws := gw (mt_1 (List.mem_of_getElem? (i := 131) rfl)) rfl
theorem oi_X3_3 : Cond.methodLink RX3 3 Lib.objectInit ∈ gws := gw (mt_2 (List.mem_of_getElem? (i := 65) rfl)) rfl
theorem oi_X4_3 : Cond.methodLink RX4 3 Lib.objectInit ∈ gws := gw (mt_1 (List.mem_of_getElem? (i := 35) rfl)) rfl
theorem oi_X5_3 : Cond.methodLink RX5 3 Lib.objectInit ∈ gws := gw (mt_2 (List.mem_of_getElem? (i := 11) rfl)) rfl
theorem oi_X6_3 : Cond.methodLink RX6 3 Lib.objectInit ∈ gws := gw (mt_2 (List.mem_of_getElem? (i := 119) rfl)) rfl
theorem oi_X7_3 : Cond.methodLink RX7 3 Lib.objectInit ∈ gws := gw (mt_1 (List.mem_of_getElem? (i := 191) rfl)) rfl
theorem oi_X8_3 : Cond.methodLink RX8 3 Lib.objectInit ∈ gws := gw (mt_2 (List.mem_of_getElem? (i := 168) rfl)) rfl
theorem oi_X9_3 : Cond.methodLink RX9 3 Lib.objectInit ∈ gws := gw (mt_1 (List.mem_of_getElem? (i := 27) rfl)) rfl
def PX2_init (Z : gZ) (h0 : Nat) (w : va_W) : Prop := ∃ (q1 : Nat) (q2 : Nat), w = (h0, .inr (2, [.ref q1, .ref q2, .int 0])) :: ((([] : va_W) ++ [(q1, .inl (Z.2.2.1, 64, .inl (fun _ => 0)))]) ++ [(q2, .inl (Z.2.2.1, 8, .inl (fun _ => 0)))])
set_option maxRecDepth 100000 in
set_option maxHeartbeats 4000000 in
theorem nX2_init (Z : gZ) (h0 : Nat) : n_met yX2_init jX2_init 2 d_X2 [] Z h0 (PX2_init Z h0) := by
  refine n_enter [(0, .ref h0)] (by decide) rfl rfl rfl (Nat.le_of_ble_eq_true rfl) rfl (fun X hz => ?_)
  subst hz
  refine N_aload_n 0 dX2_init_0 rfl rfl ?_
  refine N_obj oi_X2_3 oi_m oi_c dX2_init_1 ⟨by decide, by decide⟩ (Nat.le_of_ble_eq_true rfl) ?_
  refine N_aload_n 0 dX2_init_4 rfl rfl ?_
  refine N_bipush (v := 64) dX2_init_5 (by decide) ?_
  refine N_newI (K := 64) ac_int dX2_init_7 (by decide) (by decide) (by decide) ⟨by decide, by decide⟩ (fun q1 => ?_)
  refine N_putF (fs' := [.ref q1, .null, .int 0]) (t := .array .int) 0 clX2 fl_X2_9 dX2_init_9 (by decide) rfl rfl rfl rfl rfl (Nat.le_of_ble_eq_true rfl) rfl ?_
  refine N_aload_n 0 dX2_init_12 rfl rfl ?_
  refine N_bipush (v := 8) dX2_init_13 (by decide) ?_
  refine N_newI (K := 8) ac_int dX2_init_15 (by decide) (by decide) (by decide) ⟨by decide, by decide⟩ (fun q2 => ?_)
  refine N_putF (fs' := [.ref q1, .ref q2, .int 0]) (t := .array .int) 1 clX2 fl_X2_15 dX2_init_17 (by decide) rfl rfl rfl rfl rfl (Nat.le_of_ble_eq_true rfl) rfl ?_
  exact N_ret dX2_init_20 ⟨q1, q2, rfl⟩
def PX7_init (Z : gZ) (h0 : Nat) (w : va_W) : Prop := ∃ (q1 : Nat) (q2 : Nat) (q3 : Nat) (q4 : Nat), w = (h0, .inr (7, [.ref q1, .ref q2, .ref q3, .ref q4, .int 0, .int 0])) :: ((((([] : va_W) ++ [(q1, .inl (Z.2.2.1, 401, .inl (fun _ => 0)))]) ++ [(q2, .inl (Z.2.2.1, 401, .inl (fun _ => 0)))]) ++ [(q3, .inl (Z.2.2.2.1, 401, .inr (.inl (fun _ => 0))))]) ++ [(q4, .inl (Z.2.2.1, 0, .inl (fun _ => 0)))])
set_option maxRecDepth 100000 in
set_option maxHeartbeats 4000000 in
theorem nX7_init (Z : gZ) (h0 : Nat) : n_met yX7_init jX7_init 7 d_X7 [] Z h0 (PX7_init Z h0) := by
  refine n_enter [(0, .ref h0)] (by decide) rfl rfl rfl (Nat.le_of_ble_eq_true rfl) rfl (fun X hz => ?_)
  subst hz
  refine N_aload_n 0 dX7_init_0 rfl rfl ?_
  refine N_obj oi_X7_3 oi_m oi_c dX7_init_1 ⟨by decide, by decide⟩ (Nat.le_of_ble_eq_true rfl) ?_
  refine N_aload_n 0 dX7_init_4 rfl rfl ?_
  refine N_sipush (v := 401) dX7_init_5 (by decide) ?_
  refine N_newI (K := 401) ac_int dX7_init_8 (by decide) (by decide) (by decide) ⟨by decide, by decide⟩ (fun q1 => ?_)
  refine N_putF (fs' := [.ref q1, .null, .null, .null, .int 0, .int 0]) (t := .array .int) 0 clX7 fl_X7_9 dX7_init_10 (by decide) rfl rfl rfl rfl rfl (Nat.le_of_ble_eq_true rfl) rfl ?_
  refine N_aload_n 0 dX7_init_13 rfl rfl ?_
  refine N_sipush (v := 401) dX7_init_14 (by decide) ?_
  refine N_newI (K := 401) ac_int dX7_init_17 (by decide) (by decide) (by decide) ⟨by decide, by decide⟩ (fun q2 => ?_)
  refine N_putF (fs' := [.ref q1, .ref q2, .null, .null, .int 0, .int 0]) (t := .array .int) 1 clX7 fl_X7_15 dX7_init_19 (by decide) rfl rfl rfl rfl rfl (Nat.le_of_ble_eq_true rfl) rfl ?_
  refine N_aload_n 0 dX7_init_22 rfl rfl ?_
  refine N_sipush (v := 401) dX7_init_23 (by decide) ?_
  refine N_newL (K := 401) ac_long dX7_init_26 (by decide) (by decide) (by decide) ⟨by decide, by decide⟩ (fun q3 => ?_)
  refine N_putF (fs' := [.ref q1, .ref q2, .ref q3, .null, .int 0, .int 0]) (t := .array .long) 2 clX7 fl_X7_18 dX7_init_28 (by decide) rfl rfl rfl rfl rfl (Nat.le_of_ble_eq_true rfl) rfl ?_
  refine N_aload_n 0 dX7_init_31 rfl rfl ?_
  refine N_iconst (v := 0) dX7_init_32 (by decide) ?_
  refine N_newI (K := 0) ac_int dX7_init_33 (by decide) (by decide) (by decide) ⟨by decide, by decide⟩ (fun q4 => ?_)
  refine N_put (fs' := [.ref q1, .ref q2, .ref q3, .ref q4, .int 0, .int 0]) (t := .array .int) 3 clX7 fl_X7_22 dX7_init_35 (by decide) rfl rfl rfl rfl (Nat.le_of_ble_eq_true rfl) rfl ?_
  exact N_ret dX7_init_38 ⟨q1, q2, q3, q4, rfl⟩
def PX4_init (Z : gZ) (h0 : Nat) (w : va_W) : Prop := ∃ (q1 : Nat) (q2 : Nat) (q3 : Nat) (q4 : Nat) (q5 : Nat) (q6 : Nat) (q7 : Nat) (q8 : Nat), w = (h0, .inr (4, [.int 4, .int 6, .int 3, .int (-1), .int (-1), .int 1, .int 0, .int 0, .int 0, .ref q1, .ref q2, .ref q3, .ref q4, .ref q5, .ref q6, .ref q7, .ref q8])) :: ((((((((([] : va_W) ++ [(q1, .inl (Z.2.2.1, 800, .inl (fun _ => 0)))]) ++ [(q2, .inl (Z.2.2.2.1, 6, .inr (.inl (fun _ => 0))))]) ++ [(q3, .inl (Z.2.2.1, 6, .inl (fun _ => 0)))]) ++ [(q4, .inl (Z.2.2.1, 6, .inl (upd (fun _ => 0) 0 1)))]) ++ [(q5, .inl (Z.2.2.1, 6, .inl (upd (fun _ => 0) 0 (-1))))]) ++ [(q6, .inl (Z.2.2.1, 40, .inl (fun _ => 0)))]) ++ [(q7, .inl (Z.2.2.1, 12, .inl (fun _ => 0)))]) ++ [(q8, .inl (Z.2.2.1, 12, .inl (fun _ => 0)))])
set_option maxRecDepth 100000 in
set_option maxHeartbeats 4000000 in
theorem nX4_init (Z : gZ) (h0 : Nat) : n_met yX4_init jX4_init 4 d_X4 [] Z h0 (PX4_init Z h0) := by
  refine n_enter [(0, .ref h0)] (by decide) rfl rfl rfl (Nat.le_of_ble_eq_true rfl) rfl (fun X hz => ?_)
  subst hz
  refine N_aload_n 0 dX4_init_0 rfl rfl ?_
  refine N_obj oi_X4_3 oi_m oi_c dX4_init_1 ⟨by decide, by decide⟩ (Nat.le_of_ble_eq_true rfl) ?_
  refine N_aload_n 0 dX4_init_4 rfl rfl ?_
  refine N_sipush (v := 800) dX4_init_5 (by decide) ?_
  refine N_newI (K := 800) ac_int dX4_init_8 (by decide) (by decide) (by decide) ⟨by decide, by decide⟩ (fun q1 => ?_)
  refine N_putF (fs' := [.int 0, .int 0, .int 0, .int 0, .int 0, .int 0, .int 0, .int 0, .int 0, .ref q1, .null, .null, .null, .null, .null, .null, .null]) (t := .array .int) 9 clX4 fl_X4_9 dX4_init_10 (by decide) rfl rfl rfl rfl rfl (Nat.le_of_ble_eq_true rfl) rfl ?_
  refine N_aload_n 0 dX4_init_13 rfl rfl ?_
  refine N_bipush (v := 6) dX4_init_14 (by decide) ?_
  refine N_newL (K := 6) ac_long dX4_init_16 (by decide) (by decide) (by decide) ⟨by decide, by decide⟩ (fun q2 => ?_)
  refine N_putF (fs' := [.int 0, .int 0, .int 0, .int 0, .int 0, .int 0, .int 0, .int 0, .int 0, .ref q1, .ref q2, .null, .null, .null, .null, .null, .null]) (t := .array .long) 10 clX4 fl_X4_15 dX4_init_18 (by decide) rfl rfl rfl rfl rfl (Nat.le_of_ble_eq_true rfl) rfl ?_
  refine N_aload_n 0 dX4_init_21 rfl rfl ?_
  refine N_bipush (v := 6) dX4_init_22 (by decide) ?_
  refine N_newI (K := 6) ac_int dX4_init_24 (by decide) (by decide) (by decide) ⟨by decide, by decide⟩ (fun q3 => ?_)
  refine N_putF (fs' := [.int 0, .int 0, .int 0, .int 0, .int 0, .int 0, .int 0, .int 0, .int 0, .ref q1, .ref q2, .ref q3, .null, .null, .null, .null, .null]) (t := .array .int) 11 clX4 fl_X4_19 dX4_init_26 (by decide) rfl rfl rfl rfl rfl (Nat.le_of_ble_eq_true rfl) rfl ?_
  refine N_aload_n 0 dX4_init_29 rfl rfl ?_
  refine N_bipush (v := 6) dX4_init_30 (by decide) ?_
  refine N_newI (K := 6) ac_int dX4_init_32 (by decide) (by decide) (by decide) ⟨by decide, by decide⟩ (fun q4 => ?_)
  refine N_putF (fs' := [.int 0, .int 0, .int 0, .int 0, .int 0, .int 0, .int 0, .int 0, .int 0, .ref q1, .ref q2, .ref q3, .ref q4, .null, .null, .null, .null]) (t := .array .int) 12 clX4 fl_X4_22 dX4_init_34 (by decide) rfl rfl rfl rfl rfl (Nat.le_of_ble_eq_true rfl) rfl ?_
  refine N_aload_n 0 dX4_init_37 rfl rfl ?_
  refine N_bipush (v := 6) dX4_init_38 (by decide) ?_
  refine N_newI (K := 6) ac_int dX4_init_40 (by decide) (by decide) (by decide) ⟨by decide, by decide⟩ (fun q5 => ?_)
  refine N_putF (fs' := [.int 0, .int 0, .int 0, .int 0, .int 0, .int 0, .int 0, .int 0, .int 0, .ref q1, .ref q2, .ref q3, .ref q4, .ref q5, .null, .null, .null]) (t := .array .int) 13 clX4 fl_X4_25 dX4_init_42 (by decide) rfl rfl rfl rfl rfl (Nat.le_of_ble_eq_true rfl) rfl ?_
  refine N_aload_n 0 dX4_init_45 rfl rfl ?_
  refine N_bipush (v := 40) dX4_init_46 (by decide) ?_
  refine N_newI (K := 40) ac_int dX4_init_48 (by decide) (by decide) (by decide) ⟨by decide, by decide⟩ (fun q6 => ?_)
  refine N_putF (fs' := [.int 0, .int 0, .int 0, .int 0, .int 0, .int 0, .int 0, .int 0, .int 0, .ref q1, .ref q2, .ref q3, .ref q4, .ref q5, .ref q6, .null, .null]) (t := .array .int) 14 clX4 fl_X4_28 dX4_init_50 (by decide) rfl rfl rfl rfl rfl (Nat.le_of_ble_eq_true rfl) rfl ?_
  refine N_aload_n 0 dX4_init_53 rfl rfl ?_
  refine N_bipush (v := 12) dX4_init_54 (by decide) ?_
  refine N_newI (K := 12) ac_int dX4_init_56 (by decide) (by decide) (by decide) ⟨by decide, by decide⟩ (fun q7 => ?_)
  refine N_putF (fs' := [.int 0, .int 0, .int 0, .int 0, .int 0, .int 0, .int 0, .int 0, .int 0, .ref q1, .ref q2, .ref q3, .ref q4, .ref q5, .ref q6, .ref q7, .null]) (t := .array .int) 15 clX4 fl_X4_31 dX4_init_58 (by decide) rfl rfl rfl rfl rfl (Nat.le_of_ble_eq_true rfl) rfl ?_
  refine N_aload_n 0 dX4_init_61 rfl rfl ?_
  refine N_bipush (v := 12) dX4_init_62 (by decide) ?_
  refine N_newI (K := 12) ac_int dX4_init_64 (by decide) (by decide) (by decide) ⟨by decide, by decide⟩ (fun q8 => ?_)
  refine N_putF (fs' := [.int 0, .int 0, .int 0, .int 0, .int 0, .int 0, .int 0, .int 0, .int 0, .ref q1, .ref q2, .ref q3, .ref q4, .ref q5, .ref q6, .ref q7, .ref q8]) (t := .array .int) 16 clX4 fl_X4_34 dX4_init_66 (by decide) rfl rfl rfl rfl rfl (Nat.le_of_ble_eq_true rfl) rfl ?_
  refine N_aload_n 0 dX4_init_69 rfl rfl ?_
  refine N_iconst (v := 4) dX4_init_70 (by decide) ?_
  refine N_put (fs' := [.int 4, .int 0, .int 0, .int 0, .int 0, .int 0, .int 0, .int 0, .int 0, .ref q1, .ref q2, .ref q3, .ref q4, .ref q5, .ref q6, .ref q7, .ref q8]) (t := .int) 0 clX4 fl_X4_37 dX4_init_71 (by decide) rfl rfl rfl rfl (Nat.le_of_ble_eq_true rfl) rfl ?_
  refine N_aload_n 0 dX4_init_74 rfl rfl ?_
  refine N_bipush (v := 6) dX4_init_75 (by decide) ?_
  refine N_put (fs' := [.int 4, .int 6, .int 0, .int 0, .int 0, .int 0, .int 0, .int 0, .int 0, .ref q1, .ref q2, .ref q3, .ref q4, .ref q5, .ref q6, .ref q7, .ref q8]) (t := .int) 1 clX4 fl_X4_41 dX4_init_77 (by decide) rfl rfl rfl rfl (Nat.le_of_ble_eq_true rfl) rfl ?_
  refine N_aload_n 0 dX4_init_80 rfl rfl ?_
  refine N_iconst (v := 3) dX4_init_81 (by decide) ?_
  refine N_put (fs' := [.int 4, .int 6, .int 3, .int 0, .int 0, .int 0, .int 0, .int 0, .int 0, .ref q1, .ref q2, .ref q3, .ref q4, .ref q5, .ref q6, .ref q7, .ref q8]) (t := .int) 2 clX4 fl_X4_44 dX4_init_82 (by decide) rfl rfl rfl rfl (Nat.le_of_ble_eq_true rfl) rfl ?_
  refine N_aload_n 0 dX4_init_85 rfl rfl ?_
  refine N_iconst (v := -1) dX4_init_86 (by decide) ?_
  refine N_put (fs' := [.int 4, .int 6, .int 3, .int (-1), .int 0, .int 0, .int 0, .int 0, .int 0, .ref q1, .ref q2, .ref q3, .ref q4, .ref q5, .ref q6, .ref q7, .ref q8]) (t := .int) 3 clX4 fl_X4_47 dX4_init_87 (by decide) rfl rfl rfl rfl (Nat.le_of_ble_eq_true rfl) rfl ?_
  refine N_aload_n 0 dX4_init_90 rfl rfl ?_
  refine N_iconst (v := -1) dX4_init_91 (by decide) ?_
  refine N_put (fs' := [.int 4, .int 6, .int 3, .int (-1), .int (-1), .int 0, .int 0, .int 0, .int 0, .ref q1, .ref q2, .ref q3, .ref q4, .ref q5, .ref q6, .ref q7, .ref q8]) (t := .int) 4 clX4 fl_X4_50 dX4_init_92 (by decide) rfl rfl rfl rfl (Nat.le_of_ble_eq_true rfl) rfl ?_
  refine N_aload_n 0 dX4_init_95 rfl rfl ?_
  refine N_iconst (v := 1) dX4_init_96 (by decide) ?_
  refine N_put (fs' := [.int 4, .int 6, .int 3, .int (-1), .int (-1), .int 1, .int 0, .int 0, .int 0, .ref q1, .ref q2, .ref q3, .ref q4, .ref q5, .ref q6, .ref q7, .ref q8]) (t := .int) 5 clX4 fl_X4_53 dX4_init_97 (by decide) rfl rfl rfl rfl (Nat.le_of_ble_eq_true rfl) rfl ?_
  refine N_aload_n 0 dX4_init_100 rfl rfl ?_
  refine N_get 12 clX4 fl_X4_22 dX4_init_101 (by decide) rfl ?_
  refine N_iconst (v := 0) dX4_init_104 (by decide) ?_
  refine N_iconst (v := 1) dX4_init_105 (by decide) ?_
  refine N_iast (wr' := ((((((((([] : va_W) ++ [(q1, .inl ((xZ X).2.2.1, 800, .inl (fun _ => 0)))]) ++ [(q2, .inl ((xZ X).2.2.2.1, 6, .inr (.inl (fun _ => 0))))]) ++ [(q3, .inl ((xZ X).2.2.1, 6, .inl (fun _ => 0)))]) ++ [(q4, .inl ((xZ X).2.2.1, 6, .inl (upd (fun _ => 0) 0 1)))]) ++ [(q5, .inl ((xZ X).2.2.1, 6, .inl (fun _ => 0)))]) ++ [(q6, .inl ((xZ X).2.2.1, 40, .inl (fun _ => 0)))]) ++ [(q7, .inl ((xZ X).2.2.1, 12, .inl (fun _ => 0)))]) ++ [(q8, .inl ((xZ X).2.2.1, 12, .inl (fun _ => 0)))])) 3 rfl (show vp_in _ _ by unfold vp_in; decide) dX4_init_106 rfl ?_
  refine N_aload_n 0 dX4_init_107 rfl rfl ?_
  refine N_get 13 clX4 fl_X4_25 dX4_init_108 (by decide) rfl ?_
  refine N_iconst (v := 0) dX4_init_111 (by decide) ?_
  refine N_iconst (v := -1) dX4_init_112 (by decide) ?_
  refine N_iast (wr' := ((((((((([] : va_W) ++ [(q1, .inl ((xZ X).2.2.1, 800, .inl (fun _ => 0)))]) ++ [(q2, .inl ((xZ X).2.2.2.1, 6, .inr (.inl (fun _ => 0))))]) ++ [(q3, .inl ((xZ X).2.2.1, 6, .inl (fun _ => 0)))]) ++ [(q4, .inl ((xZ X).2.2.1, 6, .inl (upd (fun _ => 0) 0 1)))]) ++ [(q5, .inl ((xZ X).2.2.1, 6, .inl (upd (fun _ => 0) 0 (-1))))]) ++ [(q6, .inl ((xZ X).2.2.1, 40, .inl (fun _ => 0)))]) ++ [(q7, .inl ((xZ X).2.2.1, 12, .inl (fun _ => 0)))]) ++ [(q8, .inl ((xZ X).2.2.1, 12, .inl (fun _ => 0)))])) 4 rfl (show vp_in _ _ by unfold vp_in; decide) dX4_init_113 rfl ?_
  exact N_ret dX4_init_114 ⟨q1, q2, q3, q4, q5, q6, q7, q8, rfl⟩
def PX8_init (Z : gZ) (h0 : Nat) (w : va_W) : Prop := ∃ (q1 : Nat) (q2 : Nat) (q3 : Nat), w = (h0, .inr (8, [.int (-1), .ref q1, .ref q2, .ref q3])) :: (((([] : va_W) ++ [(q1, .inl (Z.2.2.1, 201, .inl (fun _ => 0)))]) ++ [(q2, .inl (Z.2.2.1, 200, .inl (fun _ => 0)))]) ++ [(q3, .inl (Z.2.2.1, 200, .inl (fun _ => 0)))])
set_option maxRecDepth 100000 in
set_option maxHeartbeats 4000000 in
theorem nX8_init (Z : gZ) (h0 : Nat) : n_met yX8_init jX8_init 8 d_X8 [] Z h0 (PX8_init Z h0) := by
  refine n_enter [(0, .ref h0)] (by decide) rfl rfl rfl (Nat.le_of_ble_eq_true rfl) rfl (fun X hz => ?_)
  subst hz
  refine N_aload_n 0 dX8_init_0 rfl rfl ?_
  refine N_obj oi_X8_3 oi_m oi_c dX8_init_1 ⟨by decide, by decide⟩ (Nat.le_of_ble_eq_true rfl) ?_
  refine N_aload_n 0 dX8_init_4 rfl rfl ?_
  refine N_sipush (v := 201) dX8_init_5 (by decide) ?_
  refine N_newI (K := 201) ac_int dX8_init_8 (by decide) (by decide) (by decide) ⟨by decide, by decide⟩ (fun q1 => ?_)
  refine N_putF (fs' := [.int 0, .ref q1, .null, .null]) (t := .array .int) 1 clX8 fl_X8_11 dX8_init_10 (by decide) rfl rfl rfl rfl rfl (Nat.le_of_ble_eq_true rfl) rfl ?_
  refine N_aload_n 0 dX8_init_13 rfl rfl ?_
  refine N_sipush (v := 200) dX8_init_14 (by decide) ?_
  refine N_newI (K := 200) ac_int dX8_init_17 (by decide) (by decide) (by decide) ⟨by decide, by decide⟩ (fun q2 => ?_)
  refine N_putF (fs' := [.int 0, .ref q1, .ref q2, .null]) (t := .array .int) 2 clX8 fl_X8_15 dX8_init_19 (by decide) rfl rfl rfl rfl rfl (Nat.le_of_ble_eq_true rfl) rfl ?_
  refine N_aload_n 0 dX8_init_22 rfl rfl ?_
  refine N_sipush (v := 200) dX8_init_23 (by decide) ?_
  refine N_newI (K := 200) ac_int dX8_init_26 (by decide) (by decide) (by decide) ⟨by decide, by decide⟩ (fun q3 => ?_)
  refine N_putF (fs' := [.int 0, .ref q1, .ref q2, .ref q3]) (t := .array .int) 3 clX8 fl_X8_18 dX8_init_28 (by decide) rfl rfl rfl rfl rfl (Nat.le_of_ble_eq_true rfl) rfl ?_
  refine N_aload_n 0 dX8_init_31 rfl rfl ?_
  refine N_iconst (v := -1) dX8_init_32 (by decide) ?_
  refine N_put (fs' := [.int (-1), .ref q1, .ref q2, .ref q3]) (t := .int) 0 clX8 fl_X8_21 dX8_init_33 (by decide) rfl rfl rfl rfl (Nat.le_of_ble_eq_true rfl) rfl ?_
  exact N_ret dX8_init_36 ⟨q1, q2, q3, rfl⟩
def PX1_init (Z : gZ) (h0 : Nat) (r1 : Nat) (w : va_W) : Prop := ∃ (q1 : Nat) (q2 : Nat) (w3 : va_W), PX7_init Z q2  w3 ∧ w = (h0, .inr (1, [.int 0, .int 0, .int 0, .int 0, .int 0, .int 0, .ref r1, .int 0, .ref q1, .ref q2])) :: ((([] : va_W) ++ [(q1, .inl (Z.2.2.1, 401, .inl (fun _ => 0)))]) ++ w3)
set_option maxRecDepth 100000 in
set_option maxHeartbeats 4000000 in
theorem nX1_init (Z : gZ) (h0 : Nat) (r1 : Nat) : n_met yX1_init jX1_init 1 d_X1 [.ref r1] Z h0 (PX1_init Z h0 r1) := by
  refine n_enter [(0, .ref h0), (1, .ref r1)] (by decide) rfl rfl rfl (Nat.le_of_ble_eq_true rfl) rfl (fun X hz => ?_)
  subst hz
  refine N_aload_n 0 dX1_init_0 rfl rfl ?_
  refine N_obj oi_X1_3 oi_m oi_c dX1_init_1 ⟨by decide, by decide⟩ (Nat.le_of_ble_eq_true rfl) ?_
  refine N_aload_n 0 dX1_init_4 rfl rfl ?_
  refine N_sipush (v := 401) dX1_init_5 (by decide) ?_
  refine N_newI (K := 401) ac_int dX1_init_8 (by decide) (by decide) (by decide) ⟨by decide, by decide⟩ (fun q1 => ?_)
  refine N_putF (fs' := [.int 0, .int 0, .int 0, .int 0, .int 0, .int 0, .null, .int 0, .ref q1, .null]) (t := .array .int) 8 clX1 fl_X1_9 dX1_init_10 (by decide) rfl rfl rfl rfl rfl (Nat.le_of_ble_eq_true rfl) rfl ?_
  refine N_aload_n 0 dX1_init_13 rfl rfl ?_
  refine N_new (fs2 := d_X7) clX7 ckl_X1_15 ins_X7 in_X7 dX1_init_14 df_X7 ⟨by decide, by decide⟩ (fun q2 => ?_)
  refine N_dup dX1_init_17 rfl ?_
  refine N_callN (av := []) (rest := [.ref q2, .ref h0]) (nX7_init (xZ X) q2 ) (fun h => h.2) nwn_X7_init rfl dX1_init_18 rfl rfl (Nat.le_of_ble_eq_true rfl) (by decide) (fun w3 hw3 => ?_)
  refine N_putF (fs' := [.int 0, .int 0, .int 0, .int 0, .int 0, .int 0, .null, .int 0, .ref q1, .ref q2]) (t := .object "RopeSchool$Tokens") 9 clX1 fl_X1_18 dX1_init_21 (by decide) rfl rfl rfl rfl rfl (Nat.le_of_ble_eq_true rfl) rfl ?_
  refine N_aload_n 0 dX1_init_24 rfl rfl ?_
  refine N_aload_n 1 dX1_init_25 rfl rfl ?_
  refine N_put (fs' := [.int 0, .int 0, .int 0, .int 0, .int 0, .int 0, .ref r1, .int 0, .ref q1, .ref q2]) (t := .object "RopeSchool$Rope") 6 clX1 fl_X1_22 dX1_init_26 (by decide) rfl rfl rfl rfl (Nat.le_of_ble_eq_true rfl) rfl ?_
  exact N_ret dX1_init_29 ⟨q1, q2, w3, hw3, rfl⟩
def PX0_init (Z : gZ) (h0 : Nat) (r1 : Nat) (w : va_W) : Prop := ∃ (q1 : Nat) (q3 : Nat) (q4 : Nat) (q5 : Nat) (q6 : Nat) (q7 : Nat) (q8 : Nat) (w2 : va_W), PX2_init Z q1  w2 ∧ w = (h0, .inr (0, [.ref r1, .int 1, .int 1, .ref q1, .ref q3, .ref q4, .ref q5, .ref q6, .ref q7, .ref q8])) :: (((((((([] : va_W) ++ w2) ++ [(q3, .inl (Z.2.2.1, 2079, .inl (fun _ => 0)))]) ++ [(q4, .inl (Z.2.2.1, 2079, .inl (fun _ => 0)))]) ++ [(q5, .inl (Z.2.2.1, 2079, .inl (fun _ => 0)))]) ++ [(q6, .inl (Z.2.2.1, 2079, .inl (fun _ => 0)))]) ++ [(q7, .inl (Z.2.2.1, 2079, .inl (fun _ => 0)))]) ++ [(q8, .inl (Z.2.2.2.1, 87318, .inr (.inl (fun _ => 0))))])
set_option maxRecDepth 100000 in
set_option maxHeartbeats 4000000 in
theorem nX0_init (Z : gZ) (h0 : Nat) (r1 : Nat) : n_met yX0_init jX0_init 0 d_X0 [.ref r1] Z h0 (PX0_init Z h0 r1) := by
  refine n_enter [(0, .ref h0), (1, .ref r1)] (by decide) rfl rfl rfl (Nat.le_of_ble_eq_true rfl) rfl (fun X hz => ?_)
  subst hz
  refine N_aload_n 0 dX0_init_0 rfl rfl ?_
  refine N_obj oi_X0_3 oi_m oi_c dX0_init_1 ⟨by decide, by decide⟩ (Nat.le_of_ble_eq_true rfl) ?_
  refine N_aload_n 0 dX0_init_4 rfl rfl ?_
  refine N_new (fs2 := d_X2) clX2 ckl_X0_9 ins_X2 in_X2 dX0_init_5 df_X2 ⟨by decide, by decide⟩ (fun q1 => ?_)
  refine N_dup dX0_init_8 rfl ?_
  refine N_callN (av := []) (rest := [.ref q1, .ref h0]) (nX2_init (xZ X) q1 ) (fun h => h.1) nwn_X2_init rfl dX0_init_9 rfl rfl (Nat.le_of_ble_eq_true rfl) (by decide) (fun w2 hw2 => ?_)
  refine N_putF (fs' := [.null, .int 0, .int 0, .ref q1, .null, .null, .null, .null, .null, .null]) (t := .object "RopeSchool$Reckoner") 3 clX0 fl_X0_12 dX0_init_12 (by decide) rfl rfl rfl rfl rfl (Nat.le_of_ble_eq_true rfl) rfl ?_
  refine N_aload_n 0 dX0_init_15 rfl rfl ?_
  refine N_sipush (v := 2079) dX0_init_16 (by decide) ?_
  refine N_newI (K := 2079) ac_int dX0_init_19 (by decide) (by decide) (by decide) ⟨by decide, by decide⟩ (fun q3 => ?_)
  refine N_putF (fs' := [.null, .int 0, .int 0, .ref q1, .ref q3, .null, .null, .null, .null, .null]) (t := .array .int) 4 clX0 fl_X0_18 dX0_init_21 (by decide) rfl rfl rfl rfl rfl (Nat.le_of_ble_eq_true rfl) rfl ?_
  refine N_aload_n 0 dX0_init_24 rfl rfl ?_
  refine N_sipush (v := 2079) dX0_init_25 (by decide) ?_
  refine N_newI (K := 2079) ac_int dX0_init_28 (by decide) (by decide) (by decide) ⟨by decide, by decide⟩ (fun q4 => ?_)
  refine N_putF (fs' := [.null, .int 0, .int 0, .ref q1, .ref q3, .ref q4, .null, .null, .null, .null]) (t := .array .int) 5 clX0 fl_X0_22 dX0_init_30 (by decide) rfl rfl rfl rfl rfl (Nat.le_of_ble_eq_true rfl) rfl ?_
  refine N_aload_n 0 dX0_init_33 rfl rfl ?_
  refine N_sipush (v := 2079) dX0_init_34 (by decide) ?_
  refine N_newI (K := 2079) ac_int dX0_init_37 (by decide) (by decide) (by decide) ⟨by decide, by decide⟩ (fun q5 => ?_)
  refine N_putF (fs' := [.null, .int 0, .int 0, .ref q1, .ref q3, .ref q4, .ref q5, .null, .null, .null]) (t := .array .int) 6 clX0 fl_X0_25 dX0_init_39 (by decide) rfl rfl rfl rfl rfl (Nat.le_of_ble_eq_true rfl) rfl ?_
  refine N_aload_n 0 dX0_init_42 rfl rfl ?_
  refine N_sipush (v := 2079) dX0_init_43 (by decide) ?_
  refine N_newI (K := 2079) ac_int dX0_init_46 (by decide) (by decide) (by decide) ⟨by decide, by decide⟩ (fun q6 => ?_)
  refine N_putF (fs' := [.null, .int 0, .int 0, .ref q1, .ref q3, .ref q4, .ref q5, .ref q6, .null, .null]) (t := .array .int) 7 clX0 fl_X0_28 dX0_init_48 (by decide) rfl rfl rfl rfl rfl (Nat.le_of_ble_eq_true rfl) rfl ?_
  refine N_aload_n 0 dX0_init_51 rfl rfl ?_
  refine N_sipush (v := 2079) dX0_init_52 (by decide) ?_
  refine N_newI (K := 2079) ac_int dX0_init_55 (by decide) (by decide) (by decide) ⟨by decide, by decide⟩ (fun q7 => ?_)
  refine N_putF (fs' := [.null, .int 0, .int 0, .ref q1, .ref q3, .ref q4, .ref q5, .ref q6, .ref q7, .null]) (t := .array .int) 8 clX0 fl_X0_31 dX0_init_57 (by decide) rfl rfl rfl rfl rfl (Nat.le_of_ble_eq_true rfl) rfl ?_
  refine N_aload_n 0 dX0_init_60 rfl rfl ?_
  refine N_ldc (v := 87318) ci_X0_34 dX0_init_61 ?_
  refine N_newL (K := 87318) ac_long dX0_init_63 (by decide) (by decide) (by decide) ⟨by decide, by decide⟩ (fun q8 => ?_)
  refine N_putF (fs' := [.null, .int 0, .int 0, .ref q1, .ref q3, .ref q4, .ref q5, .ref q6, .ref q7, .ref q8]) (t := .array .long) 9 clX0 fl_X0_35 dX0_init_65 (by decide) rfl rfl rfl rfl rfl (Nat.le_of_ble_eq_true rfl) rfl ?_
  refine N_aload_n 0 dX0_init_68 rfl rfl ?_
  refine N_aload_n 1 dX0_init_69 rfl rfl ?_
  refine N_put (fs' := [.ref r1, .int 0, .int 0, .ref q1, .ref q3, .ref q4, .ref q5, .ref q6, .ref q7, .ref q8]) (t := .object "RopeSchool$Rope") 0 clX0 fl_X0_39 dX0_init_70 (by decide) rfl rfl rfl rfl (Nat.le_of_ble_eq_true rfl) rfl ?_
  refine N_aload_n 0 dX0_init_73 rfl rfl ?_
  refine N_iconst (v := 1) dX0_init_74 (by decide) ?_
  refine N_put (fs' := [.ref r1, .int 1, .int 0, .ref q1, .ref q3, .ref q4, .ref q5, .ref q6, .ref q7, .ref q8]) (t := .int) 1 clX0 fl_X0_43 dX0_init_75 (by decide) rfl rfl rfl rfl (Nat.le_of_ble_eq_true rfl) rfl ?_
  refine N_aload_n 0 dX0_init_78 rfl rfl ?_
  refine N_iconst (v := 1) dX0_init_79 (by decide) ?_
  refine N_put (fs' := [.ref r1, .int 1, .int 1, .ref q1, .ref q3, .ref q4, .ref q5, .ref q6, .ref q7, .ref q8]) (t := .int) 2 clX0 fl_X0_47 dX0_init_80 (by decide) rfl rfl rfl rfl (Nat.le_of_ble_eq_true rfl) rfl ?_
  exact N_ret dX0_init_83 ⟨q1, q3, q4, q5, q6, q7, q8, w2, hw2, rfl⟩
def PX5_init (Z : gZ) (h0 : Nat) (r1 : Nat) (w : va_W) : Prop := ∃ (q1 : Nat) (q2 : Nat) (q3 : Nat) (q4 : Nat) (q5 : Nat) (q6 : Nat) (q7 : Nat) (q8 : Nat) (q9 : Nat), w = (h0, .inr (5, [.ref r1, .ref q1, .ref q2, .ref q3, .ref q4, .ref q5, .ref q6, .ref q7, .ref q8, .ref q9, .int 0, .int 0, .int (-1), .int 0])) :: (((((((((([] : va_W) ++ [(q1, .inl (Z.2.2.1, 2079, .inl (fun _ => 0)))]) ++ [(q2, .inl (Z.2.2.1, 2079, .inl (fun _ => 0)))]) ++ [(q3, .inl (Z.2.2.1, 2079, .inl (fun _ => 0)))]) ++ [(q4, .inl (Z.2.2.1, 2079, .inl (fun _ => 0)))]) ++ [(q5, .inl (Z.2.2.1, 2079, .inl (fun _ => 0)))]) ++ [(q6, .inl (Z.2.2.1, 2079, .inl (fun _ => 0)))]) ++ [(q7, .inl (Z.2.2.1, 2079, .inl (fun _ => 0)))]) ++ [(q8, .inl (Z.2.2.1, 2079, .inl (fun _ => 0)))]) ++ [(q9, .inl (Z.2.2.1, 2079, .inl (fun _ => 0)))])
set_option maxRecDepth 100000 in
set_option maxHeartbeats 4000000 in
theorem nX5_init (Z : gZ) (h0 : Nat) (r1 : Nat) : n_met yX5_init jX5_init 5 d_X5 [.ref r1] Z h0 (PX5_init Z h0 r1) := by
  refine n_enter [(0, .ref h0), (1, .ref r1)] (by decide) rfl rfl rfl (Nat.le_of_ble_eq_true rfl) rfl (fun X hz => ?_)
  subst hz
  refine N_aload_n 0 dX5_init_0 rfl rfl ?_
  refine N_obj oi_X5_3 oi_m oi_c dX5_init_1 ⟨by decide, by decide⟩ (Nat.le_of_ble_eq_true rfl) ?_
  refine N_aload_n 0 dX5_init_4 rfl rfl ?_
  refine N_sipush (v := 2079) dX5_init_5 (by decide) ?_
  refine N_newI (K := 2079) ac_int dX5_init_8 (by decide) (by decide) (by decide) ⟨by decide, by decide⟩ (fun q1 => ?_)
  refine N_putF (fs' := [.null, .ref q1, .null, .null, .null, .null, .null, .null, .null, .null, .int 0, .int 0, .int 0, .int 0]) (t := .array .int) 1 clX5 fl_X5_9 dX5_init_10 (by decide) rfl rfl rfl rfl rfl (Nat.le_of_ble_eq_true rfl) rfl ?_
  refine N_aload_n 0 dX5_init_13 rfl rfl ?_
  refine N_sipush (v := 2079) dX5_init_14 (by decide) ?_
  refine N_newI (K := 2079) ac_int dX5_init_17 (by decide) (by decide) (by decide) ⟨by decide, by decide⟩ (fun q2 => ?_)
  refine N_putF (fs' := [.null, .ref q1, .ref q2, .null, .null, .null, .null, .null, .null, .null, .int 0, .int 0, .int 0, .int 0]) (t := .array .int) 2 clX5 fl_X5_15 dX5_init_19 (by decide) rfl rfl rfl rfl rfl (Nat.le_of_ble_eq_true rfl) rfl ?_
  refine N_aload_n 0 dX5_init_22 rfl rfl ?_
  refine N_sipush (v := 2079) dX5_init_23 (by decide) ?_
  refine N_newI (K := 2079) ac_int dX5_init_26 (by decide) (by decide) (by decide) ⟨by decide, by decide⟩ (fun q3 => ?_)
  refine N_putF (fs' := [.null, .ref q1, .ref q2, .ref q3, .null, .null, .null, .null, .null, .null, .int 0, .int 0, .int 0, .int 0]) (t := .array .int) 3 clX5 fl_X5_18 dX5_init_28 (by decide) rfl rfl rfl rfl rfl (Nat.le_of_ble_eq_true rfl) rfl ?_
  refine N_aload_n 0 dX5_init_31 rfl rfl ?_
  refine N_sipush (v := 2079) dX5_init_32 (by decide) ?_
  refine N_newI (K := 2079) ac_int dX5_init_35 (by decide) (by decide) (by decide) ⟨by decide, by decide⟩ (fun q4 => ?_)
  refine N_putF (fs' := [.null, .ref q1, .ref q2, .ref q3, .ref q4, .null, .null, .null, .null, .null, .int 0, .int 0, .int 0, .int 0]) (t := .array .int) 4 clX5 fl_X5_21 dX5_init_37 (by decide) rfl rfl rfl rfl rfl (Nat.le_of_ble_eq_true rfl) rfl ?_
  refine N_aload_n 0 dX5_init_40 rfl rfl ?_
  refine N_sipush (v := 2079) dX5_init_41 (by decide) ?_
  refine N_newI (K := 2079) ac_int dX5_init_44 (by decide) (by decide) (by decide) ⟨by decide, by decide⟩ (fun q5 => ?_)
  refine N_putF (fs' := [.null, .ref q1, .ref q2, .ref q3, .ref q4, .ref q5, .null, .null, .null, .null, .int 0, .int 0, .int 0, .int 0]) (t := .array .int) 5 clX5 fl_X5_24 dX5_init_46 (by decide) rfl rfl rfl rfl rfl (Nat.le_of_ble_eq_true rfl) rfl ?_
  refine N_aload_n 0 dX5_init_49 rfl rfl ?_
  refine N_sipush (v := 2079) dX5_init_50 (by decide) ?_
  refine N_newI (K := 2079) ac_int dX5_init_53 (by decide) (by decide) (by decide) ⟨by decide, by decide⟩ (fun q6 => ?_)
  refine N_putF (fs' := [.null, .ref q1, .ref q2, .ref q3, .ref q4, .ref q5, .ref q6, .null, .null, .null, .int 0, .int 0, .int 0, .int 0]) (t := .array .int) 6 clX5 fl_X5_27 dX5_init_55 (by decide) rfl rfl rfl rfl rfl (Nat.le_of_ble_eq_true rfl) rfl ?_
  refine N_aload_n 0 dX5_init_58 rfl rfl ?_
  refine N_sipush (v := 2079) dX5_init_59 (by decide) ?_
  refine N_newI (K := 2079) ac_int dX5_init_62 (by decide) (by decide) (by decide) ⟨by decide, by decide⟩ (fun q7 => ?_)
  refine N_putF (fs' := [.null, .ref q1, .ref q2, .ref q3, .ref q4, .ref q5, .ref q6, .ref q7, .null, .null, .int 0, .int 0, .int 0, .int 0]) (t := .array .int) 7 clX5 fl_X5_30 dX5_init_64 (by decide) rfl rfl rfl rfl rfl (Nat.le_of_ble_eq_true rfl) rfl ?_
  refine N_aload_n 0 dX5_init_67 rfl rfl ?_
  refine N_sipush (v := 2079) dX5_init_68 (by decide) ?_
  refine N_newI (K := 2079) ac_int dX5_init_71 (by decide) (by decide) (by decide) ⟨by decide, by decide⟩ (fun q8 => ?_)
  refine N_putF (fs' := [.null, .ref q1, .ref q2, .ref q3, .ref q4, .ref q5, .ref q6, .ref q7, .ref q8, .null, .int 0, .int 0, .int 0, .int 0]) (t := .array .int) 8 clX5 fl_X5_33 dX5_init_73 (by decide) rfl rfl rfl rfl rfl (Nat.le_of_ble_eq_true rfl) rfl ?_
  refine N_aload_n 0 dX5_init_76 rfl rfl ?_
  refine N_sipush (v := 2079) dX5_init_77 (by decide) ?_
  refine N_newI (K := 2079) ac_int dX5_init_80 (by decide) (by decide) (by decide) ⟨by decide, by decide⟩ (fun q9 => ?_)
  refine N_putF (fs' := [.null, .ref q1, .ref q2, .ref q3, .ref q4, .ref q5, .ref q6, .ref q7, .ref q8, .ref q9, .int 0, .int 0, .int 0, .int 0]) (t := .array .int) 9 clX5 fl_X5_36 dX5_init_82 (by decide) rfl rfl rfl rfl rfl (Nat.le_of_ble_eq_true rfl) rfl ?_
  refine N_aload_n 0 dX5_init_85 rfl rfl ?_
  refine N_aload_n 1 dX5_init_86 rfl rfl ?_
  refine N_putF (fs' := [.ref r1, .ref q1, .ref q2, .ref q3, .ref q4, .ref q5, .ref q6, .ref q7, .ref q8, .ref q9, .int 0, .int 0, .int 0, .int 0]) (t := .object "RopeSchool$Beats") 0 clX5 fl_X5_39 dX5_init_87 (by decide) rfl rfl rfl rfl rfl (Nat.le_of_ble_eq_true rfl) rfl ?_
  refine N_aload_n 0 dX5_init_90 rfl rfl ?_
  refine N_iconst (v := -1) dX5_init_91 (by decide) ?_
  refine N_put (fs' := [.ref r1, .ref q1, .ref q2, .ref q3, .ref q4, .ref q5, .ref q6, .ref q7, .ref q8, .ref q9, .int 0, .int 0, .int (-1), .int 0]) (t := .int) 12 clX5 fl_X5_43 dX5_init_92 (by decide) rfl rfl rfl rfl (Nat.le_of_ble_eq_true rfl) rfl ?_
  exact N_ret dX5_init_95 ⟨q1, q2, q3, q4, q5, q6, q7, q8, q9, rfl⟩
def PX3_init (Z : gZ) (h0 : Nat) (r1 : Nat) (w : va_W) : Prop := ∃ (q1 : Nat) (q2 : Nat) (q3 : Nat) (q4 : Nat) (q5 : Nat) (q6 : Nat) (q7 : Nat) (q8 : Nat) (q9 : Nat), w = (h0, .inr (3, [.ref r1, .ref q1, .int 0, .ref q2, .int (-1), .int (-1), .int 0, .int 0, .ref q3, .ref q4, .ref q5, .ref q6, .ref q7, .ref q8, .ref q9])) :: (((((((((([] : va_W) ++ [(q1, .inl (Z.2.2.1, 40, .inl (fun _ => 0)))]) ++ [(q2, .inl (Z.2.2.1, 2079, .inl (fun _ => 0)))]) ++ [(q3, .inl (Z.2.2.1, 2079, .inl (fun _ => 0)))]) ++ [(q4, .inl (Z.2.2.1, 2079, .inl (fun _ => 0)))]) ++ [(q5, .inl (Z.2.2.1, 2079, .inl (fun _ => 0)))]) ++ [(q6, .inl (Z.2.2.1, 2079, .inl (fun _ => 0)))]) ++ [(q7, .inl (Z.2.2.1, 2079, .inl (fun _ => 0)))]) ++ [(q8, .inl (Z.2.2.2.1, 2079, .inr (.inl (fun _ => 0))))]) ++ [(q9, .inl (Z.2.2.2.1, 2079, .inr (.inl (fun _ => 0))))])
set_option maxRecDepth 100000 in
set_option maxHeartbeats 4000000 in
theorem nX3_init (Z : gZ) (h0 : Nat) (r1 : Nat) : n_met yX3_init jX3_init 3 d_X3 [.ref r1] Z h0 (PX3_init Z h0 r1) := by
  refine n_enter [(0, .ref h0), (1, .ref r1)] (by decide) rfl rfl rfl (Nat.le_of_ble_eq_true rfl) rfl (fun X hz => ?_)
  subst hz
  refine N_aload_n 0 dX3_init_0 rfl rfl ?_
  refine N_obj oi_X3_3 oi_m oi_c dX3_init_1 ⟨by decide, by decide⟩ (Nat.le_of_ble_eq_true rfl) ?_
  refine N_aload_n 0 dX3_init_4 rfl rfl ?_
  refine N_bipush (v := 40) dX3_init_5 (by decide) ?_
  refine N_newI (K := 40) ac_int dX3_init_7 (by decide) (by decide) (by decide) ⟨by decide, by decide⟩ (fun q1 => ?_)
  refine N_putF (fs' := [.null, .ref q1, .int 0, .null, .int 0, .int 0, .int 0, .int 0, .null, .null, .null, .null, .null, .null, .null]) (t := .array .int) 1 clX3 fl_X3_11 dX3_init_9 (by decide) rfl rfl rfl rfl rfl (Nat.le_of_ble_eq_true rfl) rfl ?_
  refine N_aload_n 0 dX3_init_12 rfl rfl ?_
  refine N_sipush (v := 2079) dX3_init_13 (by decide) ?_
  refine N_newI (K := 2079) ac_int dX3_init_16 (by decide) (by decide) (by decide) ⟨by decide, by decide⟩ (fun q2 => ?_)
  refine N_putF (fs' := [.null, .ref q1, .int 0, .ref q2, .int 0, .int 0, .int 0, .int 0, .null, .null, .null, .null, .null, .null, .null]) (t := .array .int) 3 clX3 fl_X3_15 dX3_init_18 (by decide) rfl rfl rfl rfl rfl (Nat.le_of_ble_eq_true rfl) rfl ?_
  refine N_aload_n 0 dX3_init_21 rfl rfl ?_
  refine N_sipush (v := 2079) dX3_init_22 (by decide) ?_
  refine N_newI (K := 2079) ac_int dX3_init_25 (by decide) (by decide) (by decide) ⟨by decide, by decide⟩ (fun q3 => ?_)
  refine N_putF (fs' := [.null, .ref q1, .int 0, .ref q2, .int 0, .int 0, .int 0, .int 0, .ref q3, .null, .null, .null, .null, .null, .null]) (t := .array .int) 8 clX3 fl_X3_18 dX3_init_27 (by decide) rfl rfl rfl rfl rfl (Nat.le_of_ble_eq_true rfl) rfl ?_
  refine N_aload_n 0 dX3_init_30 rfl rfl ?_
  refine N_sipush (v := 2079) dX3_init_31 (by decide) ?_
  refine N_newI (K := 2079) ac_int dX3_init_34 (by decide) (by decide) (by decide) ⟨by decide, by decide⟩ (fun q4 => ?_)
  refine N_putF (fs' := [.null, .ref q1, .int 0, .ref q2, .int 0, .int 0, .int 0, .int 0, .ref q3, .ref q4, .null, .null, .null, .null, .null]) (t := .array .int) 9 clX3 fl_X3_21 dX3_init_36 (by decide) rfl rfl rfl rfl rfl (Nat.le_of_ble_eq_true rfl) rfl ?_
  refine N_aload_n 0 dX3_init_39 rfl rfl ?_
  refine N_sipush (v := 2079) dX3_init_40 (by decide) ?_
  refine N_newI (K := 2079) ac_int dX3_init_43 (by decide) (by decide) (by decide) ⟨by decide, by decide⟩ (fun q5 => ?_)
  refine N_putF (fs' := [.null, .ref q1, .int 0, .ref q2, .int 0, .int 0, .int 0, .int 0, .ref q3, .ref q4, .ref q5, .null, .null, .null, .null]) (t := .array .int) 10 clX3 fl_X3_24 dX3_init_45 (by decide) rfl rfl rfl rfl rfl (Nat.le_of_ble_eq_true rfl) rfl ?_
  refine N_aload_n 0 dX3_init_48 rfl rfl ?_
  refine N_sipush (v := 2079) dX3_init_49 (by decide) ?_
  refine N_newI (K := 2079) ac_int dX3_init_52 (by decide) (by decide) (by decide) ⟨by decide, by decide⟩ (fun q6 => ?_)
  refine N_putF (fs' := [.null, .ref q1, .int 0, .ref q2, .int 0, .int 0, .int 0, .int 0, .ref q3, .ref q4, .ref q5, .ref q6, .null, .null, .null]) (t := .array .int) 11 clX3 fl_X3_27 dX3_init_54 (by decide) rfl rfl rfl rfl rfl (Nat.le_of_ble_eq_true rfl) rfl ?_
  refine N_aload_n 0 dX3_init_57 rfl rfl ?_
  refine N_sipush (v := 2079) dX3_init_58 (by decide) ?_
  refine N_newI (K := 2079) ac_int dX3_init_61 (by decide) (by decide) (by decide) ⟨by decide, by decide⟩ (fun q7 => ?_)
  refine N_putF (fs' := [.null, .ref q1, .int 0, .ref q2, .int 0, .int 0, .int 0, .int 0, .ref q3, .ref q4, .ref q5, .ref q6, .ref q7, .null, .null]) (t := .array .int) 12 clX3 fl_X3_30 dX3_init_63 (by decide) rfl rfl rfl rfl rfl (Nat.le_of_ble_eq_true rfl) rfl ?_
  refine N_aload_n 0 dX3_init_66 rfl rfl ?_
  refine N_sipush (v := 2079) dX3_init_67 (by decide) ?_
  refine N_newL (K := 2079) ac_long dX3_init_70 (by decide) (by decide) (by decide) ⟨by decide, by decide⟩ (fun q8 => ?_)
  refine N_putF (fs' := [.null, .ref q1, .int 0, .ref q2, .int 0, .int 0, .int 0, .int 0, .ref q3, .ref q4, .ref q5, .ref q6, .ref q7, .ref q8, .null]) (t := .array .long) 13 clX3 fl_X3_33 dX3_init_72 (by decide) rfl rfl rfl rfl rfl (Nat.le_of_ble_eq_true rfl) rfl ?_
  refine N_aload_n 0 dX3_init_75 rfl rfl ?_
  refine N_sipush (v := 2079) dX3_init_76 (by decide) ?_
  refine N_newL (K := 2079) ac_long dX3_init_79 (by decide) (by decide) (by decide) ⟨by decide, by decide⟩ (fun q9 => ?_)
  refine N_putF (fs' := [.null, .ref q1, .int 0, .ref q2, .int 0, .int 0, .int 0, .int 0, .ref q3, .ref q4, .ref q5, .ref q6, .ref q7, .ref q8, .ref q9]) (t := .array .long) 14 clX3 fl_X3_37 dX3_init_81 (by decide) rfl rfl rfl rfl rfl (Nat.le_of_ble_eq_true rfl) rfl ?_
  refine N_aload_n 0 dX3_init_84 rfl rfl ?_
  refine N_aload_n 1 dX3_init_85 rfl rfl ?_
  refine N_putF (fs' := [.ref r1, .ref q1, .int 0, .ref q2, .int 0, .int 0, .int 0, .int 0, .ref q3, .ref q4, .ref q5, .ref q6, .ref q7, .ref q8, .ref q9]) (t := .object "RopeSchool$Beats") 0 clX3 fl_X3_40 dX3_init_86 (by decide) rfl rfl rfl rfl rfl (Nat.le_of_ble_eq_true rfl) rfl ?_
  refine N_aload_n 0 dX3_init_89 rfl rfl ?_
  refine N_iconst (v := -1) dX3_init_90 (by decide) ?_
  refine N_put (fs' := [.ref r1, .ref q1, .int 0, .ref q2, .int (-1), .int 0, .int 0, .int 0, .ref q3, .ref q4, .ref q5, .ref q6, .ref q7, .ref q8, .ref q9]) (t := .int) 4 clX3 fl_X3_44 dX3_init_91 (by decide) rfl rfl rfl rfl (Nat.le_of_ble_eq_true rfl) rfl ?_
  refine N_aload_n 0 dX3_init_94 rfl rfl ?_
  refine N_iconst (v := -1) dX3_init_95 (by decide) ?_
  refine N_put (fs' := [.ref r1, .ref q1, .int 0, .ref q2, .int (-1), .int (-1), .int 0, .int 0, .ref q3, .ref q4, .ref q5, .ref q6, .ref q7, .ref q8, .ref q9]) (t := .int) 5 clX3 fl_X3_48 dX3_init_96 (by decide) rfl rfl rfl rfl (Nat.le_of_ble_eq_true rfl) rfl ?_
  exact N_ret dX3_init_99 ⟨q1, q2, q3, q4, q5, q6, q7, q8, q9, rfl⟩
def PX6_init (Z : gZ) (h0 : Nat) (r1 : Nat) (w : va_W) : Prop := ∃ (q1 : Nat) (q2 : Nat) (q3 : Nat) (q4 : Nat) (q5 : Nat) (q6 : Nat) (q7 : Nat) (q8 : Nat), w = (h0, .inr (6, [.ref r1, .int 0, .ref q1, .int 0, .int (-1), .ref q2, .ref q3, .ref q4, .ref q5, .ref q6, .ref q7, .ref q8, .int 0])) :: ((((((((([] : va_W) ++ [(q1, .inl (Z.2.2.1, 24, .inl (fun _ => 0)))]) ++ [(q2, .inl (Z.2.2.1, 24, .inl (fun _ => 0)))]) ++ [(q3, .inl (Z.2.2.1, 2079, .inl (fun _ => 0)))]) ++ [(q4, .inl (Z.2.2.1, 2079, .inl (fun _ => 0)))]) ++ [(q5, .inl (Z.2.2.1, 4, .inl (fun _ => 0)))]) ++ [(q6, .inl (Z.2.2.1, 10395, .inl (fun _ => 0)))]) ++ [(q7, .inl (Z.2.2.1, 5, .inl (fun _ => 0)))]) ++ [(q8, .inl (Z.2.2.1, 2079, .inl (fun _ => 0)))])
set_option maxRecDepth 100000 in
set_option maxHeartbeats 4000000 in
theorem nX6_init (Z : gZ) (h0 : Nat) (r1 : Nat) : n_met yX6_init jX6_init 6 d_X6 [.ref r1] Z h0 (PX6_init Z h0 r1) := by
  refine n_enter [(0, .ref h0), (1, .ref r1)] (by decide) rfl rfl rfl (Nat.le_of_ble_eq_true rfl) rfl (fun X hz => ?_)
  subst hz
  refine N_aload_n 0 dX6_init_0 rfl rfl ?_
  refine N_obj oi_X6_3 oi_m oi_c dX6_init_1 ⟨by decide, by decide⟩ (Nat.le_of_ble_eq_true rfl) ?_
  refine N_aload_n 0 dX6_init_4 rfl rfl ?_
  refine N_bipush (v := 24) dX6_init_5 (by decide) ?_
  refine N_newI (K := 24) ac_int dX6_init_7 (by decide) (by decide) (by decide) ⟨by decide, by decide⟩ (fun q1 => ?_)
  refine N_putF (fs' := [.null, .int 0, .ref q1, .int 0, .int 0, .null, .null, .null, .null, .null, .null, .null, .int 0]) (t := .array .int) 2 clX6 fl_X6_11 dX6_init_9 (by decide) rfl rfl rfl rfl rfl (Nat.le_of_ble_eq_true rfl) rfl ?_
  refine N_aload_n 0 dX6_init_12 rfl rfl ?_
  refine N_bipush (v := 24) dX6_init_13 (by decide) ?_
  refine N_newI (K := 24) ac_int dX6_init_15 (by decide) (by decide) (by decide) ⟨by decide, by decide⟩ (fun q2 => ?_)
  refine N_putF (fs' := [.null, .int 0, .ref q1, .int 0, .int 0, .ref q2, .null, .null, .null, .null, .null, .null, .int 0]) (t := .array .int) 5 clX6 fl_X6_15 dX6_init_17 (by decide) rfl rfl rfl rfl rfl (Nat.le_of_ble_eq_true rfl) rfl ?_
  refine N_aload_n 0 dX6_init_20 rfl rfl ?_
  refine N_sipush (v := 2079) dX6_init_21 (by decide) ?_
  refine N_newI (K := 2079) ac_int dX6_init_24 (by decide) (by decide) (by decide) ⟨by decide, by decide⟩ (fun q3 => ?_)
  refine N_putF (fs' := [.null, .int 0, .ref q1, .int 0, .int 0, .ref q2, .ref q3, .null, .null, .null, .null, .null, .int 0]) (t := .array .int) 6 clX6 fl_X6_18 dX6_init_26 (by decide) rfl rfl rfl rfl rfl (Nat.le_of_ble_eq_true rfl) rfl ?_
  refine N_aload_n 0 dX6_init_29 rfl rfl ?_
  refine N_sipush (v := 2079) dX6_init_30 (by decide) ?_
  refine N_newI (K := 2079) ac_int dX6_init_33 (by decide) (by decide) (by decide) ⟨by decide, by decide⟩ (fun q4 => ?_)
  refine N_putF (fs' := [.null, .int 0, .ref q1, .int 0, .int 0, .ref q2, .ref q3, .ref q4, .null, .null, .null, .null, .int 0]) (t := .array .int) 7 clX6 fl_X6_21 dX6_init_35 (by decide) rfl rfl rfl rfl rfl (Nat.le_of_ble_eq_true rfl) rfl ?_
  refine N_aload_n 0 dX6_init_38 rfl rfl ?_
  refine N_iconst (v := 4) dX6_init_39 (by decide) ?_
  refine N_newI (K := 4) ac_int dX6_init_40 (by decide) (by decide) (by decide) ⟨by decide, by decide⟩ (fun q5 => ?_)
  refine N_putF (fs' := [.null, .int 0, .ref q1, .int 0, .int 0, .ref q2, .ref q3, .ref q4, .ref q5, .null, .null, .null, .int 0]) (t := .array .int) 8 clX6 fl_X6_24 dX6_init_42 (by decide) rfl rfl rfl rfl rfl (Nat.le_of_ble_eq_true rfl) rfl ?_
  refine N_aload_n 0 dX6_init_45 rfl rfl ?_
  refine N_sipush (v := 10395) dX6_init_46 (by decide) ?_
  refine N_newI (K := 10395) ac_int dX6_init_49 (by decide) (by decide) (by decide) ⟨by decide, by decide⟩ (fun q6 => ?_)
  refine N_putF (fs' := [.null, .int 0, .ref q1, .int 0, .int 0, .ref q2, .ref q3, .ref q4, .ref q5, .ref q6, .null, .null, .int 0]) (t := .array .int) 9 clX6 fl_X6_27 dX6_init_51 (by decide) rfl rfl rfl rfl rfl (Nat.le_of_ble_eq_true rfl) rfl ?_
  refine N_aload_n 0 dX6_init_54 rfl rfl ?_
  refine N_iconst (v := 5) dX6_init_55 (by decide) ?_
  refine N_newI (K := 5) ac_int dX6_init_56 (by decide) (by decide) (by decide) ⟨by decide, by decide⟩ (fun q7 => ?_)
  refine N_putF (fs' := [.null, .int 0, .ref q1, .int 0, .int 0, .ref q2, .ref q3, .ref q4, .ref q5, .ref q6, .ref q7, .null, .int 0]) (t := .array .int) 10 clX6 fl_X6_30 dX6_init_58 (by decide) rfl rfl rfl rfl rfl (Nat.le_of_ble_eq_true rfl) rfl ?_
  refine N_aload_n 0 dX6_init_61 rfl rfl ?_
  refine N_sipush (v := 2079) dX6_init_62 (by decide) ?_
  refine N_newI (K := 2079) ac_int dX6_init_65 (by decide) (by decide) (by decide) ⟨by decide, by decide⟩ (fun q8 => ?_)
  refine N_putF (fs' := [.null, .int 0, .ref q1, .int 0, .int 0, .ref q2, .ref q3, .ref q4, .ref q5, .ref q6, .ref q7, .ref q8, .int 0]) (t := .array .int) 11 clX6 fl_X6_33 dX6_init_67 (by decide) rfl rfl rfl rfl rfl (Nat.le_of_ble_eq_true rfl) rfl ?_
  refine N_aload_n 0 dX6_init_70 rfl rfl ?_
  refine N_aload_n 1 dX6_init_71 rfl rfl ?_
  refine N_putF (fs' := [.ref r1, .int 0, .ref q1, .int 0, .int 0, .ref q2, .ref q3, .ref q4, .ref q5, .ref q6, .ref q7, .ref q8, .int 0]) (t := .object "RopeSchool$Beats") 0 clX6 fl_X6_36 dX6_init_72 (by decide) rfl rfl rfl rfl rfl (Nat.le_of_ble_eq_true rfl) rfl ?_
  refine N_aload_n 0 dX6_init_75 rfl rfl ?_
  refine N_iconst (v := -1) dX6_init_76 (by decide) ?_
  refine N_put (fs' := [.ref r1, .int 0, .ref q1, .int 0, .int (-1), .ref q2, .ref q3, .ref q4, .ref q5, .ref q6, .ref q7, .ref q8, .int 0]) (t := .int) 4 clX6 fl_X6_40 dX6_init_77 (by decide) rfl rfl rfl rfl (Nat.le_of_ble_eq_true rfl) rfl ?_
  exact N_ret dX6_init_80 ⟨q1, q2, q3, q4, q5, q6, q7, q8, rfl⟩
def PX9_init (Z : gZ) (h0 : Nat) (w : va_W) : Prop := ∃ (q1 : Nat) (q2 : Nat) (q3 : Nat) (q5 : Nat) (q7 : Nat) (q9 : Nat) (q11 : Nat) (q13 : Nat) (q15 : Nat) (q17 : Nat) (w4 : va_W) (w6 : va_W) (w8 : va_W) (w10 : va_W) (w12 : va_W) (w14 : va_W) (w16 : va_W) (w18 : va_W), PX4_init Z q3  w4 ∧ PX4_init Z q5  w6 ∧ PX0_init Z q7 q3 w8 ∧ PX1_init Z q9 q5 w10 ∧ PX5_init Z q11 q7 w12 ∧ PX3_init Z q13 q7 w14 ∧ PX6_init Z q15 q7 w16 ∧ PX8_init Z q17  w18 ∧ w = (h0, .inr (9, [.ref q1, .int 0, .int (-1), .int 1, .ref q3, .ref q5, .ref q9, .ref q7, .ref q11, .ref q13, .ref q15, .ref q17, .ref q2])) :: ((((((((((([] : va_W) ++ [(q1, .inl (Z.2.2.1, 2000, .inl (fun _ => 0)))]) ++ [(q2, .inl (Z.2.2.1, 2079, .inl (fun _ => 0)))]) ++ w4) ++ w6) ++ w8) ++ w10) ++ w12) ++ w14) ++ w16) ++ w18)
set_option maxRecDepth 100000 in
set_option maxHeartbeats 4000000 in
theorem nX9_init (Z : gZ) (h0 : Nat) : n_met yX9_init jX9_init 9 d_X9 [] Z h0 (PX9_init Z h0) := by
  refine n_enter [(0, .ref h0)] (by decide) rfl rfl rfl (Nat.le_of_ble_eq_true rfl) rfl (fun X hz => ?_)
  subst hz
  refine N_aload_n 0 dX9_init_0 rfl rfl ?_
  refine N_obj oi_X9_3 oi_m oi_c dX9_init_1 ⟨by decide, by decide⟩ (Nat.le_of_ble_eq_true rfl) ?_
  refine N_aload_n 0 dX9_init_4 rfl rfl ?_
  refine N_sipush (v := 2000) dX9_init_5 (by decide) ?_
  refine N_newI (K := 2000) ac_int dX9_init_8 (by decide) (by decide) (by decide) ⟨by decide, by decide⟩ (fun q1 => ?_)
  refine N_putF (fs' := [.ref q1, .int 0, .int 0, .int 0, .null, .null, .null, .null, .null, .null, .null, .null, .null]) (t := .array .int) 0 clX9 fl_X9_9 dX9_init_10 (by decide) rfl rfl rfl rfl rfl (Nat.le_of_ble_eq_true rfl) rfl ?_
  refine N_aload_n 0 dX9_init_13 rfl rfl ?_
  refine N_sipush (v := 2079) dX9_init_14 (by decide) ?_
  refine N_newI (K := 2079) ac_int dX9_init_17 (by decide) (by decide) (by decide) ⟨by decide, by decide⟩ (fun q2 => ?_)
  refine N_putF (fs' := [.ref q1, .int 0, .int 0, .int 0, .null, .null, .null, .null, .null, .null, .null, .null, .ref q2]) (t := .array .int) 12 clX9 fl_X9_13 dX9_init_19 (by decide) rfl rfl rfl rfl rfl (Nat.le_of_ble_eq_true rfl) rfl ?_
  refine N_new (fs2 := d_X4) clX4 ckl_X9_16 ins_X4 in_X4 dX9_init_22 df_X4 ⟨by decide, by decide⟩ (fun q3 => ?_)
  refine N_dup dX9_init_25 rfl ?_
  refine N_call (av := []) (rest := [.ref q3]) (nX4_init (xZ X) q3 ) mi_X9_18 rfl dX9_init_26 rfl rfl (Nat.le_of_ble_eq_true rfl) (by decide) (fun w4 hw4 => ?_)
  refine N_astore_n (lv' := [(1, .ref q3), (0, .ref h0)]) dX9_init_29 rfl (by decide) rfl ?_
  refine N_new (fs2 := d_X4) clX4 ckl_X9_16 ins_X4 in_X4 dX9_init_30 df_X4 ⟨by decide, by decide⟩ (fun q5 => ?_)
  refine N_dup dX9_init_33 rfl ?_
  refine N_call (av := []) (rest := [.ref q5]) (nX4_init (xZ X) q5 ) mi_X9_18 rfl dX9_init_34 rfl rfl (Nat.le_of_ble_eq_true rfl) (by decide) (fun w6 hw6 => ?_)
  refine N_astore_n (lv' := [(2, .ref q5), (1, .ref q3), (0, .ref h0)]) dX9_init_37 rfl (by decide) rfl ?_
  refine N_new (fs2 := d_X0) clX0 ckl_X9_19 ins_X0 in_X0 dX9_init_38 df_X0 ⟨by decide, by decide⟩ (fun q7 => ?_)
  refine N_dup dX9_init_41 rfl ?_
  refine N_aload_n 1 dX9_init_42 rfl rfl ?_
  refine N_call (av := [.ref q3]) (rest := [.ref q7]) (nX0_init (xZ X) q7 q3) mi_X9_21 rfl dX9_init_43 rfl rfl (Nat.le_of_ble_eq_true rfl) (by decide) (fun w8 hw8 => ?_)
  refine N_astore_n (lv' := [(3, .ref q7), (2, .ref q5), (1, .ref q3), (0, .ref h0)]) dX9_init_46 rfl (by decide) rfl ?_
  refine N_aload_n 3 dX9_init_47 rfl rfl ?_
  refine N_iconst (v := -1) dX9_init_48 (by decide) ?_
  refine N_put (fs' := [.ref q1, .int 0, .int (-1), .int 0, .null, .null, .null, .null, .null, .null, .null, .null, .ref q2]) (t := .int) 2 clX9 fl_X9_24 dX9_init_49 (by decide) rfl rfl rfl rfl (Nat.le_of_ble_eq_true rfl) rfl ?_
  refine N_aload_n 3 dX9_init_52 rfl rfl ?_
  refine N_iconst (v := 1) dX9_init_53 (by decide) ?_
  refine N_put (fs' := [.ref q1, .int 0, .int (-1), .int 1, .null, .null, .null, .null, .null, .null, .null, .null, .ref q2]) (t := .int) 3 clX9 fl_X9_28 dX9_init_54 (by decide) rfl rfl rfl rfl (Nat.le_of_ble_eq_true rfl) rfl ?_
  refine N_aload_n 3 dX9_init_57 rfl rfl ?_
  refine N_aload_n 2 dX9_init_58 rfl rfl ?_
  refine N_put (fs' := [.ref q1, .int 0, .int (-1), .int 1, .ref q3, .null, .null, .null, .null, .null, .null, .null, .ref q2]) (t := .object "RopeSchool$Rope") 4 clX9 fl_X9_31 dX9_init_59 (by decide) rfl rfl rfl rfl (Nat.le_of_ble_eq_true rfl) rfl ?_
  refine N_aload_n 3 dX9_init_62 rfl rfl ?_
  refine N_aload_n 1 dX9_init_63 rfl rfl ?_
  refine N_put (fs' := [.ref q1, .int 0, .int (-1), .int 1, .ref q3, .ref q5, .null, .null, .null, .null, .null, .null, .ref q2]) (t := .object "RopeSchool$Rope") 5 clX9 fl_X9_35 dX9_init_64 (by decide) rfl rfl rfl rfl (Nat.le_of_ble_eq_true rfl) rfl ?_
  refine N_aload_n 3 dX9_init_67 rfl rfl ?_
  refine N_new (fs2 := d_X1) clX1 ckl_X9_38 ins_X1 in_X1 dX9_init_68 df_X1 ⟨by decide, by decide⟩ (fun q9 => ?_)
  refine N_dup dX9_init_71 rfl ?_
  refine N_aload_n 1 dX9_init_72 rfl rfl ?_
  refine N_call (av := [.ref q5]) (rest := [.ref q9, .ref h0]) (nX1_init (xZ X) q9 q5) mi_X9_40 rfl dX9_init_73 rfl rfl (Nat.le_of_ble_eq_true rfl) (by decide) (fun w10 hw10 => ?_)
  refine N_putF (fs' := [.ref q1, .int 0, .int (-1), .int 1, .ref q3, .ref q5, .ref q9, .null, .null, .null, .null, .null, .ref q2]) (t := .object "RopeSchool$Parser") 6 clX9 fl_X9_41 dX9_init_76 (by decide) rfl rfl rfl rfl rfl (Nat.le_of_ble_eq_true rfl) rfl ?_
  refine N_aload_n 3 dX9_init_79 rfl rfl ?_
  refine N_aload_n 0 dX9_init_80 rfl rfl ?_
  refine N_putF (fs' := [.ref q1, .int 0, .int (-1), .int 1, .ref q3, .ref q5, .ref q9, .ref q7, .null, .null, .null, .null, .ref q2]) (t := .object "RopeSchool$Beats") 7 clX9 fl_X9_45 dX9_init_81 (by decide) rfl rfl rfl rfl rfl (Nat.le_of_ble_eq_true rfl) rfl ?_
  refine N_aload_n 3 dX9_init_84 rfl rfl ?_
  refine N_new (fs2 := d_X5) clX5 ckl_X9_49 ins_X5 in_X5 dX9_init_85 df_X5 ⟨by decide, by decide⟩ (fun q11 => ?_)
  refine N_dup dX9_init_88 rfl ?_
  refine N_aload_n 0 dX9_init_89 rfl rfl ?_
  refine N_call (av := [.ref q7]) (rest := [.ref q11, .ref h0]) (nX5_init (xZ X) q11 q7) mi_X9_51 rfl dX9_init_90 rfl rfl (Nat.le_of_ble_eq_true rfl) (by decide) (fun w12 hw12 => ?_)
  refine N_putF (fs' := [.ref q1, .int 0, .int (-1), .int 1, .ref q3, .ref q5, .ref q9, .ref q7, .ref q11, .null, .null, .null, .ref q2]) (t := .object "RopeSchool$Rounds") 8 clX9 fl_X9_54 dX9_init_93 (by decide) rfl rfl rfl rfl rfl (Nat.le_of_ble_eq_true rfl) rfl ?_
  refine N_aload_n 3 dX9_init_96 rfl rfl ?_
  refine N_new (fs2 := d_X3) clX3 ckl_X9_58 ins_X3 in_X3 dX9_init_97 df_X3 ⟨by decide, by decide⟩ (fun q13 => ?_)
  refine N_dup dX9_init_100 rfl ?_
  refine N_aload_n 0 dX9_init_101 rfl rfl ?_
  refine N_call (av := [.ref q7]) (rest := [.ref q13, .ref h0]) (nX3_init (xZ X) q13 q7) mi_X9_60 rfl dX9_init_102 rfl rfl (Nat.le_of_ble_eq_true rfl) (by decide) (fun w14 hw14 => ?_)
  refine N_putF (fs' := [.ref q1, .int 0, .int (-1), .int 1, .ref q3, .ref q5, .ref q9, .ref q7, .ref q11, .ref q13, .null, .null, .ref q2]) (t := .object "RopeSchool$Reflexes") 9 clX9 fl_X9_61 dX9_init_105 (by decide) rfl rfl rfl rfl rfl (Nat.le_of_ble_eq_true rfl) rfl ?_
  refine N_aload_n 3 dX9_init_108 rfl rfl ?_
  refine N_new (fs2 := d_X6) clX6 ckl_X9_65 ins_X6 in_X6 dX9_init_109 df_X6 ⟨by decide, by decide⟩ (fun q15 => ?_)
  refine N_dup dX9_init_112 rfl ?_
  refine N_aload_n 0 dX9_init_113 rfl rfl ?_
  refine N_call (av := [.ref q7]) (rest := [.ref q15, .ref h0]) (nX6_init (xZ X) q15 q7) mi_X9_67 rfl dX9_init_114 rfl rfl (Nat.le_of_ble_eq_true rfl) (by decide) (fun w16 hw16 => ?_)
  refine N_putF (fs' := [.ref q1, .int 0, .int (-1), .int 1, .ref q3, .ref q5, .ref q9, .ref q7, .ref q11, .ref q13, .ref q15, .null, .ref q2]) (t := .object "RopeSchool$Rows") 10 clX9 fl_X9_68 dX9_init_117 (by decide) rfl rfl rfl rfl rfl (Nat.le_of_ble_eq_true rfl) rfl ?_
  refine N_aload_n 3 dX9_init_120 rfl rfl ?_
  refine N_new (fs2 := d_X8) clX8 ckl_X9_72 ins_X8 in_X8 dX9_init_121 df_X8 ⟨by decide, by decide⟩ (fun q17 => ?_)
  refine N_dup dX9_init_124 rfl ?_
  refine N_call (av := []) (rest := [.ref q17, .ref h0]) (nX8_init (xZ X) q17 ) mi_X9_74 rfl dX9_init_125 rfl rfl (Nat.le_of_ble_eq_true rfl) (by decide) (fun w18 hw18 => ?_)
  refine N_putF (fs' := [.ref q1, .int 0, .int (-1), .int 1, .ref q3, .ref q5, .ref q9, .ref q7, .ref q11, .ref q13, .ref q15, .ref q17, .ref q2]) (t := .object "RopeSchool$Walk") 11 clX9 fl_X9_75 dX9_init_128 (by decide) rfl rfl rfl rfl rfl (Nat.le_of_ble_eq_true rfl) rfl ?_
  exact N_ret dX9_init_131 ⟨q1, q2, q3, q5, q7, q9, q11, q13, q15, q17, w4, w6, w8, w10, w12, w14, w16, w18, hw4, hw6, hw8, hw10, hw12, hw14, hw16, hw18, rfl⟩
