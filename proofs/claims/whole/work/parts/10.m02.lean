-- X3_stir
def f_X3_stir (a0 : Int32) (a1 : Int32) (M : gM) : Option (Int32 × gM) := (g_v (((a0 ^^^ a1) * (1103515245 : Int32)) + (12345 : Int32)) (fun y1 => (some ((y1 ^^^ ((y1.toUInt32 >>> ((15 : Int32).toUInt32 &&& Int32.toUInt32 31)).toInt32)), M))))
set_option maxRecDepth 100000 in
set_option maxHeartbeats 4000000 in
theorem ok_X3_stir (a0 : Int32) (a1 : Int32) (M : gM) : g_met Y1 yX3_stir jX3_stir g_ei (fun Z => [.int a0, .int a1]) M (f_X3_stir a0 a1 M) := by
  refine g_enter (fun Z => [(0, .int a0), (1, .int a1)]) (by decide) rfl (fun Z => Nat.le_of_ble_eq_true rfl) (fun Z => rfl) (fun X => ?_)
  rw [f_X3_stir]
  refine G_iload_n 0 dX3_stir_0 rfl rfl ?_
  refine G_iload_n 1 dX3_stir_1 rfl rfl ?_
  refine G_ixor dX3_stir_2 ?_
  refine G_ldc (v := 1103515245) ci_X3_138 dX3_stir_3 ?_
  refine G_imul dX3_stir_5 ?_
  refine G_sipush (v := 12345) dX3_stir_6 (by decide) ?_
  refine G_iadd dX3_stir_9 ?_
  refine G_vi (fun y1 => ?_)
  refine G_istore_n (lv' := [(2, .int y1), (0, .int a0), (1, .int a1)]) dX3_stir_10 rfl (by decide) rfl ?_
  refine G_iload_n 0 dX3_stir_11 rfl rfl ?_
  refine G_iload_n 0 dX3_stir_12 rfl rfl ?_
  refine G_bipush (v := 15) dX3_stir_13 (by decide) ?_
  refine G_iushr dX3_stir_15 ?_
  refine G_ixor dX3_stir_16 ?_
  exact G_iret rfl dX3_stir_17
-- X3_lot
def f_X3_lot (a0 : Int32) (a1 : Int32) (a2 : Int32) (M : gM) : Option (Int32 × gM) := (g_b (f_X3_stir a1 (3 : Int32) M) (fun r2 M1 => (g_b (f_X3_stir r2 a2 M1) (fun r4 M3 => (g_v ((r4.toUInt32 >>> ((1 : Int32).toUInt32 &&& Int32.toUInt32 31)).toInt32) (fun y5 => (if a0 ≤ 0 then (some ((0 : Int32), M3)) else (g_nz a0 (some ((y5 - y5 / a0 * a0), M3))))))))))
set_option maxRecDepth 100000 in
set_option maxHeartbeats 4000000 in
theorem ok_X3_lot (a0 : Int32) (a1 : Int32) (a2 : Int32) (M : gM) : g_met Y1 yX3_lot jX3_lot g_ei (fun Z => [.int a0, .int a1, .int a2]) M (f_X3_lot a0 a1 a2 M) := by
  refine g_enter (fun Z => [(0, .int a0), (1, .int a1), (2, .int a2)]) (by decide) rfl (fun Z => Nat.le_of_ble_eq_true rfl) (fun Z => rfl) (fun X => ?_)
  rw [f_X3_lot]
  refine G_iload_n 1 dX3_lot_0 rfl rfl ?_
  refine G_iconst (v := 3) dX3_lot_1 (by decide) ?_
  refine G_cSi (As := [.int a1, .int 3]) (rest := []) (ok_X3_stir a1 (3 : Int32) M) rfl ms_X3_134 dX3_lot_2 rfl rfl (Nat.le_of_ble_eq_true rfl) (g_fitN (by decide) (by decide)) (fun r2 M1 => ?_)
  refine G_iload_n 2 dX3_lot_5 rfl rfl ?_
  refine G_cSi (As := [.int r2, .int a2]) (rest := []) (ok_X3_stir r2 a2 M1) rfl ms_X3_134 dX3_lot_6 rfl rfl (Nat.le_of_ble_eq_true rfl) (g_fitN (by decide) (by decide)) (fun r4 M3 => ?_)
  refine G_iconst (v := 1) dX3_lot_9 (by decide) ?_
  refine G_iushr dX3_lot_10 ?_
  refine G_vi (fun y5 => ?_)
  refine G_istore_n (lv' := [(3, .int y5), (0, .int a0), (1, .int a1), (2, .int a2)]) dX3_lot_11 rfl (by decide) rfl ?_
  refine G_iload_n 1 dX3_lot_12 rfl rfl ?_
  refine G_if_le (tgt := 22) dX3_lot_13 (by decide) ?_ ?_
  · refine G_iconst (v := 0) dX3_lot_22 (by decide) ?_
    exact G_iret rfl dX3_lot_23
  · refine G_iload_n 0 dX3_lot_16 rfl rfl ?_
    refine G_iload_n 1 dX3_lot_17 rfl rfl ?_
    refine G_irem dX3_lot_18 ?_
    refine G_goto (tgt := 23) dX3_lot_19 (by decide) ?_
    exact G_iret rfl dX3_lot_23
-- X3_drillEnd
def f_X3_drillEnd_6 : Nat → Int32 → Int32 → Int32 → Int32 → gM → Option (Int32 × gM)
  | 0, _, _, _, _, _ => none
  | n + 1, x2, x3, x4, x5, M => (if x3 ≤ x5 then (some (x4, M)) else (if x4 < 0 then (some (x4, M)) else (g_or 3 12 (M.2.2 27 0) (fun t1 => (g_b (f_X4_isOver t1 x4 M) (fun r3 M2 => (if r3 then (some (x4, M2)) else (g_b (f_X0_least x4 M2) (fun r5 M4 => (g_b (f_X0_greatest x4 M4) (fun r7 M6 => (g_b (f_X3_lot ((r7 - r5) + (1 : Int32)) x2 x5 M6) (fun r9 M8 => (g_v (r5 + r9) (fun y10 => (g_b (f_X3_actIn x4 M8) (fun r12 M11 => (g_b (f_X3_behind x4 r12 y10 M11) (fun r14 M13 => (f_X3_drillEnd_6 n x2 x3 r14 (x5 + 1) M13))))))))))))))))))))
set_option maxRecDepth 100000 in
set_option maxHeartbeats 4000000 in
theorem o_X3_drillEnd_6 {X : gX} : ∀ (n : Nat) (x2 : Int32) (x3 : Int32) (x4 : Int32) (x5 : Int32) (M : gM), G Y1 jX3_drillEnd X (g_fin g_ei) 6 [(0, .ref (ad X 47)), (2, .int x2), (3, .int x3), (4, .int x4), (5, .int x5)] [] M (f_X3_drillEnd_6 n x2 x3 x4 x5 M) := by
  intro n
  induction n with
  | zero => intro x2 x3 x4 x5 M; exact G_none
  | succ n ih =>
    intro x2 x3 x4 x5 M
    rw [f_X3_drillEnd_6]
    refine G_iload 4 dX3_drillEnd_6 rfl ?_
    refine G_iload_n 2 dX3_drillEnd_8 rfl rfl ?_
    refine G_icmp_ge (tgt := 90) dX3_drillEnd_9 (by decide) ?_ ?_
    · refine G_iload 3 dX3_drillEnd_90 rfl ?_
      exact G_iret rfl dX3_drillEnd_92
    · refine G_iload 3 dX3_drillEnd_12 rfl ?_
      refine G_if_lt (tgt := 90) dX3_drillEnd_14 (by decide) ?_ ?_
      · refine G_iload 3 dX3_drillEnd_90 rfl ?_
        exact G_iret rfl dX3_drillEnd_92
      · refine G_aload_n 0 dX3_drillEnd_17 rfl rfl ?_
        refine G_get 0 clX3 (y1_47) fl_X3_40 dX3_drillEnd_18 (by decide) rfl rfl ?_
        refine G_getO 0 clX0 (y1_27) fl_X3_80 dX3_drillEnd_21 (by decide) rfl (by decide) (fun t1 ht1 => ?_)
        refine G_iload 3 dX3_drillEnd_24 rfl ?_
        refine G_cVb (As := [.int x4]) (rest := []) (ok_X4_isOver ht1 x4 M) rfl (ro_0 ht1) rfl mv_X3_84 dX3_drillEnd_26 rfl rfl (Nat.le_of_ble_eq_true rfl) (g_fitN (by decide) (by decide)) (fun r3 M2 => ?_)
        refine G_ifB_ne (tgt := 90) dX3_drillEnd_29 (by decide) ?_ ?_
        · refine G_iload 3 dX3_drillEnd_90 rfl ?_
          exact G_iret rfl dX3_drillEnd_92
        · refine G_aload_n 0 dX3_drillEnd_32 rfl rfl ?_
          refine G_get 0 clX3 (y1_47) fl_X3_40 dX3_drillEnd_33 (by decide) rfl rfl ?_
          refine G_iload 3 dX3_drillEnd_36 rfl ?_
          refine G_cVi (As := [.int x4]) (rest := []) (ok_X0_least x4 M2) rfl (y1_27) rfl mv_X3_93 dX3_drillEnd_38 rfl rfl (Nat.le_of_ble_eq_true rfl) (g_fitN (by decide) (by decide)) (fun r5 M4 => ?_)
          refine G_istore (lv' := [(6, .int r5), (0, .ref (ad X 47)), (2, .int x2), (3, .int x3), (4, .int x4), (5, .int x5)]) dX3_drillEnd_41 (by decide) rfl ?_
          refine G_iload 0 dX3_drillEnd_43 rfl ?_
          refine G_aload_n 1 dX3_drillEnd_45 rfl rfl ?_
          refine G_get 0 clX3 (y1_47) fl_X3_40 dX3_drillEnd_46 (by decide) rfl rfl ?_
          refine G_iload 4 dX3_drillEnd_49 rfl ?_
          refine G_cVi (As := [.int x4]) (rest := [.int r5]) (ok_X0_greatest x4 M4) rfl (y1_27) rfl mv_X3_90 dX3_drillEnd_51 rfl rfl (Nat.le_of_ble_eq_true rfl) (g_fitN (by decide) (by decide)) (fun r7 M6 => ?_)
          refine G_iload 0 dX3_drillEnd_54 rfl ?_
          refine G_isub dX3_drillEnd_56 ?_
          refine G_iconst (v := 1) dX3_drillEnd_57 (by decide) ?_
          refine G_iadd dX3_drillEnd_58 ?_
          refine G_iload_n 2 dX3_drillEnd_59 rfl rfl ?_
          refine G_iload 5 dX3_drillEnd_60 rfl ?_
          refine G_cSi (As := [.int ((r7 - r5) + (1 : Int32)), .int x2, .int x5]) (rest := [.int r5]) (ok_X3_lot ((r7 - r5) + (1 : Int32)) x2 x5 M6) rfl ms_X3_131 dX3_drillEnd_62 rfl rfl (Nat.le_of_ble_eq_true rfl) (g_fitN (by decide) (by decide)) (fun r9 M8 => ?_)
          refine G_iadd dX3_drillEnd_65 ?_
          refine G_vi (fun y10 => ?_)
          refine G_istore (lv' := [(7, .int y10), (6, .int r5), (0, .ref (ad X 47)), (2, .int x2), (3, .int x3), (4, .int x4), (5, .int x5)]) dX3_drillEnd_66 (by decide) rfl ?_
          refine G_aload_n 2 dX3_drillEnd_68 rfl rfl ?_
          refine G_iload 5 dX3_drillEnd_69 rfl ?_
          refine G_aload_n 2 dX3_drillEnd_71 rfl rfl ?_
          refine G_iload 5 dX3_drillEnd_72 rfl ?_
          refine G_cVi (As := [.int x4]) (rest := [.int x4, .ref (ad X 47)]) (ok_X3_actIn x4 M8) rfl (y1_47) rfl mv_X3_77 dX3_drillEnd_74 rfl rfl (Nat.le_of_ble_eq_true rfl) (g_fitN (by decide) (by decide)) (fun r12 M11 => ?_)
          refine G_iload 0 dX3_drillEnd_77 rfl ?_
          refine G_cVi (As := [.int x4, .int r12, .int y10]) (rest := []) (ok_X3_behind x4 r12 y10 M11) rfl (y1_47) rfl mv_X3_96 dX3_drillEnd_79 rfl rfl (Nat.le_of_ble_eq_true rfl) (g_fitN (by decide) (by decide)) (fun r14 M13 => ?_)
          refine G_istore (lv' := [(4, .int r14), (7, .int y10), (6, .int r5), (0, .ref (ad X 47)), (2, .int x2), (3, .int x3), (5, .int x5)]) dX3_drillEnd_82 (by decide) rfl ?_
          refine G_iinc (v := x5 + 1) (lv' := [(5, .int (x5 + 1)), (4, .int r14), (7, .int y10), (6, .int r5), (0, .ref (ad X 47)), (2, .int x2), (3, .int x3)]) 6 dX3_drillEnd_84 rfl rfl (by decide) rfl ?_
          refine G_goto (tgt := 6) dX3_drillEnd_87 (by decide) ?_
          exact G_sub [4, 5, 6, 1, 0] rfl (ih x2 x3 r14 (x5 + 1) M13)
def f_X3_drillEnd (a1 : Int32) (a2 : Int32) (a3 : Int32) (M : gM) : Option (Int32 × gM) := (f_X3_drillEnd_6 FU a2 a3 a1 (0 : Int32) M)
set_option maxRecDepth 100000 in
set_option maxHeartbeats 4000000 in
theorem ok_X3_drillEnd (a1 : Int32) (a2 : Int32) (a3 : Int32) (M : gM) : g_met Y1 yX3_drillEnd jX3_drillEnd g_ei (fun Z => [.ref (Z.2.1 47), .int a1, .int a2, .int a3]) M (f_X3_drillEnd a1 a2 a3 M) := by
  refine g_enter (fun Z => [(0, .ref (Z.2.1 47)), (1, .int a1), (2, .int a2), (3, .int a3)]) (by decide) rfl (fun Z => Nat.le_of_ble_eq_true rfl) (fun Z => rfl) (fun X => ?_)
  rw [f_X3_drillEnd]
  refine G_iload_n 1 dX3_drillEnd_0 rfl rfl ?_
  refine G_istore (lv' := [(4, .int a1), (0, .ref (ad X 47)), (1, .int a1), (2, .int a2), (3, .int a3)]) dX3_drillEnd_1 (by decide) rfl ?_
  refine G_iconst (v := 0) dX3_drillEnd_3 (by decide) ?_
  refine G_istore (lv' := [(5, .int 0), (4, .int a1), (0, .ref (ad X 47)), (1, .int a1), (2, .int a2), (3, .int a3)]) dX3_drillEnd_4 (by decide) rfl ?_
  exact G_sub [2, 4, 5, 1, 0] rfl (o_X3_drillEnd_6 FU a2 a3 a1 (0 : Int32) M)
-- X4_has
def f_X4_has (t : Nat) (a1 : Int32) (M : gM) : Option (Bool × gM) := (if a1 < 0 then (some (false, M)) else (if (2079 : Int32) ≤ a1 then (some (false, M)) else (g_b (f_X4_atOf a1 M) (fun r2 M1 => (g_b (f_X4_leanOf a1 M1) (fun r4 M3 => (g_b (f_X4_swingOf a1 M3) (fun r6 M5 => (g_b (f_X4_number t r2 r4 r6 M5) (fun r8 M7 => (if r8 = a1 then (some (true, M7)) else (some (false, M7)))))))))))))
set_option maxRecDepth 100000 in
set_option maxHeartbeats 4000000 in
theorem ok_X4_has {t : Nat} (ht : t = 3 ∨ t = 12) (a1 : Int32) (M : gM) : g_met Y1 yX4_has jX4_has g_eb (fun Z => [.ref (Z.2.1 t), .int a1]) M (f_X4_has t a1 M) := by
  refine g_enter (fun Z => [(0, .ref (Z.2.1 t)), (1, .int a1)]) (by decide) rfl (fun Z => Nat.le_of_ble_eq_true rfl) (fun Z => rfl) (fun X => ?_)
  rw [f_X4_has]
  refine G_iload_n 1 dX4_has_0 rfl rfl ?_
  refine G_if_lt (tgt := 35) dX4_has_1 (by decide) ?_ ?_
  · refine G_iconst (v := 0) dX4_has_35 (by decide) ?_
    exact G_zret (b := false) rfl dX4_has_36
  · refine G_iload_n 1 dX4_has_4 rfl rfl ?_
    refine G_sipush (v := 2079) dX4_has_5 (by decide) ?_
    refine G_icmp_ge (tgt := 35) dX4_has_8 (by decide) ?_ ?_
    · refine G_iconst (v := 0) dX4_has_35 (by decide) ?_
      exact G_zret (b := false) rfl dX4_has_36
    · refine G_aload_n 0 dX4_has_11 rfl rfl ?_
      refine G_iload_n 1 dX4_has_12 rfl rfl ?_
      refine G_cSi (As := [.int a1]) (rest := [.ref (ad X t)]) (ok_X4_atOf a1 M) rfl ms_X4_69 dX4_has_13 rfl rfl (Nat.le_of_ble_eq_true rfl) (g_fitN (by decide) (by decide)) (fun r2 M1 => ?_)
      refine G_iload_n 1 dX4_has_16 rfl rfl ?_
      refine G_cSi (As := [.int a1]) (rest := [.int r2, .ref (ad X t)]) (ok_X4_leanOf a1 M1) rfl ms_X4_73 dX4_has_17 rfl rfl (Nat.le_of_ble_eq_true rfl) (g_fitN (by decide) (by decide)) (fun r4 M3 => ?_)
      refine G_iload_n 1 dX4_has_20 rfl rfl ?_
      refine G_cSi (As := [.int a1]) (rest := [.int r4, .int r2, .ref (ad X t)]) (ok_X4_swingOf a1 M3) rfl ms_X4_76 dX4_has_21 rfl rfl (Nat.le_of_ble_eq_true rfl) (g_fitN (by decide) (by decide)) (fun r6 M5 => ?_)
      refine G_cVi (As := [.int r2, .int r4, .int r6]) (rest := []) (ok_X4_number ht r2 r4 r6 M5) rfl (ro_0 ht) rfl mv_X4_79 dX4_has_24 rfl rfl (Nat.le_of_ble_eq_true rfl) (g_fitN (by decide) (by decide)) (fun r8 M7 => ?_)
      refine G_iload_n 1 dX4_has_27 rfl rfl ?_
      refine G_icmp_ne (tgt := 35) dX4_has_28 (by decide) ?_ ?_
      · refine G_iconst (v := 0) dX4_has_35 (by decide) ?_
        exact G_zret (b := false) rfl dX4_has_36
      · refine G_iconst (v := 1) dX4_has_31 (by decide) ?_
        refine G_goto (tgt := 36) dX4_has_32 (by decide) ?_
        exact G_zret (b := true) rfl dX4_has_36
-- X5_dropText
def f_X5_dropText (M : gM) : Option (Unit × gM) := (g_m (sI M 37 13 (0 : Int32)) (fun M1 => (some ((), M1))))
set_option maxRecDepth 100000 in
set_option maxHeartbeats 4000000 in
theorem ok_X5_dropText (M : gM) : g_met Y1 yX5_dropText jX5_dropText g_ev (fun Z => [.ref (Z.2.1 37)]) M (f_X5_dropText M) := by
  refine g_enter (fun Z => [(0, .ref (Z.2.1 37))]) (by decide) rfl (fun Z => Nat.le_of_ble_eq_true rfl) (fun Z => rfl) (fun X => ?_)
  rw [f_X5_dropText]
  refine G_aload_n 0 dX5_dropText_0 rfl rfl ?_
  refine G_iconst (v := 0) dX5_dropText_1 (by decide) ?_
  refine G_putI 13 clX5 (y1_37) fl_X5_47 dX5_dropText_2 (by decide) rfl rfl rfl ?_
  refine G_m (fun M1 => ?_)
  exact G_vret rfl dX5_dropText_5
-- X5_dropPole
def f_X5_dropPole (M : gM) : Option (Unit × gM) := (g_m (sI M 37 10 (0 : Int32)) (fun M1 => (g_m (sI M1 37 11 (0 : Int32)) (fun M2 => (g_m (sI M2 37 12 ((-1) : Int32)) (fun M3 => (some ((), M3))))))))
set_option maxRecDepth 100000 in
set_option maxHeartbeats 4000000 in
theorem ok_X5_dropPole (M : gM) : g_met Y1 yX5_dropPole jX5_dropPole g_ev (fun Z => [.ref (Z.2.1 37)]) M (f_X5_dropPole M) := by
  refine g_enter (fun Z => [(0, .ref (Z.2.1 37))]) (by decide) rfl (fun Z => Nat.le_of_ble_eq_true rfl) (fun Z => rfl) (fun X => ?_)
  rw [f_X5_dropPole]
  refine G_aload_n 0 dX5_dropPole_0 rfl rfl ?_
  refine G_iconst (v := 0) dX5_dropPole_1 (by decide) ?_
  refine G_putZ 10 clX5 (y1_37) fl_X5_50 dX5_dropPole_2 (by decide) rfl rfl rfl ⟨rfl, rfl⟩ ?_
  refine G_m (fun M1 => ?_)
  refine G_aload_n 0 dX5_dropPole_5 rfl rfl ?_
  refine G_iconst (v := 0) dX5_dropPole_6 (by decide) ?_
  refine G_putZ 11 clX5 (y1_37) fl_X5_54 dX5_dropPole_7 (by decide) rfl rfl rfl ⟨rfl, rfl⟩ ?_
  refine G_m (fun M2 => ?_)
  refine G_aload_n 0 dX5_dropPole_10 rfl rfl ?_
  refine G_iconst (v := (-1)) dX5_dropPole_11 (by decide) ?_
  refine G_putI 12 clX5 (y1_37) fl_X5_43 dX5_dropPole_12 (by decide) rfl rfl rfl ?_
  refine G_m (fun M3 => ?_)
  exact G_vret rfl dX5_dropPole_15
-- X5_leadsWell
def f_X5_leadsWell_4 (a1 : Nat) : Nat → Int32 → Int32 → Int32 → Int32 → Int32 → gM → Option (Bool × gM)
  | 0, _, _, _, _, _, _ => none
  | n + 1, x2, x3, x4, x6, x7, M => (if x6 < x7 then (some (true, M)) else (g_b (f_X0_after x3 x4 x7 M) (fun r2 M1 => (if r2 < 0 then (some (false, M1)) else (if (2079 : Int32) ≤ r2 then (some (false, M1)) else (g_ck r2 2079 (if x2 ≤ (M1.1 a1 (tn r2)) then (f_X5_leadsWell_4 a1 n x2 x3 x4 x6 (x7 + 1) M1) else (some (false, M1)))))))))
set_option maxRecDepth 100000 in
set_option maxHeartbeats 4000000 in
theorem o_X5_leadsWell_4 {X : gX} {a1 : Nat} (ha1 : Y1[a1]? = some (1, 2079, [])) : ∀ (n : Nat) (x2 : Int32) (x3 : Int32) (x4 : Int32) (x6 : Int32) (x7 : Int32) (M : gM), G Y1 jX5_leadsWell X (g_fin g_eb) 4 [(0, .ref (ad X 37)), (1, .ref (ad X a1)), (2, .int x2), (3, .int x3), (4, .int x4), (6, .int x6), (7, .int x7)] [] M (f_X5_leadsWell_4 a1 n x2 x3 x4 x6 x7 M) := by
  intro n
  induction n with
  | zero => intro x2 x3 x4 x6 x7 M; exact G_none
  | succ n ih =>
    intro x2 x3 x4 x6 x7 M
    rw [f_X5_leadsWell_4]
    refine G_iload 6 dX5_leadsWell_4 rfl ?_
    refine G_iload 5 dX5_leadsWell_6 rfl ?_
    refine G_icmp_gt (tgt := 53) dX5_leadsWell_8 (by decide) ?_ ?_
    · refine G_iconst (v := 1) dX5_leadsWell_53 (by decide) ?_
      exact G_zret (b := true) rfl dX5_leadsWell_54
    · refine G_aload_n 0 dX5_leadsWell_11 rfl rfl ?_
      refine G_get 0 clX5 (y1_37) fl_X5_39 dX5_leadsWell_12 (by decide) rfl rfl ?_
      refine G_iload_n 3 dX5_leadsWell_15 rfl rfl ?_
      refine G_iload 4 dX5_leadsWell_16 rfl ?_
      refine G_iload 6 dX5_leadsWell_18 rfl ?_
      refine G_cVi (As := [.int x3, .int x4, .int x7]) (rest := []) (ok_X0_after x3 x4 x7 M) rfl (y1_27) rfl mv_X5_87 dX5_leadsWell_20 rfl rfl (Nat.le_of_ble_eq_true rfl) (g_fitN (by decide) (by decide)) (fun r2 M1 => ?_)
      refine G_istore (lv' := [(8, .int r2), (0, .ref (ad X 37)), (1, .ref (ad X a1)), (2, .int x2), (3, .int x3), (4, .int x4), (6, .int x6), (7, .int x7)]) dX5_leadsWell_23 (by decide) rfl ?_
      refine G_iload 0 dX5_leadsWell_25 rfl ?_
      refine G_if_lt (tgt := 45) dX5_leadsWell_27 (by decide) ?_ ?_
      · refine G_iconst (v := 0) dX5_leadsWell_45 (by decide) ?_
        exact G_zret (b := false) rfl dX5_leadsWell_46
      · refine G_iload 0 dX5_leadsWell_30 rfl ?_
        refine G_aload_n 2 dX5_leadsWell_32 rfl rfl ?_
        refine G_alen (v := 2079) (ha1) rfl dX5_leadsWell_33 ?_
        refine G_icmp_ge (tgt := 45) dX5_leadsWell_34 (by decide) ?_ ?_
        · refine G_iconst (v := 0) dX5_leadsWell_45 (by decide) ?_
          exact G_zret (b := false) rfl dX5_leadsWell_46
        · refine G_aload_n 2 dX5_leadsWell_37 rfl rfl ?_
          refine G_iload 0 dX5_leadsWell_38 rfl ?_
          refine G_iald (ha1) dX5_leadsWell_40 ?_
          refine G_iload_n 3 dX5_leadsWell_41 rfl rfl ?_
          refine G_icmp_ge (tgt := 47) dX5_leadsWell_42 (by decide) ?_ ?_
          · refine G_iinc (v := x7 + 1) (lv' := [(7, .int (x7 + 1)), (8, .int r2), (0, .ref (ad X 37)), (1, .ref (ad X a1)), (2, .int x2), (3, .int x3), (4, .int x4), (6, .int x6)]) 7 dX5_leadsWell_47 rfl rfl (by decide) rfl ?_
            refine G_goto (tgt := 4) dX5_leadsWell_50 (by decide) ?_
            exact G_sub [2, 3, 4, 5, 6, 7, 0] rfl (ih x2 x3 x4 x6 (x7 + 1) M1)
          · refine G_iconst (v := 0) dX5_leadsWell_45 (by decide) ?_
            exact G_zret (b := false) rfl dX5_leadsWell_46
def f_X5_leadsWell (a1 : Nat) (a2 : Int32) (a3 : Int32) (a4 : Int32) (a5 : Int32) (a6 : Int32) (M : gM) : Option (Bool × gM) := (f_X5_leadsWell_4 a1 FU a2 a3 a4 a6 a5 M)
set_option maxRecDepth 100000 in
set_option maxHeartbeats 4000000 in
theorem ok_X5_leadsWell {a1 : Nat} (ha1 : Y1[a1]? = some (1, 2079, [])) (a2 : Int32) (a3 : Int32) (a4 : Int32) (a5 : Int32) (a6 : Int32) (M : gM) : g_met Y1 yX5_leadsWell jX5_leadsWell g_eb (fun Z => [.ref (Z.2.1 37), .ref (Z.2.1 a1), .int a2, .int a3, .int a4, .int a5, .int a6]) M (f_X5_leadsWell a1 a2 a3 a4 a5 a6 M) := by
  refine g_enter (fun Z => [(0, .ref (Z.2.1 37)), (1, .ref (Z.2.1 a1)), (2, .int a2), (3, .int a3), (4, .int a4), (5, .int a5), (6, .int a6)]) (by decide) rfl (fun Z => Nat.le_of_ble_eq_true rfl) (fun Z => rfl) (fun X => ?_)
  rw [f_X5_leadsWell]
  refine G_iload 5 dX5_leadsWell_0 rfl ?_
  refine G_istore (lv' := [(7, .int a5), (0, .ref (ad X 37)), (1, .ref (ad X a1)), (2, .int a2), (3, .int a3), (4, .int a4), (5, .int a5), (6, .int a6)]) dX5_leadsWell_2 (by decide) rfl ?_
  exact G_sub [1, 2, 3, 4, 5, 7, 0] rfl (o_X5_leadsWell_4 ha1 FU a2 a3 a4 a6 a5 M)
-- X5_isSafeAct
def f_X5_isSafeAct (a1 : Int32) (a2 : Int32) (M : gM) : Option (Bool × gM) := (g_b (f_X0_least a1 M) (fun r2 M1 => (g_b (f_X0_greatest a1 M1) (fun r4 M3 => (g_b (f_X5_leadsWell 38 (1048576 : Int32) a1 a2 r2 r4 M3) (fun r6 M5 => (some (r6, M5))))))))
set_option maxRecDepth 100000 in
set_option maxHeartbeats 4000000 in
theorem ok_X5_isSafeAct (a1 : Int32) (a2 : Int32) (M : gM) : g_met Y1 yX5_isSafeAct jX5_isSafeAct g_eb (fun Z => [.ref (Z.2.1 37), .int a1, .int a2]) M (f_X5_isSafeAct a1 a2 M) := by
  refine g_enter (fun Z => [(0, .ref (Z.2.1 37)), (1, .int a1), (2, .int a2)]) (by decide) rfl (fun Z => Nat.le_of_ble_eq_true rfl) (fun Z => rfl) (fun X => ?_)
  rw [f_X5_isSafeAct]
  refine G_aload_n 0 dX5_isSafeAct_0 rfl rfl ?_
  refine G_aload_n 0 dX5_isSafeAct_1 rfl rfl ?_
  refine G_get 1 clX5 (y1_37) fl_X5_9 dX5_isSafeAct_2 (by decide) rfl rfl ?_
  refine G_ldc (v := 1048576) ci_X5_57 dX5_isSafeAct_5 ?_
  refine G_iload_n 1 dX5_isSafeAct_7 rfl rfl ?_
  refine G_iload_n 2 dX5_isSafeAct_8 rfl rfl ?_
  refine G_aload_n 0 dX5_isSafeAct_9 rfl rfl ?_
  refine G_get 0 clX5 (y1_37) fl_X5_39 dX5_isSafeAct_10 (by decide) rfl rfl ?_
  refine G_iload_n 1 dX5_isSafeAct_13 rfl rfl ?_
  refine G_cVi (As := [.int a1]) (rest := [.int a2, .int a1, .int 1048576, .ref (ad X 38), .ref (ad X 37)]) (ok_X0_least a1 M) rfl (y1_27) rfl mv_X5_58 dX5_isSafeAct_14 rfl rfl (Nat.le_of_ble_eq_true rfl) (g_fitN (by decide) (by decide)) (fun r2 M1 => ?_)
  refine G_aload_n 0 dX5_isSafeAct_17 rfl rfl ?_
  refine G_get 0 clX5 (y1_37) fl_X5_39 dX5_isSafeAct_18 (by decide) rfl rfl ?_
  refine G_iload_n 1 dX5_isSafeAct_21 rfl rfl ?_
  refine G_cVi (As := [.int a1]) (rest := [.int r2, .int a2, .int a1, .int 1048576, .ref (ad X 38), .ref (ad X 37)]) (ok_X0_greatest a1 M1) rfl (y1_27) rfl mv_X5_64 dX5_isSafeAct_22 rfl rfl (Nat.le_of_ble_eq_true rfl) (g_fitN (by decide) (by decide)) (fun r4 M3 => ?_)
  refine G_cVb (As := [.ref (ad X 38), .int 1048576, .int a1, .int a2, .int r2, .int r4]) (rest := []) (ok_X5_leadsWell (y1_38) (1048576 : Int32) a1 a2 r2 r4 M3) rfl (y1_37) rfl mv_X5_67 dX5_isSafeAct_25 rfl rfl (Nat.le_of_ble_eq_true rfl) (g_fitN (by decide) (by decide)) (fun r6 M5 => ?_)
  exact G_zret rfl dX5_isSafeAct_28
-- X5_safeAmong
def f_X5_safeAmong_5 : Nat → Int32 → Int32 → Int32 → gM → Option (Int32 × gM)
  | 0, _, _, _, _ => none
  | n + 1, x2, x3, x4, M => (if x2 ≤ x4 then (some (x3, M)) else (g_b (f_X5_isSafe x4 M) (fun r2 M1 => (if r2 then (g_v (x3 + (1 : Int32)) (fun y4 => (f_X5_safeAmong_5 n x2 y4 (x4 + 1) M1))) else (g_v (x3 + (0 : Int32)) (fun y3 => (f_X5_safeAmong_5 n x2 y3 (x4 + 1) M1)))))))
set_option maxRecDepth 100000 in
set_option maxHeartbeats 4000000 in
theorem o_X5_safeAmong_5 {X : gX} : ∀ (n : Nat) (x2 : Int32) (x3 : Int32) (x4 : Int32) (M : gM), G Y1 jX5_safeAmong X (g_fin g_ei) 5 [(0, .ref (ad X 37)), (2, .int x2), (3, .int x3), (4, .int x4)] [] M (f_X5_safeAmong_5 n x2 x3 x4 M) := by
  intro n
  induction n with
  | zero => intro x2 x3 x4 M; exact G_none
  | succ n ih =>
    intro x2 x3 x4 M
    rw [f_X5_safeAmong_5]
    refine G_iload 3 dX5_safeAmong_5 rfl ?_
    refine G_iload_n 1 dX5_safeAmong_7 rfl rfl ?_
    refine G_icmp_ge (tgt := 34) dX5_safeAmong_8 (by decide) ?_ ?_
    · refine G_iload_n 2 dX5_safeAmong_34 rfl rfl ?_
      exact G_iret rfl dX5_safeAmong_35
    · refine G_iload_n 2 dX5_safeAmong_11 rfl rfl ?_
      refine G_aload_n 0 dX5_safeAmong_12 rfl rfl ?_
      refine G_iload 3 dX5_safeAmong_13 rfl ?_
      refine G_cVb (As := [.int x4]) (rest := [.int x3]) (ok_X5_isSafe x4 M) rfl (y1_37) rfl mv_X5_71 dX5_safeAmong_15 rfl rfl (Nat.le_of_ble_eq_true rfl) (g_fitN (by decide) (by decide)) (fun r2 M1 => ?_)
      refine G_ifB_eq (tgt := 25) dX5_safeAmong_18 (by decide) ?_ ?_
      · refine G_iconst (v := 0) dX5_safeAmong_25 (by decide) ?_
        refine G_iadd dX5_safeAmong_26 ?_
        refine G_vi (fun y3 => ?_)
        refine G_istore_n (lv' := [(3, .int y3), (0, .ref (ad X 37)), (2, .int x2), (4, .int x4)]) dX5_safeAmong_27 rfl (by decide) rfl ?_
        refine G_iinc (v := x4 + 1) (lv' := [(4, .int (x4 + 1)), (3, .int y3), (0, .ref (ad X 37)), (2, .int x2)]) 3 dX5_safeAmong_28 rfl rfl (by decide) rfl ?_
        refine G_goto (tgt := 5) dX5_safeAmong_31 (by decide) ?_
        exact G_sub [2, 3, 1, 0] rfl (ih x2 y3 (x4 + 1) M1)
      · refine G_iconst (v := 1) dX5_safeAmong_21 (by decide) ?_
        refine G_goto (tgt := 26) dX5_safeAmong_22 (by decide) ?_
        refine G_iadd dX5_safeAmong_26 ?_
        refine G_vi (fun y4 => ?_)
        refine G_istore_n (lv' := [(3, .int y4), (0, .ref (ad X 37)), (2, .int x2), (4, .int x4)]) dX5_safeAmong_27 rfl (by decide) rfl ?_
        refine G_iinc (v := x4 + 1) (lv' := [(4, .int (x4 + 1)), (3, .int y4), (0, .ref (ad X 37)), (2, .int x2)]) 3 dX5_safeAmong_28 rfl rfl (by decide) rfl ?_
        refine G_goto (tgt := 5) dX5_safeAmong_31 (by decide) ?_
        exact G_sub [2, 3, 1, 0] rfl (ih x2 y4 (x4 + 1) M1)
def f_X5_safeAmong (a1 : Int32) (a2 : Int32) (M : gM) : Option (Int32 × gM) := (f_X5_safeAmong_5 FU a2 (0 : Int32) a1 M)
set_option maxRecDepth 100000 in
set_option maxHeartbeats 4000000 in
theorem ok_X5_safeAmong (a1 : Int32) (a2 : Int32) (M : gM) : g_met Y1 yX5_safeAmong jX5_safeAmong g_ei (fun Z => [.ref (Z.2.1 37), .int a1, .int a2]) M (f_X5_safeAmong a1 a2 M) := by
  refine g_enter (fun Z => [(0, .ref (Z.2.1 37)), (1, .int a1), (2, .int a2)]) (by decide) rfl (fun Z => Nat.le_of_ble_eq_true rfl) (fun Z => rfl) (fun X => ?_)
  rw [f_X5_safeAmong]
  refine G_iconst (v := 0) dX5_safeAmong_0 (by decide) ?_
  refine G_istore_n (lv' := [(3, .int 0), (0, .ref (ad X 37)), (1, .int a1), (2, .int a2)]) dX5_safeAmong_1 rfl (by decide) rfl ?_
  refine G_iload_n 2 dX5_safeAmong_2 rfl rfl ?_
  refine G_istore (lv' := [(4, .int a1), (3, .int 0), (0, .ref (ad X 37)), (1, .int a1), (2, .int a2)]) dX5_safeAmong_3 (by decide) rfl ?_
  exact G_sub [2, 4, 1, 0] rfl (o_X5_safeAmong_5 FU a2 (0 : Int32) a1 M)
-- X5_greatestDoom
def f_X5_greatestDoom_4 : Nat → Int32 → Int32 → gM → Option (Int32 × gM)
  | 0, _, _, _ => none
  | n + 1, x1, x2, M => (if (2079 : Int32) ≤ x2 then (some (x1, M)) else (g_ck x2 2079 (if (M.1 38 (tn x2)) = (1048576 : Int32) then (f_X5_greatestDoom_4 n x1 (x2 + 1) M) else (g_ck x2 2079 (if (M.1 38 (tn x2)) ≤ x1 then (f_X5_greatestDoom_4 n x1 (x2 + 1) M) else (g_ck x2 2079 (g_v (M.1 38 (tn x2)) (fun y1 => (f_X5_greatestDoom_4 n y1 (x2 + 1) M)))))))))
set_option maxRecDepth 100000 in
set_option maxHeartbeats 4000000 in
theorem o_X5_greatestDoom_4 {X : gX} : ∀ (n : Nat) (x1 : Int32) (x2 : Int32) (M : gM), G Y1 jX5_greatestDoom X (g_fin g_ei) 4 [(0, .ref (ad X 37)), (1, .int x1), (2, .int x2)] [] M (f_X5_greatestDoom_4 n x1 x2 M) := by
  intro n
  induction n with
  | zero => intro x1 x2 M; exact G_none
  | succ n ih =>
    intro x1 x2 M
    rw [f_X5_greatestDoom_4]
    refine G_iload_n 2 dX5_greatestDoom_4 rfl rfl ?_
    refine G_sipush (v := 2079) dX5_greatestDoom_5 (by decide) ?_
    refine G_icmp_ge (tgt := 45) dX5_greatestDoom_8 (by decide) ?_ ?_
    · refine G_iload_n 1 dX5_greatestDoom_45 rfl rfl ?_
      exact G_iret rfl dX5_greatestDoom_46
    · refine G_aload_n 0 dX5_greatestDoom_11 rfl rfl ?_
      refine G_get 1 clX5 (y1_37) fl_X5_9 dX5_greatestDoom_12 (by decide) rfl rfl ?_
      refine G_iload_n 2 dX5_greatestDoom_15 rfl rfl ?_
      refine G_iald (y1_38) dX5_greatestDoom_16 ?_
      refine G_ldc (v := 1048576) ci_X5_57 dX5_greatestDoom_17 ?_
      refine G_icmp_eq (tgt := 39) dX5_greatestDoom_19 (by decide) ?_ ?_
      · refine G_iinc (v := x2 + 1) (lv' := [(2, .int (x2 + 1)), (0, .ref (ad X 37)), (1, .int x1)]) 2 dX5_greatestDoom_39 rfl rfl (by decide) rfl ?_
        refine G_goto (tgt := 4) dX5_greatestDoom_42 (by decide) ?_
        exact G_sub [1, 2, 0] rfl (ih x1 (x2 + 1) M)
      · refine G_aload_n 0 dX5_greatestDoom_22 rfl rfl ?_
        refine G_get 1 clX5 (y1_37) fl_X5_9 dX5_greatestDoom_23 (by decide) rfl rfl ?_
        refine G_iload_n 2 dX5_greatestDoom_26 rfl rfl ?_
        refine G_iald (y1_38) dX5_greatestDoom_27 ?_
        refine G_iload_n 1 dX5_greatestDoom_28 rfl rfl ?_
        refine G_icmp_le (tgt := 39) dX5_greatestDoom_29 (by decide) ?_ ?_
        · refine G_iinc (v := x2 + 1) (lv' := [(2, .int (x2 + 1)), (0, .ref (ad X 37)), (1, .int x1)]) 2 dX5_greatestDoom_39 rfl rfl (by decide) rfl ?_
          refine G_goto (tgt := 4) dX5_greatestDoom_42 (by decide) ?_
          exact G_sub [1, 2, 0] rfl (ih x1 (x2 + 1) M)
        · refine G_aload_n 0 dX5_greatestDoom_32 rfl rfl ?_
          refine G_get 1 clX5 (y1_37) fl_X5_9 dX5_greatestDoom_33 (by decide) rfl rfl ?_
          refine G_iload_n 2 dX5_greatestDoom_36 rfl rfl ?_
          refine G_iald (y1_38) dX5_greatestDoom_37 ?_
          refine G_vi (fun y1 => ?_)
          refine G_istore_n (lv' := [(1, .int y1), (0, .ref (ad X 37)), (2, .int x2)]) dX5_greatestDoom_38 rfl (by decide) rfl ?_
          refine G_iinc (v := x2 + 1) (lv' := [(2, .int (x2 + 1)), (1, .int y1), (0, .ref (ad X 37))]) 2 dX5_greatestDoom_39 rfl rfl (by decide) rfl ?_
          refine G_goto (tgt := 4) dX5_greatestDoom_42 (by decide) ?_
          exact G_sub [2, 1, 0] rfl (ih y1 (x2 + 1) M)
def f_X5_greatestDoom (M : gM) : Option (Int32 × gM) := (f_X5_greatestDoom_4 FU ((-1) : Int32) (0 : Int32) M)
set_option maxRecDepth 100000 in
set_option maxHeartbeats 4000000 in
theorem ok_X5_greatestDoom (M : gM) : g_met Y1 yX5_greatestDoom jX5_greatestDoom g_ei (fun Z => [.ref (Z.2.1 37)]) M (f_X5_greatestDoom M) := by
  refine g_enter (fun Z => [(0, .ref (Z.2.1 37))]) (by decide) rfl (fun Z => Nat.le_of_ble_eq_true rfl) (fun Z => rfl) (fun X => ?_)
  rw [f_X5_greatestDoom]
  refine G_iconst (v := (-1)) dX5_greatestDoom_0 (by decide) ?_
  refine G_istore_n (lv' := [(1, .int (-1)), (0, .ref (ad X 37))]) dX5_greatestDoom_1 rfl (by decide) rfl ?_
  refine G_iconst (v := 0) dX5_greatestDoom_2 (by decide) ?_
  refine G_istore_n (lv' := [(2, .int 0), (1, .int (-1)), (0, .ref (ad X 37))]) dX5_greatestDoom_3 rfl (by decide) rfl ?_
  exact G_sub [2, 1, 0] rfl (o_X5_greatestDoom_4 FU ((-1) : Int32) (0 : Int32) M)
-- X5_listOpen
def f_X5_listOpen_4 : Nat → Int32 → Int32 → gM → Option (Int32 × gM)
  | 0, _, _, _ => none
  | n + 1, x1, x2, M => (g_or 3 12 (M.2.2 27 0) (fun t1 => (if ((M.1 t1 0) * (231 : Int32)) ≤ x2 then (some (x1, M)) else (if (2079 : Int32) ≤ x2 then (some (x1, M)) else (g_or 3 12 (M.2.2 27 0) (fun t2 => (g_b (f_X4_has t2 x2 M) (fun r4 M3 => (if r4 then (g_ck x1 2079 (g_m (sI M3 46 (tn x1) x2) (fun M5 => (f_X5_listOpen_4 n (x1 + 1) (x2 + 1) M5)))) else (f_X5_listOpen_4 n x1 (x2 + 1) M3))))))))))
set_option maxRecDepth 100000 in
set_option maxHeartbeats 4000000 in
theorem o_X5_listOpen_4 {X : gX} : ∀ (n : Nat) (x1 : Int32) (x2 : Int32) (M : gM), G Y1 jX5_listOpen X (g_fin g_ei) 4 [(0, .ref (ad X 37)), (1, .int x1), (2, .int x2)] [] M (f_X5_listOpen_4 n x1 x2 M) := by
  intro n
  induction n with
  | zero => intro x1 x2 M; exact G_none
  | succ n ih =>
    intro x1 x2 M
    rw [f_X5_listOpen_4]
    refine G_iload_n 2 dX5_listOpen_4 rfl rfl ?_
    refine G_aload_n 0 dX5_listOpen_5 rfl rfl ?_
    refine G_get 0 clX5 (y1_37) fl_X5_39 dX5_listOpen_6 (by decide) rfl rfl ?_
    refine G_getO 0 clX0 (y1_27) fl_X5_75 dX5_listOpen_9 (by decide) rfl (by decide) (fun t1 ht1 => ?_)
    refine G_get 0 clX4 (ro_0 ht1) fl_X5_79 dX5_listOpen_12 (by decide) rfl rfl ?_
    refine G_sipush (v := 231) dX5_listOpen_15 (by decide) ?_
    refine G_imul dX5_listOpen_18 ?_
    refine G_icmp_ge (tgt := 59) dX5_listOpen_19 (by decide) ?_ ?_
    · refine G_iload_n 1 dX5_listOpen_59 rfl rfl ?_
      exact G_iret rfl dX5_listOpen_60
    · refine G_iload_n 2 dX5_listOpen_22 rfl rfl ?_
      refine G_sipush (v := 2079) dX5_listOpen_23 (by decide) ?_
      refine G_icmp_ge (tgt := 59) dX5_listOpen_26 (by decide) ?_ ?_
      · refine G_iload_n 1 dX5_listOpen_59 rfl rfl ?_
        exact G_iret rfl dX5_listOpen_60
      · refine G_aload_n 0 dX5_listOpen_29 rfl rfl ?_
        refine G_get 0 clX5 (y1_37) fl_X5_39 dX5_listOpen_30 (by decide) rfl rfl ?_
        refine G_getO 0 clX0 (y1_27) fl_X5_75 dX5_listOpen_33 (by decide) rfl (by decide) (fun t2 ht2 => ?_)
        refine G_iload_n 2 dX5_listOpen_36 rfl rfl ?_
        refine G_cVb (As := [.int x2]) (rest := []) (ok_X4_has ht2 x2 M) rfl (ro_0 ht2) rfl mv_X5_84 dX5_listOpen_37 rfl rfl (Nat.le_of_ble_eq_true rfl) (g_fitN (by decide) (by decide)) (fun r4 M3 => ?_)
        refine G_ifB_eq (tgt := 53) dX5_listOpen_40 (by decide) ?_ ?_
        · refine G_iinc (v := x2 + 1) (lv' := [(2, .int (x2 + 1)), (0, .ref (ad X 37)), (1, .int x1)]) 2 dX5_listOpen_53 rfl rfl (by decide) rfl ?_
          refine G_goto (tgt := 4) dX5_listOpen_56 (by decide) ?_
          exact G_sub [1, 2, 0] rfl (ih x1 (x2 + 1) M3)
        · refine G_aload_n 0 dX5_listOpen_43 rfl rfl ?_
          refine G_get 9 clX5 (y1_37) fl_X5_36 dX5_listOpen_44 (by decide) rfl rfl ?_
          refine G_iload_n 1 dX5_listOpen_47 rfl rfl ?_
          refine G_iload_n 2 dX5_listOpen_48 rfl rfl ?_
          refine G_iast (y1_46) dX5_listOpen_49 ?_
          refine G_m (fun M5 => ?_)
          refine G_iinc (v := x1 + 1) (lv' := [(1, .int (x1 + 1)), (0, .ref (ad X 37)), (2, .int x2)]) 1 dX5_listOpen_50 rfl rfl (by decide) rfl ?_
          refine G_iinc (v := x2 + 1) (lv' := [(2, .int (x2 + 1)), (1, .int (x1 + 1)), (0, .ref (ad X 37))]) 2 dX5_listOpen_53 rfl rfl (by decide) rfl ?_
          refine G_goto (tgt := 4) dX5_listOpen_56 (by decide) ?_
          exact G_sub [2, 1, 0] rfl (ih (x1 + 1) (x2 + 1) M5)
def f_X5_listOpen (M : gM) : Option (Int32 × gM) := (f_X5_listOpen_4 FU (0 : Int32) (0 : Int32) M)
set_option maxRecDepth 100000 in
set_option maxHeartbeats 4000000 in
theorem ok_X5_listOpen (M : gM) : g_met Y1 yX5_listOpen jX5_listOpen g_ei (fun Z => [.ref (Z.2.1 37)]) M (f_X5_listOpen M) := by
  refine g_enter (fun Z => [(0, .ref (Z.2.1 37))]) (by decide) rfl (fun Z => Nat.le_of_ble_eq_true rfl) (fun Z => rfl) (fun X => ?_)
  rw [f_X5_listOpen]
  refine G_iconst (v := 0) dX5_listOpen_0 (by decide) ?_
  refine G_istore_n (lv' := [(1, .int 0), (0, .ref (ad X 37))]) dX5_listOpen_1 rfl (by decide) rfl ?_
  refine G_iconst (v := 0) dX5_listOpen_2 (by decide) ?_
  refine G_istore_n (lv' := [(2, .int 0), (1, .int 0), (0, .ref (ad X 37))]) dX5_listOpen_3 rfl (by decide) rfl ?_
  exact G_sub [2, 1, 0] rfl (o_X5_listOpen_4 FU (0 : Int32) (0 : Int32) M)
-- X5_firstGood
def f_X5_firstGood_49 (a1 : Nat) : Nat → Int32 → Int32 → Int32 → Int32 → Int32 → Int32 → gM → Option (Int32 × gM)
  | 0, _, _, _, _, _, _, _ => none
  | n + 1, x2, x3, x6, x7, x8, x9, M => (if (6 : Int32) ≤ x9 then (some (((-1) : Int32), M)) else (if ((x6 >>> (x9 &&& 31)) &&& (1 : Int32)) = (1 : Int32) then (g_b (f_X5_leadsWell a1 x2 x3 x9 x7 x8 M) (fun r10 M9 => (if r10 then (some (x9, M9)) else (f_X5_firstGood_49 a1 n x2 x3 x6 x7 x8 (x9 + 1) M9)))) else (f_X5_firstGood_49 a1 n x2 x3 x6 x7 x8 (x9 + 1) M)))
set_option maxRecDepth 100000 in
set_option maxHeartbeats 4000000 in
theorem o_X5_firstGood_49 {X : gX} {a1 : Nat} (ha1 : Y1[a1]? = some (1, 2079, [])) : ∀ (n : Nat) (x2 : Int32) (x3 : Int32) (x6 : Int32) (x7 : Int32) (x8 : Int32) (x9 : Int32) (M : gM), G Y1 jX5_firstGood X (g_fin g_ei) 49 [(0, .ref (ad X 37)), (1, .ref (ad X a1)), (2, .int x2), (3, .int x3), (6, .int x6), (7, .int x7), (8, .int x8), (9, .int x9)] [] M (f_X5_firstGood_49 a1 n x2 x3 x6 x7 x8 x9 M) := by
  intro n
  induction n with
  | zero => intro x2 x3 x6 x7 x8 x9 M; exact G_none
  | succ n ih =>
    intro x2 x3 x6 x7 x8 x9 M
    rw [f_X5_firstGood_49]
    refine G_iload 7 dX5_firstGood_49 rfl ?_
    refine G_bipush (v := 6) dX5_firstGood_51 (by decide) ?_
    refine G_icmp_ge (tgt := 92) dX5_firstGood_53 (by decide) ?_ ?_
    · refine G_iconst (v := (-1)) dX5_firstGood_92 (by decide) ?_
      exact G_iret rfl dX5_firstGood_93
    · refine G_iload 4 dX5_firstGood_56 rfl ?_
      refine G_iload 7 dX5_firstGood_58 rfl ?_
      refine G_ishr dX5_firstGood_60 ?_
      refine G_iconst (v := 1) dX5_firstGood_61 (by decide) ?_
      refine G_iand dX5_firstGood_62 ?_
      refine G_iconst (v := 1) dX5_firstGood_63 (by decide) ?_
      refine G_icmp_ne (tgt := 86) dX5_firstGood_64 (by decide) ?_ ?_
      · refine G_iinc (v := x9 + 1) (lv' := [(9, .int (x9 + 1)), (0, .ref (ad X 37)), (1, .ref (ad X a1)), (2, .int x2), (3, .int x3), (6, .int x6), (7, .int x7), (8, .int x8)]) 7 dX5_firstGood_86 rfl rfl (by decide) rfl ?_
        refine G_goto (tgt := 49) dX5_firstGood_89 (by decide) ?_
        exact G_sub [1, 2, 3, 4, 5, 6, 7, 0] rfl (ih x2 x3 x6 x7 x8 (x9 + 1) M)
      · refine G_aload_n 0 dX5_firstGood_67 rfl rfl ?_
        refine G_aload_n 1 dX5_firstGood_68 rfl rfl ?_
        refine G_iload_n 2 dX5_firstGood_69 rfl rfl ?_
        refine G_iload_n 3 dX5_firstGood_70 rfl rfl ?_
        refine G_iload 7 dX5_firstGood_71 rfl ?_
        refine G_iload 5 dX5_firstGood_73 rfl ?_
        refine G_iload 6 dX5_firstGood_75 rfl ?_
        refine G_cVb (As := [.ref (ad X a1), .int x2, .int x3, .int x9, .int x7, .int x8]) (rest := []) (ok_X5_leadsWell (ha1) x2 x3 x9 x7 x8 M) rfl (y1_37) rfl mv_X5_67 dX5_firstGood_77 rfl rfl (Nat.le_of_ble_eq_true rfl) (g_fitN (by decide) (by decide)) (fun r10 M9 => ?_)
        refine G_ifB_eq (tgt := 86) dX5_firstGood_80 (by decide) ?_ ?_
        · refine G_iinc (v := x9 + 1) (lv' := [(9, .int (x9 + 1)), (0, .ref (ad X 37)), (1, .ref (ad X a1)), (2, .int x2), (3, .int x3), (6, .int x6), (7, .int x7), (8, .int x8)]) 7 dX5_firstGood_86 rfl rfl (by decide) rfl ?_
          refine G_goto (tgt := 49) dX5_firstGood_89 (by decide) ?_
          exact G_sub [1, 2, 3, 4, 5, 6, 7, 0] rfl (ih x2 x3 x6 x7 x8 (x9 + 1) M9)
        · refine G_iload 7 dX5_firstGood_83 rfl ?_
          exact G_iret rfl dX5_firstGood_85
def f_X5_firstGood (a1 : Nat) (a2 : Int32) (a3 : Int32) (a4 : Int32) (a5 : Int32) (M : gM) : Option (Int32 × gM) := (g_b (f_X0_mask a3 M) (fun r2 M1 => (g_b (f_X0_least a3 M1) (fun r4 M3 => (g_v (r4 - a5) (fun y5 => (g_b (f_X0_greatest a3 M3) (fun r7 M6 => (g_v (r7 + a5) (fun y8 => (if 0 ≤ a4 then (f_X5_firstGood_49 a1 FU a2 a3 r2 y5 y8 a4 M6) else (f_X5_firstGood_49 a1 FU a2 a3 r2 y5 y8 (0 : Int32) M6))))))))))))
set_option maxRecDepth 100000 in
set_option maxHeartbeats 4000000 in
theorem ok_X5_firstGood {a1 : Nat} (ha1 : Y1[a1]? = some (1, 2079, [])) (a2 : Int32) (a3 : Int32) (a4 : Int32) (a5 : Int32) (M : gM) : g_met Y1 yX5_firstGood jX5_firstGood g_ei (fun Z => [.ref (Z.2.1 37), .ref (Z.2.1 a1), .int a2, .int a3, .int a4, .int a5]) M (f_X5_firstGood a1 a2 a3 a4 a5 M) := by
  refine g_enter (fun Z => [(0, .ref (Z.2.1 37)), (1, .ref (Z.2.1 a1)), (2, .int a2), (3, .int a3), (4, .int a4), (5, .int a5)]) (by decide) rfl (fun Z => Nat.le_of_ble_eq_true rfl) (fun Z => rfl) (fun X => ?_)
  rw [f_X5_firstGood]
  refine G_aload_n 0 dX5_firstGood_0 rfl rfl ?_
  refine G_get 0 clX5 (y1_37) fl_X5_39 dX5_firstGood_1 (by decide) rfl rfl ?_
  refine G_iload_n 3 dX5_firstGood_4 rfl rfl ?_
  refine G_cVi (As := [.int a3]) (rest := []) (ok_X0_mask a3 M) rfl (y1_27) rfl mv_X5_91 dX5_firstGood_5 rfl rfl (Nat.le_of_ble_eq_true rfl) (g_fitN (by decide) (by decide)) (fun r2 M1 => ?_)
  refine G_istore (lv' := [(6, .int r2), (0, .ref (ad X 37)), (1, .ref (ad X a1)), (2, .int a2), (3, .int a3), (4, .int a4), (5, .int a5)]) dX5_firstGood_8 (by decide) rfl ?_
  refine G_aload_n 1 dX5_firstGood_10 rfl rfl ?_
  refine G_get 0 clX5 (y1_37) fl_X5_39 dX5_firstGood_11 (by decide) rfl rfl ?_
  refine G_iload_n 4 dX5_firstGood_14 rfl rfl ?_
  refine G_cVi (As := [.int a3]) (rest := []) (ok_X0_least a3 M1) rfl (y1_27) rfl mv_X5_58 dX5_firstGood_15 rfl rfl (Nat.le_of_ble_eq_true rfl) (g_fitN (by decide) (by decide)) (fun r4 M3 => ?_)
  refine G_iload 6 dX5_firstGood_18 rfl ?_
  refine G_isub dX5_firstGood_20 ?_
  refine G_vi (fun y5 => ?_)
  refine G_istore (lv' := [(7, .int y5), (6, .int r2), (0, .ref (ad X 37)), (1, .ref (ad X a1)), (2, .int a2), (3, .int a3), (4, .int a4), (5, .int a5)]) dX5_firstGood_21 (by decide) rfl ?_
  refine G_aload_n 2 dX5_firstGood_23 rfl rfl ?_
  refine G_get 0 clX5 (y1_37) fl_X5_39 dX5_firstGood_24 (by decide) rfl rfl ?_
  refine G_iload_n 5 dX5_firstGood_27 rfl rfl ?_
  refine G_cVi (As := [.int a3]) (rest := []) (ok_X0_greatest a3 M3) rfl (y1_27) rfl mv_X5_64 dX5_firstGood_28 rfl rfl (Nat.le_of_ble_eq_true rfl) (g_fitN (by decide) (by decide)) (fun r7 M6 => ?_)
  refine G_iload 7 dX5_firstGood_31 rfl ?_
  refine G_iadd dX5_firstGood_33 ?_
  refine G_vi (fun y8 => ?_)
  refine G_istore (lv' := [(8, .int y8), (7, .int y5), (6, .int r2), (0, .ref (ad X 37)), (1, .ref (ad X a1)), (2, .int a2), (3, .int a3), (4, .int a4), (5, .int a5)]) dX5_firstGood_34 (by decide) rfl ?_
  refine G_iload 7 dX5_firstGood_36 rfl ?_
  refine G_if_ge (tgt := 45) dX5_firstGood_38 (by decide) ?_ ?_
  · refine G_iload 7 dX5_firstGood_45 rfl ?_
    refine G_istore (lv' := [(9, .int a4), (8, .int y8), (7, .int y5), (6, .int r2), (0, .ref (ad X 37)), (1, .ref (ad X a1)), (2, .int a2), (3, .int a3), (4, .int a4), (5, .int a5)]) dX5_firstGood_47 (by decide) rfl ?_
    exact G_sub [4, 5, 6, 7, 3, 2, 1, 0] rfl (o_X5_firstGood_49 ha1 FU a2 a3 r2 y5 y8 a4 M6)
  · refine G_iconst (v := 0) dX5_firstGood_41 (by decide) ?_
    refine G_goto (tgt := 47) dX5_firstGood_42 (by decide) ?_
    refine G_istore (lv' := [(9, .int 0), (8, .int y8), (7, .int y5), (6, .int r2), (0, .ref (ad X 37)), (1, .ref (ad X a1)), (2, .int a2), (3, .int a3), (4, .int a4), (5, .int a5)]) dX5_firstGood_47 (by decide) rfl ?_
    exact G_sub [4, 5, 6, 7, 3, 2, 1, 0] rfl (o_X5_firstGood_49 ha1 FU a2 a3 r2 y5 y8 (0 : Int32) M6)
-- X5_fateRound
def f_X5_fateRound_5 : Nat → Int32 → Int32 → Int32 → Int32 → gM → Option (Int32 × gM)
  | 0, _, _, _, _, _ => none
  | n + 1, x1, x2, x3, x4, M => (if x2 ≤ x4 then (some (x3, M)) else (g_ck x4 2079 (g_v (M.1 46 (tn x4)) (fun y1 => (g_ck y1 2079 (g_b (f_X5_firstGood 38 (x1 - (1 : Int32)) y1 (M.1 39 (tn y1)) (0 : Int32) M) (fun r3 M2 => (if r3 = ((-1) : Int32) then (g_ck y1 2079 (g_m (sI M2 38 (tn y1) (x1 - (1 : Int32))) (fun M6 => (f_X5_fateRound_5 n x1 x2 x3 (x4 + 1) M6)))) else (g_ck y1 2079 (g_m (sI M2 39 (tn y1) r3) (fun M4 => (g_ck x3 2079 (g_m (sI M4 46 (tn x3) y1) (fun M5 => (f_X5_fateRound_5 n x1 x2 (x3 + 1) (x4 + 1) M5)))))))))))))))
set_option maxRecDepth 100000 in
set_option maxHeartbeats 4000000 in
theorem o_X5_fateRound_5 {X : gX} : ∀ (n : Nat) (x1 : Int32) (x2 : Int32) (x3 : Int32) (x4 : Int32) (M : gM), G Y1 jX5_fateRound X (g_fin g_ei) 5 [(0, .ref (ad X 37)), (1, .int x1), (2, .int x2), (3, .int x3), (4, .int x4)] [] M (f_X5_fateRound_5 n x1 x2 x3 x4 M) := by
  intro n
  induction n with
  | zero => intro x1 x2 x3 x4 M; exact G_none
  | succ n ih =>
    intro x1 x2 x3 x4 M
    rw [f_X5_fateRound_5]
    refine G_iload 4 dX5_fateRound_5 rfl ?_
    refine G_iload_n 2 dX5_fateRound_7 rfl rfl ?_
    refine G_icmp_ge (tgt := 88) dX5_fateRound_8 (by decide) ?_ ?_
    · refine G_iload_n 3 dX5_fateRound_88 rfl rfl ?_
      exact G_iret rfl dX5_fateRound_89
    · refine G_aload_n 0 dX5_fateRound_11 rfl rfl ?_
      refine G_get 9 clX5 (y1_37) fl_X5_36 dX5_fateRound_12 (by decide) rfl rfl ?_
      refine G_iload 4 dX5_fateRound_15 rfl ?_
      refine G_iald (y1_46) dX5_fateRound_17 ?_
      refine G_vi (fun y1 => ?_)
      refine G_istore (lv' := [(5, .int y1), (0, .ref (ad X 37)), (1, .int x1), (2, .int x2), (3, .int x3), (4, .int x4)]) dX5_fateRound_18 (by decide) rfl ?_
      refine G_aload_n 1 dX5_fateRound_20 rfl rfl ?_
      refine G_aload_n 1 dX5_fateRound_21 rfl rfl ?_
      refine G_get 1 clX5 (y1_37) fl_X5_9 dX5_fateRound_22 (by decide) rfl rfl ?_
      refine G_iload_n 2 dX5_fateRound_25 rfl rfl ?_
      refine G_iconst (v := 1) dX5_fateRound_26 (by decide) ?_
      refine G_isub dX5_fateRound_27 ?_
      refine G_iload 0 dX5_fateRound_28 rfl ?_
      refine G_aload_n 1 dX5_fateRound_30 rfl rfl ?_
      refine G_get 2 clX5 (y1_37) fl_X5_15 dX5_fateRound_31 (by decide) rfl rfl ?_
      refine G_iload 0 dX5_fateRound_34 rfl ?_
      refine G_iald (y1_39) dX5_fateRound_36 ?_
      refine G_iconst (v := 0) dX5_fateRound_37 (by decide) ?_
      refine G_cVi (As := [.ref (ad X 38), .int (x1 - (1 : Int32)), .int y1, .int (M.1 39 (tn y1)), .int 0]) (rest := []) (ok_X5_firstGood (y1_38) (x1 - (1 : Int32)) y1 (M.1 39 (tn y1)) (0 : Int32) M) rfl (y1_37) rfl mv_X5_105 dX5_fateRound_38 rfl rfl (Nat.le_of_ble_eq_true rfl) (g_fitN (by decide) (by decide)) (fun r3 M2 => ?_)
      refine G_istore (lv' := [(6, .int r3), (5, .int y1), (0, .ref (ad X 37)), (1, .int x1), (2, .int x2), (3, .int x3), (4, .int x4)]) dX5_fateRound_41 (by decide) rfl ?_
      refine G_iload 0 dX5_fateRound_43 rfl ?_
      refine G_iconst (v := (-1)) dX5_fateRound_45 (by decide) ?_
      refine G_icmp_ne (tgt := 62) dX5_fateRound_46 (by decide) ?_ ?_
      · refine G_aload_n 2 dX5_fateRound_62 rfl rfl ?_
        refine G_get 2 clX5 (y1_37) fl_X5_15 dX5_fateRound_63 (by decide) rfl rfl ?_
        refine G_iload 1 dX5_fateRound_66 rfl ?_
        refine G_iload 0 dX5_fateRound_68 rfl ?_
        refine G_iast (y1_39) dX5_fateRound_70 ?_
        refine G_m (fun M4 => ?_)
        refine G_aload_n 2 dX5_fateRound_71 rfl rfl ?_
        refine G_get 9 clX5 (y1_37) fl_X5_36 dX5_fateRound_72 (by decide) rfl rfl ?_
        refine G_iload_n 5 dX5_fateRound_75 rfl rfl ?_
        refine G_iload 1 dX5_fateRound_76 rfl ?_
        refine G_iast (y1_46) dX5_fateRound_78 ?_
        refine G_m (fun M5 => ?_)
        refine G_iinc (v := x3 + 1) (lv' := [(3, .int (x3 + 1)), (6, .int r3), (5, .int y1), (0, .ref (ad X 37)), (1, .int x1), (2, .int x2), (4, .int x4)]) 5 dX5_fateRound_79 rfl rfl (by decide) rfl ?_
        refine G_iinc (v := x4 + 1) (lv' := [(4, .int (x4 + 1)), (3, .int (x3 + 1)), (6, .int r3), (5, .int y1), (0, .ref (ad X 37)), (1, .int x1), (2, .int x2)]) 6 dX5_fateRound_82 rfl rfl (by decide) rfl ?_
        refine G_goto (tgt := 5) dX5_fateRound_85 (by decide) ?_
        exact G_sub [4, 5, 6, 1, 0] rfl (ih x1 x2 (x3 + 1) (x4 + 1) M5)
      · refine G_aload_n 2 dX5_fateRound_49 rfl rfl ?_
        refine G_get 1 clX5 (y1_37) fl_X5_9 dX5_fateRound_50 (by decide) rfl rfl ?_
        refine G_iload 1 dX5_fateRound_53 rfl ?_
        refine G_iload_n 3 dX5_fateRound_55 rfl rfl ?_
        refine G_iconst (v := 1) dX5_fateRound_56 (by decide) ?_
        refine G_isub dX5_fateRound_57 ?_
        refine G_iast (y1_38) dX5_fateRound_58 ?_
        refine G_m (fun M6 => ?_)
        refine G_goto (tgt := 82) dX5_fateRound_59 (by decide) ?_
        refine G_iinc (v := x4 + 1) (lv' := [(4, .int (x4 + 1)), (6, .int r3), (5, .int y1), (0, .ref (ad X 37)), (1, .int x1), (2, .int x2), (3, .int x3)]) 6 dX5_fateRound_82 rfl rfl (by decide) rfl ?_
        refine G_goto (tgt := 5) dX5_fateRound_85 (by decide) ?_
        exact G_sub [3, 4, 5, 6, 0] rfl (ih x1 x2 x3 (x4 + 1) M6)
def f_X5_fateRound (a1 : Int32) (a2 : Int32) (M : gM) : Option (Int32 × gM) := (f_X5_fateRound_5 FU a1 a2 (0 : Int32) (0 : Int32) M)
set_option maxRecDepth 100000 in
set_option maxHeartbeats 4000000 in
theorem ok_X5_fateRound (a1 : Int32) (a2 : Int32) (M : gM) : g_met Y1 yX5_fateRound jX5_fateRound g_ei (fun Z => [.ref (Z.2.1 37), .int a1, .int a2]) M (f_X5_fateRound a1 a2 M) := by
  refine g_enter (fun Z => [(0, .ref (Z.2.1 37)), (1, .int a1), (2, .int a2)]) (by decide) rfl (fun Z => Nat.le_of_ble_eq_true rfl) (fun Z => rfl) (fun X => ?_)
  rw [f_X5_fateRound]
  refine G_iconst (v := 0) dX5_fateRound_0 (by decide) ?_
  refine G_istore_n (lv' := [(3, .int 0), (0, .ref (ad X 37)), (1, .int a1), (2, .int a2)]) dX5_fateRound_1 rfl (by decide) rfl ?_
  refine G_iconst (v := 0) dX5_fateRound_2 (by decide) ?_
  refine G_istore (lv' := [(4, .int 0), (3, .int 0), (0, .ref (ad X 37)), (1, .int a1), (2, .int a2)]) dX5_fateRound_3 (by decide) rfl ?_
  exact G_sub [2, 3, 4, 1, 0] rfl (o_X5_fateRound_5 FU a1 a2 (0 : Int32) (0 : Int32) M)
-- X5_findFates
def f_X5_findFates_111 : Nat → Int32 → Int32 → Int32 → gM → Option (Unit × gM)
  | 0, _, _, _, _ => none
  | n + 1, x1, x2, x3, M => (if (2080 : Int32) < x3 then (some ((), M)) else (if x2 = 0 then (some ((), M)) else (g_b (f_X5_fateRound x3 x1 M) (fun r5 M4 => (if x1 ≤ r5 then (f_X5_findFates_111 n r5 (0 : Int32) (x3 + 1) M4) else (f_X5_findFates_111 n r5 (1 : Int32) (x3 + 1) M4))))))
set_option maxRecDepth 100000 in
set_option maxHeartbeats 4000000 in
theorem o_X5_findFates_111 {X : gX} : ∀ (n : Nat) (x1 : Int32) (x2 : Int32) (x3 : Int32) (M : gM), G Y1 jX5_findFates X (g_fin g_ev) 111 [(0, .ref (ad X 37)), (1, .int x1), (2, .int x2), (3, .int x3)] [] M (f_X5_findFates_111 n x1 x2 x3 M) := by
  intro n
  induction n with
  | zero => intro x1 x2 x3 M; exact G_none
  | succ n ih =>
    intro x1 x2 x3 M
    rw [f_X5_findFates_111]
    refine G_iload_n 3 dX5_findFates_111 rfl rfl ?_
    refine G_sipush (v := 2080) dX5_findFates_112 (by decide) ?_
    refine G_icmp_gt (tgt := 151) dX5_findFates_115 (by decide) ?_ ?_
    · exact G_vret rfl dX5_findFates_151
    · refine G_iload_n 2 dX5_findFates_118 rfl rfl ?_
      refine G_if_eq (tgt := 151) dX5_findFates_119 (by decide) ?_ ?_
      · exact G_vret rfl dX5_findFates_151
      · refine G_iload_n 1 dX5_findFates_122 rfl rfl ?_
        refine G_istore (lv' := [(4, .int x1), (0, .ref (ad X 37)), (1, .int x1), (2, .int x2), (3, .int x3)]) dX5_findFates_123 (by decide) rfl ?_
        refine G_aload_n 1 dX5_findFates_125 rfl rfl ?_
        refine G_iload_n 4 dX5_findFates_126 rfl rfl ?_
        refine G_iload 0 dX5_findFates_127 rfl ?_
        refine G_cVi (As := [.int x3, .int x1]) (rest := []) (ok_X5_fateRound x3 x1 M) rfl (y1_37) rfl mv_X5_101 dX5_findFates_129 rfl rfl (Nat.le_of_ble_eq_true rfl) (g_fitN (by decide) (by decide)) (fun r5 M4 => ?_)
        refine G_istore_n (lv' := [(1, .int r5), (4, .int x1), (0, .ref (ad X 37)), (2, .int x2), (3, .int x3)]) dX5_findFates_132 rfl (by decide) rfl ?_
        refine G_iload_n 0 dX5_findFates_133 rfl rfl ?_
        refine G_iload 1 dX5_findFates_134 rfl ?_
        refine G_icmp_ge (tgt := 143) dX5_findFates_136 (by decide) ?_ ?_
        · refine G_iconst (v := 0) dX5_findFates_143 (by decide) ?_
          refine G_istore_n (lv' := [(2, .int 0), (1, .int r5), (4, .int x1), (0, .ref (ad X 37)), (3, .int x3)]) dX5_findFates_144 rfl (by decide) rfl ?_
          refine G_iinc (v := x3 + 1) (lv' := [(3, .int (x3 + 1)), (2, .int 0), (1, .int r5), (4, .int x1), (0, .ref (ad X 37))]) 4 dX5_findFates_145 rfl rfl (by decide) rfl ?_
          refine G_goto (tgt := 111) dX5_findFates_148 (by decide) ?_
          exact G_sub [4, 2, 1, 0] rfl (ih r5 (0 : Int32) (x3 + 1) M4)
        · refine G_iconst (v := 1) dX5_findFates_139 (by decide) ?_
          refine G_goto (tgt := 144) dX5_findFates_140 (by decide) ?_
          refine G_istore_n (lv' := [(2, .int 1), (1, .int r5), (4, .int x1), (0, .ref (ad X 37)), (3, .int x3)]) dX5_findFates_144 rfl (by decide) rfl ?_
          refine G_iinc (v := x3 + 1) (lv' := [(3, .int (x3 + 1)), (2, .int 1), (1, .int r5), (4, .int x1), (0, .ref (ad X 37))]) 4 dX5_findFates_145 rfl rfl (by decide) rfl ?_
          refine G_goto (tgt := 111) dX5_findFates_148 (by decide) ?_
          exact G_sub [4, 2, 1, 0] rfl (ih r5 (1 : Int32) (x3 + 1) M4)
def f_X5_findFates_69 : Nat → Int32 → Int32 → gM → Option (Unit × gM)
  | 0, _, _, _ => none
  | n + 1, x1, x2, M => (if x1 ≤ x2 then (f_X5_findFates_111 FU x1 (1 : Int32) (1 : Int32) M) else (g_ck x2 2079 (g_ck x2 2079 (g_b (f_X0_mask (M.1 46 (tn x2)) M) (fun r7 M6 => (g_b (f_X0_firstOf r7 M6) (fun r9 M8 => (g_ck (M.1 46 (tn x2)) 2079 (g_m (sI M8 39 (tn (M.1 46 (tn x2))) r9) (fun M10 => (f_X5_findFates_69 n x1 (x2 + 1) M10)))))))))))
set_option maxRecDepth 100000 in
set_option maxHeartbeats 4000000 in
theorem o_X5_findFates_69 {X : gX} : ∀ (n : Nat) (x1 : Int32) (x2 : Int32) (M : gM), G Y1 jX5_findFates X (g_fin g_ev) 69 [(0, .ref (ad X 37)), (1, .int x1), (2, .int x2)] [] M (f_X5_findFates_69 n x1 x2 M) := by
  intro n
  induction n with
  | zero => intro x1 x2 M; exact G_none
  | succ n ih =>
    intro x1 x2 M
    rw [f_X5_findFates_69]
    refine G_iload_n 2 dX5_findFates_69 rfl rfl ?_
    refine G_iload_n 1 dX5_findFates_70 rfl rfl ?_
    refine G_icmp_ge (tgt := 107) dX5_findFates_71 (by decide) ?_ ?_
    · refine G_iconst (v := 1) dX5_findFates_107 (by decide) ?_
      refine G_istore_n (lv' := [(2, .int 1), (0, .ref (ad X 37)), (1, .int x1)]) dX5_findFates_108 rfl (by decide) rfl ?_
      refine G_iconst (v := 1) dX5_findFates_109 (by decide) ?_
      refine G_istore_n (lv' := [(3, .int 1), (2, .int 1), (0, .ref (ad X 37)), (1, .int x1)]) dX5_findFates_110 rfl (by decide) rfl ?_
      exact G_sub [2, 3, 1, 0] rfl (o_X5_findFates_111 FU x1 (1 : Int32) (1 : Int32) M)
    · refine G_aload_n 0 dX5_findFates_74 rfl rfl ?_
      refine G_get 2 clX5 (y1_37) fl_X5_15 dX5_findFates_75 (by decide) rfl rfl ?_
      refine G_aload_n 0 dX5_findFates_78 rfl rfl ?_
      refine G_get 9 clX5 (y1_37) fl_X5_36 dX5_findFates_79 (by decide) rfl rfl ?_
      refine G_iload_n 2 dX5_findFates_82 rfl rfl ?_
      refine G_iald (y1_46) dX5_findFates_83 ?_
      refine G_aload_n 0 dX5_findFates_84 rfl rfl ?_
      refine G_get 0 clX5 (y1_37) fl_X5_39 dX5_findFates_85 (by decide) rfl rfl ?_
      refine G_aload_n 0 dX5_findFates_88 rfl rfl ?_
      refine G_get 9 clX5 (y1_37) fl_X5_36 dX5_findFates_89 (by decide) rfl rfl ?_
      refine G_iload_n 2 dX5_findFates_92 rfl rfl ?_
      refine G_iald (y1_46) dX5_findFates_93 ?_
      refine G_cVi (As := [.int (M.1 46 (tn x2))]) (rest := [.int (M.1 46 (tn x2)), .ref (ad X 39)]) (ok_X0_mask (M.1 46 (tn x2)) M) rfl (y1_27) rfl mv_X5_91 dX5_findFates_94 rfl rfl (Nat.le_of_ble_eq_true rfl) (g_fitN (by decide) (by decide)) (fun r7 M6 => ?_)
      refine G_cSi (As := [.int r7]) (rest := [.int (M.1 46 (tn x2)), .ref (ad X 39)]) (ok_X0_firstOf r7 M6) rfl ms_X5_98 dX5_findFates_97 rfl rfl (Nat.le_of_ble_eq_true rfl) (g_fitN (by decide) (by decide)) (fun r9 M8 => ?_)
      refine G_iast (y1_39) dX5_findFates_100 ?_
      refine G_m (fun M10 => ?_)
      refine G_iinc (v := x2 + 1) (lv' := [(2, .int (x2 + 1)), (0, .ref (ad X 37)), (1, .int x1)]) 2 dX5_findFates_101 rfl rfl (by decide) rfl ?_
      refine G_goto (tgt := 69) dX5_findFates_104 (by decide) ?_
      exact G_sub [1, 2, 0] rfl (ih x1 (x2 + 1) M10)
def f_X5_findFates_15 : Nat → Int32 → gM → Option (Unit × gM)
  | 0, _, _ => none
  | n + 1, x1, M => (if (2079 : Int32) ≤ x1 then (g_b (f_X5_listOpen M) (fun r3 M2 => (f_X5_findFates_69 FU r3 (0 : Int32) M2))) else (g_or 3 12 (M.2.2 27 0) (fun t11 => (g_b (f_X4_has t11 x1 M) (fun r13 M12 => (if r13 then (g_ck x1 2079 (g_m (sI M12 38 (tn x1) (1048576 : Int32)) (fun M16 => (g_ck x1 2079 (g_m (sI M16 39 (tn x1) ((-2) : Int32)) (fun M17 => (f_X5_findFates_15 n (x1 + 1) M17))))))) else (g_ck x1 2079 (g_m (sI M12 38 (tn x1) ((-1) : Int32)) (fun M14 => (g_ck x1 2079 (g_m (sI M14 39 (tn x1) ((-2) : Int32)) (fun M15 => (f_X5_findFates_15 n (x1 + 1) M15)))))))))))))
set_option maxRecDepth 100000 in
set_option maxHeartbeats 4000000 in
theorem o_X5_findFates_15 {X : gX} : ∀ (n : Nat) (x1 : Int32) (M : gM), G Y1 jX5_findFates X (g_fin g_ev) 15 [(0, .ref (ad X 37)), (1, .int x1)] [] M (f_X5_findFates_15 n x1 M) := by
  intro n
  induction n with
  | zero => intro x1 M; exact G_none
  | succ n ih =>
    intro x1 M
    rw [f_X5_findFates_15]
    refine G_iload_n 1 dX5_findFates_15 rfl rfl ?_
    refine G_sipush (v := 2079) dX5_findFates_16 (by decide) ?_
    refine G_icmp_ge (tgt := 62) dX5_findFates_19 (by decide) ?_ ?_
    · refine G_aload_n 0 dX5_findFates_62 rfl rfl ?_
      refine G_cVi (As := []) (rest := []) (ok_X5_listOpen M) rfl (y1_37) rfl mv_X5_94 dX5_findFates_63 rfl rfl (Nat.le_of_ble_eq_true rfl) (g_fitN (by decide) (by decide)) (fun r3 M2 => ?_)
      refine G_istore_n (lv' := [(1, .int r3), (0, .ref (ad X 37))]) dX5_findFates_66 rfl (by decide) rfl ?_
      refine G_iconst (v := 0) dX5_findFates_67 (by decide) ?_
      refine G_istore_n (lv' := [(2, .int 0), (1, .int r3), (0, .ref (ad X 37))]) dX5_findFates_68 rfl (by decide) rfl ?_
      exact G_sub [2, 1, 0] rfl (o_X5_findFates_69 FU r3 (0 : Int32) M2)
    · refine G_aload_n 0 dX5_findFates_22 rfl rfl ?_
      refine G_get 1 clX5 (y1_37) fl_X5_9 dX5_findFates_23 (by decide) rfl rfl ?_
      refine G_iload_n 1 dX5_findFates_26 rfl rfl ?_
      refine G_aload_n 0 dX5_findFates_27 rfl rfl ?_
      refine G_get 0 clX5 (y1_37) fl_X5_39 dX5_findFates_28 (by decide) rfl rfl ?_
      refine G_getO 0 clX0 (y1_27) fl_X5_75 dX5_findFates_31 (by decide) rfl (by decide) (fun t11 ht11 => ?_)
      refine G_iload_n 1 dX5_findFates_34 rfl rfl ?_
      refine G_cVb (As := [.int x1]) (rest := [.int x1, .ref (ad X 38)]) (ok_X4_has ht11 x1 M) rfl (ro_0 ht11) rfl mv_X5_84 dX5_findFates_35 rfl rfl (Nat.le_of_ble_eq_true rfl) (g_fitN (by decide) (by decide)) (fun r13 M12 => ?_)
      refine G_ifB_eq (tgt := 46) dX5_findFates_38 (by decide) ?_ ?_
      · refine G_iconst (v := (-1)) dX5_findFates_46 (by decide) ?_
        refine G_iast (y1_38) dX5_findFates_47 ?_
        refine G_m (fun M14 => ?_)
        refine G_aload_n 0 dX5_findFates_48 rfl rfl ?_
        refine G_get 2 clX5 (y1_37) fl_X5_15 dX5_findFates_49 (by decide) rfl rfl ?_
        refine G_iload_n 1 dX5_findFates_52 rfl rfl ?_
        refine G_bipush (v := (-2)) dX5_findFates_53 (by decide) ?_
        refine G_iast (y1_39) dX5_findFates_55 ?_
        refine G_m (fun M15 => ?_)
        refine G_iinc (v := x1 + 1) (lv' := [(1, .int (x1 + 1)), (0, .ref (ad X 37))]) 1 dX5_findFates_56 rfl rfl (by decide) rfl ?_
        refine G_goto (tgt := 15) dX5_findFates_59 (by decide) ?_
        exact G_sub [1, 0] rfl (ih (x1 + 1) M15)
      · refine G_ldc (v := 1048576) ci_X5_57 dX5_findFates_41 ?_
        refine G_goto (tgt := 47) dX5_findFates_43 (by decide) ?_
        refine G_iast (y1_38) dX5_findFates_47 ?_
        refine G_m (fun M16 => ?_)
        refine G_aload_n 0 dX5_findFates_48 rfl rfl ?_
        refine G_get 2 clX5 (y1_37) fl_X5_15 dX5_findFates_49 (by decide) rfl rfl ?_
        refine G_iload_n 1 dX5_findFates_52 rfl rfl ?_
        refine G_bipush (v := (-2)) dX5_findFates_53 (by decide) ?_
        refine G_iast (y1_39) dX5_findFates_55 ?_
        refine G_m (fun M17 => ?_)
        refine G_iinc (v := x1 + 1) (lv' := [(1, .int (x1 + 1)), (0, .ref (ad X 37))]) 1 dX5_findFates_56 rfl rfl (by decide) rfl ?_
        refine G_goto (tgt := 15) dX5_findFates_59 (by decide) ?_
        exact G_sub [1, 0] rfl (ih (x1 + 1) M17)
def f_X5_findFates (M : gM) : Option (Unit × gM) := (if (M.1 37 10) = 0 then (g_m (sI M 37 10 (1 : Int32)) (fun M1 => (f_X5_findFates_15 FU (0 : Int32) M1))) else (some ((), M)))
set_option maxRecDepth 100000 in
set_option maxHeartbeats 4000000 in
theorem ok_X5_findFates (M : gM) : g_met Y1 yX5_findFates jX5_findFates g_ev (fun Z => [.ref (Z.2.1 37)]) M (f_X5_findFates M) := by
  refine g_enter (fun Z => [(0, .ref (Z.2.1 37))]) (by decide) rfl (fun Z => Nat.le_of_ble_eq_true rfl) (fun Z => rfl) (fun X => ?_)
  rw [f_X5_findFates]
  refine G_aload_n 0 dX5_findFates_0 rfl rfl ?_
  refine G_get 10 clX5 (y1_37) fl_X5_50 dX5_findFates_1 (by decide) rfl rfl ?_
  refine G_if_eq (tgt := 8) dX5_findFates_4 (by decide) ?_ ?_
  · refine G_aload_n 0 dX5_findFates_8 rfl rfl ?_
    refine G_iconst (v := 1) dX5_findFates_9 (by decide) ?_
    refine G_putZ 10 clX5 (y1_37) fl_X5_50 dX5_findFates_10 (by decide) rfl rfl rfl ⟨rfl, rfl⟩ ?_
    refine G_m (fun M1 => ?_)
    refine G_iconst (v := 0) dX5_findFates_13 (by decide) ?_
    refine G_istore_n (lv' := [(1, .int 0), (0, .ref (ad X 37))]) dX5_findFates_14 rfl (by decide) rfl ?_
    exact G_sub [1, 0] rfl (o_X5_findFates_15 FU (0 : Int32) M1)
  · exact G_vret rfl dX5_findFates_7
-- X5_reachRound
def f_X5_reachRound_5 : Nat → Int32 → Int32 → Int32 → Int32 → gM → Option (Int32 × gM)
  | 0, _, _, _, _, _ => none
  | n + 1, x1, x2, x3, x4, M => (if x2 ≤ x4 then (some (x3, M)) else (g_ck x4 2079 (g_v (M.1 46 (tn x4)) (fun y1 => (g_b (f_X5_firstGood 40 ((1 : Int32) - x1) y1 (0 : Int32) (0 : Int32) M) (fun r3 M2 => (if r3 = ((-1) : Int32) then (g_ck x3 2079 (g_m (sI M2 46 (tn x3) y1) (fun M6 => (f_X5_reachRound_5 n x1 x2 (x3 + 1) (x4 + 1) M6)))) else (g_ck y1 2079 (g_m (sI M2 40 (tn y1) (-x1)) (fun M4 => (g_ck y1 2079 (g_m (sI M4 41 (tn y1) r3) (fun M5 => (f_X5_reachRound_5 n x1 x2 x3 (x4 + 1) M5))))))))))))))
set_option maxRecDepth 100000 in
set_option maxHeartbeats 4000000 in
theorem o_X5_reachRound_5 {X : gX} : ∀ (n : Nat) (x1 : Int32) (x2 : Int32) (x3 : Int32) (x4 : Int32) (M : gM), G Y1 jX5_reachRound X (g_fin g_ei) 5 [(0, .ref (ad X 37)), (1, .int x1), (2, .int x2), (3, .int x3), (4, .int x4)] [] M (f_X5_reachRound_5 n x1 x2 x3 x4 M) := by
  intro n
  induction n with
  | zero => intro x1 x2 x3 x4 M; exact G_none
  | succ n ih =>
    intro x1 x2 x3 x4 M
    rw [f_X5_reachRound_5]
    refine G_iload 4 dX5_reachRound_5 rfl ?_
    refine G_iload_n 2 dX5_reachRound_7 rfl rfl ?_
    refine G_icmp_ge (tgt := 81) dX5_reachRound_8 (by decide) ?_ ?_
    · refine G_iload_n 3 dX5_reachRound_81 rfl rfl ?_
      exact G_iret rfl dX5_reachRound_82
    · refine G_aload_n 0 dX5_reachRound_11 rfl rfl ?_
      refine G_get 9 clX5 (y1_37) fl_X5_36 dX5_reachRound_12 (by decide) rfl rfl ?_
      refine G_iload 4 dX5_reachRound_15 rfl ?_
      refine G_iald (y1_46) dX5_reachRound_17 ?_
      refine G_vi (fun y1 => ?_)
      refine G_istore (lv' := [(5, .int y1), (0, .ref (ad X 37)), (1, .int x1), (2, .int x2), (3, .int x3), (4, .int x4)]) dX5_reachRound_18 (by decide) rfl ?_
      refine G_aload_n 1 dX5_reachRound_20 rfl rfl ?_
      refine G_aload_n 1 dX5_reachRound_21 rfl rfl ?_
      refine G_get 3 clX5 (y1_37) fl_X5_18 dX5_reachRound_22 (by decide) rfl rfl ?_
      refine G_iconst (v := 1) dX5_reachRound_25 (by decide) ?_
      refine G_iload_n 2 dX5_reachRound_26 rfl rfl ?_
      refine G_isub dX5_reachRound_27 ?_
      refine G_iload 0 dX5_reachRound_28 rfl ?_
      refine G_iconst (v := 0) dX5_reachRound_30 (by decide) ?_
      refine G_iconst (v := 0) dX5_reachRound_31 (by decide) ?_
      refine G_cVi (As := [.ref (ad X 40), .int ((1 : Int32) - x1), .int y1, .int 0, .int 0]) (rest := []) (ok_X5_firstGood (y1_40) ((1 : Int32) - x1) y1 (0 : Int32) (0 : Int32) M) rfl (y1_37) rfl mv_X5_105 dX5_reachRound_32 rfl rfl (Nat.le_of_ble_eq_true rfl) (g_fitN (by decide) (by decide)) (fun r3 M2 => ?_)
      refine G_istore (lv' := [(6, .int r3), (5, .int y1), (0, .ref (ad X 37)), (1, .int x1), (2, .int x2), (3, .int x3), (4, .int x4)]) dX5_reachRound_35 (by decide) rfl ?_
      refine G_iload 0 dX5_reachRound_37 rfl ?_
      refine G_iconst (v := (-1)) dX5_reachRound_39 (by decide) ?_
      refine G_icmp_ne (tgt := 57) dX5_reachRound_40 (by decide) ?_ ?_
      · refine G_aload_n 2 dX5_reachRound_57 rfl rfl ?_
        refine G_get 3 clX5 (y1_37) fl_X5_18 dX5_reachRound_58 (by decide) rfl rfl ?_
        refine G_iload 1 dX5_reachRound_61 rfl ?_
        refine G_iload_n 3 dX5_reachRound_63 rfl rfl ?_
        refine G_ineg dX5_reachRound_64 ?_
        refine G_iast (y1_40) dX5_reachRound_65 ?_
        refine G_m (fun M4 => ?_)
        refine G_aload_n 2 dX5_reachRound_66 rfl rfl ?_
        refine G_get 4 clX5 (y1_37) fl_X5_21 dX5_reachRound_67 (by decide) rfl rfl ?_
        refine G_iload 1 dX5_reachRound_70 rfl ?_
        refine G_iload 0 dX5_reachRound_72 rfl ?_
        refine G_iast (y1_41) dX5_reachRound_74 ?_
        refine G_m (fun M5 => ?_)
        refine G_iinc (v := x4 + 1) (lv' := [(4, .int (x4 + 1)), (6, .int r3), (5, .int y1), (0, .ref (ad X 37)), (1, .int x1), (2, .int x2), (3, .int x3)]) 6 dX5_reachRound_75 rfl rfl (by decide) rfl ?_
        refine G_goto (tgt := 5) dX5_reachRound_78 (by decide) ?_
        exact G_sub [3, 4, 5, 6, 0] rfl (ih x1 x2 x3 (x4 + 1) M5)
      · refine G_aload_n 2 dX5_reachRound_43 rfl rfl ?_
        refine G_get 9 clX5 (y1_37) fl_X5_36 dX5_reachRound_44 (by decide) rfl rfl ?_
        refine G_iload_n 5 dX5_reachRound_47 rfl rfl ?_
        refine G_iload 1 dX5_reachRound_48 rfl ?_
        refine G_iast (y1_46) dX5_reachRound_50 ?_
        refine G_m (fun M6 => ?_)
        refine G_iinc (v := x3 + 1) (lv' := [(3, .int (x3 + 1)), (6, .int r3), (5, .int y1), (0, .ref (ad X 37)), (1, .int x1), (2, .int x2), (4, .int x4)]) 5 dX5_reachRound_51 rfl rfl (by decide) rfl ?_
        refine G_goto (tgt := 75) dX5_reachRound_54 (by decide) ?_
        refine G_iinc (v := x4 + 1) (lv' := [(4, .int (x4 + 1)), (3, .int (x3 + 1)), (6, .int r3), (5, .int y1), (0, .ref (ad X 37)), (1, .int x1), (2, .int x2)]) 6 dX5_reachRound_75 rfl rfl (by decide) rfl ?_
        refine G_goto (tgt := 5) dX5_reachRound_78 (by decide) ?_
        exact G_sub [4, 5, 6, 1, 0] rfl (ih x1 x2 (x3 + 1) (x4 + 1) M6)
def f_X5_reachRound (a1 : Int32) (a2 : Int32) (M : gM) : Option (Int32 × gM) := (f_X5_reachRound_5 FU a1 a2 (0 : Int32) (0 : Int32) M)
set_option maxRecDepth 100000 in
set_option maxHeartbeats 4000000 in
theorem ok_X5_reachRound (a1 : Int32) (a2 : Int32) (M : gM) : g_met Y1 yX5_reachRound jX5_reachRound g_ei (fun Z => [.ref (Z.2.1 37), .int a1, .int a2]) M (f_X5_reachRound a1 a2 M) := by
  refine g_enter (fun Z => [(0, .ref (Z.2.1 37)), (1, .int a1), (2, .int a2)]) (by decide) rfl (fun Z => Nat.le_of_ble_eq_true rfl) (fun Z => rfl) (fun X => ?_)
  rw [f_X5_reachRound]
  refine G_iconst (v := 0) dX5_reachRound_0 (by decide) ?_
  refine G_istore_n (lv' := [(3, .int 0), (0, .ref (ad X 37)), (1, .int a1), (2, .int a2)]) dX5_reachRound_1 rfl (by decide) rfl ?_
  refine G_iconst (v := 0) dX5_reachRound_2 (by decide) ?_
  refine G_istore (lv' := [(4, .int 0), (3, .int 0), (0, .ref (ad X 37)), (1, .int a1), (2, .int a2)]) dX5_reachRound_3 (by decide) rfl ?_
  exact G_sub [2, 3, 4, 1, 0] rfl (o_X5_reachRound_5 FU a1 a2 (0 : Int32) (0 : Int32) M)
-- X5_findReaches
def f_X5_findReaches_71 : Nat → Int32 → Int32 → Int32 → gM → Option (Unit × gM)
  | 0, _, _, _, _ => none
  | n + 1, x1, x2, x3, M => (if (2080 : Int32) < x3 then (some ((), M)) else (if x2 = 0 then (some ((), M)) else (g_b (f_X5_reachRound x3 x1 M) (fun r5 M4 => (if x1 ≤ r5 then (f_X5_findReaches_71 n r5 (0 : Int32) (x3 + 1) M4) else (f_X5_findReaches_71 n r5 (1 : Int32) (x3 + 1) M4))))))
set_option maxRecDepth 100000 in
set_option maxHeartbeats 4000000 in
theorem o_X5_findReaches_71 {X : gX} : ∀ (n : Nat) (x1 : Int32) (x2 : Int32) (x3 : Int32) (M : gM), G Y1 jX5_findReaches X (g_fin g_ev) 71 [(0, .ref (ad X 37)), (1, .int x1), (2, .int x2), (3, .int x3)] [] M (f_X5_findReaches_71 n x1 x2 x3 M) := by
  intro n
  induction n with
  | zero => intro x1 x2 x3 M; exact G_none
  | succ n ih =>
    intro x1 x2 x3 M
    rw [f_X5_findReaches_71]
    refine G_iload_n 3 dX5_findReaches_71 rfl rfl ?_
    refine G_sipush (v := 2080) dX5_findReaches_72 (by decide) ?_
    refine G_icmp_gt (tgt := 111) dX5_findReaches_75 (by decide) ?_ ?_
    · exact G_vret rfl dX5_findReaches_111
    · refine G_iload_n 2 dX5_findReaches_78 rfl rfl ?_
      refine G_if_eq (tgt := 111) dX5_findReaches_79 (by decide) ?_ ?_
      · exact G_vret rfl dX5_findReaches_111
      · refine G_iload_n 1 dX5_findReaches_82 rfl rfl ?_
        refine G_istore (lv' := [(4, .int x1), (0, .ref (ad X 37)), (1, .int x1), (2, .int x2), (3, .int x3)]) dX5_findReaches_83 (by decide) rfl ?_
        refine G_aload_n 1 dX5_findReaches_85 rfl rfl ?_
        refine G_iload_n 4 dX5_findReaches_86 rfl rfl ?_
        refine G_iload 0 dX5_findReaches_87 rfl ?_
        refine G_cVi (As := [.int x3, .int x1]) (rest := []) (ok_X5_reachRound x3 x1 M) rfl (y1_37) rfl mv_X5_113 dX5_findReaches_89 rfl rfl (Nat.le_of_ble_eq_true rfl) (g_fitN (by decide) (by decide)) (fun r5 M4 => ?_)
        refine G_istore_n (lv' := [(1, .int r5), (4, .int x1), (0, .ref (ad X 37)), (2, .int x2), (3, .int x3)]) dX5_findReaches_92 rfl (by decide) rfl ?_
        refine G_iload_n 0 dX5_findReaches_93 rfl rfl ?_
        refine G_iload 1 dX5_findReaches_94 rfl ?_
        refine G_icmp_ge (tgt := 103) dX5_findReaches_96 (by decide) ?_ ?_
        · refine G_iconst (v := 0) dX5_findReaches_103 (by decide) ?_
          refine G_istore_n (lv' := [(2, .int 0), (1, .int r5), (4, .int x1), (0, .ref (ad X 37)), (3, .int x3)]) dX5_findReaches_104 rfl (by decide) rfl ?_
          refine G_iinc (v := x3 + 1) (lv' := [(3, .int (x3 + 1)), (2, .int 0), (1, .int r5), (4, .int x1), (0, .ref (ad X 37))]) 4 dX5_findReaches_105 rfl rfl (by decide) rfl ?_
          refine G_goto (tgt := 71) dX5_findReaches_108 (by decide) ?_
          exact G_sub [4, 2, 1, 0] rfl (ih r5 (0 : Int32) (x3 + 1) M4)
        · refine G_iconst (v := 1) dX5_findReaches_99 (by decide) ?_
          refine G_goto (tgt := 104) dX5_findReaches_100 (by decide) ?_
          refine G_istore_n (lv' := [(2, .int 1), (1, .int r5), (4, .int x1), (0, .ref (ad X 37)), (3, .int x3)]) dX5_findReaches_104 rfl (by decide) rfl ?_
          refine G_iinc (v := x3 + 1) (lv' := [(3, .int (x3 + 1)), (2, .int 1), (1, .int r5), (4, .int x1), (0, .ref (ad X 37))]) 4 dX5_findReaches_105 rfl rfl (by decide) rfl ?_
          refine G_goto (tgt := 71) dX5_findReaches_108 (by decide) ?_
          exact G_sub [4, 2, 1, 0] rfl (ih r5 (1 : Int32) (x3 + 1) M4)
def f_X5_findReaches_15 : Nat → Int32 → gM → Option (Unit × gM)
  | 0, _, _ => none
  | n + 1, x1, M => (if (2079 : Int32) ≤ x1 then (g_b (f_X5_listOpen M) (fun r3 M2 => (f_X5_findReaches_71 FU r3 (1 : Int32) (1 : Int32) M2))) else (g_or 3 12 (M.2.2 27 0) (fun t6 => (g_b (f_X4_isOver t6 x1 M) (fun r8 M7 => (if r8 then (g_ck x1 2079 (g_m (sI M7 40 (tn x1) (0 : Int32)) (fun M11 => (g_ck x1 2079 (g_m (sI M11 41 (tn x1) ((-2) : Int32)) (fun M12 => (f_X5_findReaches_15 n (x1 + 1) M12))))))) else (g_ck x1 2079 (g_m (sI M7 40 (tn x1) ((-1048576) : Int32)) (fun M9 => (g_ck x1 2079 (g_m (sI M9 41 (tn x1) ((-2) : Int32)) (fun M10 => (f_X5_findReaches_15 n (x1 + 1) M10)))))))))))))
set_option maxRecDepth 100000 in
set_option maxHeartbeats 4000000 in
theorem o_X5_findReaches_15 {X : gX} : ∀ (n : Nat) (x1 : Int32) (M : gM), G Y1 jX5_findReaches X (g_fin g_ev) 15 [(0, .ref (ad X 37)), (1, .int x1)] [] M (f_X5_findReaches_15 n x1 M) := by
  intro n
  induction n with
  | zero => intro x1 M; exact G_none
  | succ n ih =>
    intro x1 M
    rw [f_X5_findReaches_15]
    refine G_iload_n 1 dX5_findReaches_15 rfl rfl ?_
    refine G_sipush (v := 2079) dX5_findReaches_16 (by decide) ?_
    refine G_icmp_ge (tgt := 62) dX5_findReaches_19 (by decide) ?_ ?_
    · refine G_aload_n 0 dX5_findReaches_62 rfl rfl ?_
      refine G_cVi (As := []) (rest := []) (ok_X5_listOpen M) rfl (y1_37) rfl mv_X5_94 dX5_findReaches_63 rfl rfl (Nat.le_of_ble_eq_true rfl) (g_fitN (by decide) (by decide)) (fun r3 M2 => ?_)
      refine G_istore_n (lv' := [(1, .int r3), (0, .ref (ad X 37))]) dX5_findReaches_66 rfl (by decide) rfl ?_
      refine G_iconst (v := 1) dX5_findReaches_67 (by decide) ?_
      refine G_istore_n (lv' := [(2, .int 1), (1, .int r3), (0, .ref (ad X 37))]) dX5_findReaches_68 rfl (by decide) rfl ?_
      refine G_iconst (v := 1) dX5_findReaches_69 (by decide) ?_
      refine G_istore_n (lv' := [(3, .int 1), (2, .int 1), (1, .int r3), (0, .ref (ad X 37))]) dX5_findReaches_70 rfl (by decide) rfl ?_
      exact G_sub [3, 2, 1, 0] rfl (o_X5_findReaches_71 FU r3 (1 : Int32) (1 : Int32) M2)
    · refine G_aload_n 0 dX5_findReaches_22 rfl rfl ?_
      refine G_get 3 clX5 (y1_37) fl_X5_18 dX5_findReaches_23 (by decide) rfl rfl ?_
      refine G_iload_n 1 dX5_findReaches_26 rfl rfl ?_
      refine G_aload_n 0 dX5_findReaches_27 rfl rfl ?_
      refine G_get 0 clX5 (y1_37) fl_X5_39 dX5_findReaches_28 (by decide) rfl rfl ?_
      refine G_getO 0 clX0 (y1_27) fl_X5_75 dX5_findReaches_31 (by decide) rfl (by decide) (fun t6 ht6 => ?_)
      refine G_iload_n 1 dX5_findReaches_34 rfl rfl ?_
      refine G_cVb (As := [.int x1]) (rest := [.int x1, .ref (ad X 40)]) (ok_X4_isOver ht6 x1 M) rfl (ro_0 ht6) rfl mv_X5_109 dX5_findReaches_35 rfl rfl (Nat.le_of_ble_eq_true rfl) (g_fitN (by decide) (by decide)) (fun r8 M7 => ?_)
      refine G_ifB_eq (tgt := 45) dX5_findReaches_38 (by decide) ?_ ?_
      · refine G_ldc (v := (-1048576)) ci_X5_112 dX5_findReaches_45 ?_
        refine G_iast (y1_40) dX5_findReaches_47 ?_
        refine G_m (fun M9 => ?_)
        refine G_aload_n 0 dX5_findReaches_48 rfl rfl ?_
        refine G_get 4 clX5 (y1_37) fl_X5_21 dX5_findReaches_49 (by decide) rfl rfl ?_
        refine G_iload_n 1 dX5_findReaches_52 rfl rfl ?_
        refine G_bipush (v := (-2)) dX5_findReaches_53 (by decide) ?_
        refine G_iast (y1_41) dX5_findReaches_55 ?_
        refine G_m (fun M10 => ?_)
        refine G_iinc (v := x1 + 1) (lv' := [(1, .int (x1 + 1)), (0, .ref (ad X 37))]) 1 dX5_findReaches_56 rfl rfl (by decide) rfl ?_
        refine G_goto (tgt := 15) dX5_findReaches_59 (by decide) ?_
        exact G_sub [1, 0] rfl (ih (x1 + 1) M10)
      · refine G_iconst (v := 0) dX5_findReaches_41 (by decide) ?_
        refine G_goto (tgt := 47) dX5_findReaches_42 (by decide) ?_
        refine G_iast (y1_40) dX5_findReaches_47 ?_
        refine G_m (fun M11 => ?_)
        refine G_aload_n 0 dX5_findReaches_48 rfl rfl ?_
        refine G_get 4 clX5 (y1_37) fl_X5_21 dX5_findReaches_49 (by decide) rfl rfl ?_
        refine G_iload_n 1 dX5_findReaches_52 rfl rfl ?_
        refine G_bipush (v := (-2)) dX5_findReaches_53 (by decide) ?_
        refine G_iast (y1_41) dX5_findReaches_55 ?_
        refine G_m (fun M12 => ?_)
        refine G_iinc (v := x1 + 1) (lv' := [(1, .int (x1 + 1)), (0, .ref (ad X 37))]) 1 dX5_findReaches_56 rfl rfl (by decide) rfl ?_
        refine G_goto (tgt := 15) dX5_findReaches_59 (by decide) ?_
        exact G_sub [1, 0] rfl (ih (x1 + 1) M12)
def f_X5_findReaches (M : gM) : Option (Unit × gM) := (if (M.1 37 11) = 0 then (g_m (sI M 37 11 (1 : Int32)) (fun M1 => (f_X5_findReaches_15 FU (0 : Int32) M1))) else (some ((), M)))
set_option maxRecDepth 100000 in
set_option maxHeartbeats 4000000 in
theorem ok_X5_findReaches (M : gM) : g_met Y1 yX5_findReaches jX5_findReaches g_ev (fun Z => [.ref (Z.2.1 37)]) M (f_X5_findReaches M) := by
  refine g_enter (fun Z => [(0, .ref (Z.2.1 37))]) (by decide) rfl (fun Z => Nat.le_of_ble_eq_true rfl) (fun Z => rfl) (fun X => ?_)
  rw [f_X5_findReaches]
  refine G_aload_n 0 dX5_findReaches_0 rfl rfl ?_
  refine G_get 11 clX5 (y1_37) fl_X5_54 dX5_findReaches_1 (by decide) rfl rfl ?_
  refine G_if_eq (tgt := 8) dX5_findReaches_4 (by decide) ?_ ?_
  · refine G_aload_n 0 dX5_findReaches_8 rfl rfl ?_
    refine G_iconst (v := 1) dX5_findReaches_9 (by decide) ?_
    refine G_putZ 11 clX5 (y1_37) fl_X5_54 dX5_findReaches_10 (by decide) rfl rfl rfl ⟨rfl, rfl⟩ ?_
    refine G_m (fun M1 => ?_)
    refine G_iconst (v := 0) dX5_findReaches_13 (by decide) ?_
    refine G_istore_n (lv' := [(1, .int 0), (0, .ref (ad X 37))]) dX5_findReaches_14 rfl (by decide) rfl ?_
    exact G_sub [1, 0] rfl (o_X5_findReaches_15 FU (0 : Int32) M1)
  · exact G_vret rfl dX5_findReaches_7
-- X5_shrink
def f_X5_shrink_29 (k8 : Int32 → Int32 → Int32 → Int32 → gM → Option (Unit × gM)) : Nat → Int32 → Int32 → Int32 → Int32 → Int32 → gM → Option (Unit × gM)
  | 0, _, _, _, _, _, _ => none
  | n + 1, x2, x3, x5, x6, x7, M => (if x6 ≤ x7 then (if x6 ≤ x3 then (k8 x2 x3 (0 : Int32) (x5 + 1) M) else (k8 x2 x3 (1 : Int32) (x5 + 1) M)) else (g_ck x7 2079 (g_v (M.1 46 (tn x7)) (fun y1 => (g_ck y1 2079 (g_b (f_X5_firstGood 44 (1 : Int32) y1 (M.1 45 (tn y1)) x2 M) (fun r3 M2 => (if r3 = ((-1) : Int32) then (g_ck y1 2079 (g_m (sI M2 44 (tn y1) (0 : Int32)) (fun M6 => (f_X5_shrink_29 k8 n x2 x3 x5 x6 (x7 + 1) M6)))) else (g_ck y1 2079 (g_m (sI M2 45 (tn y1) r3) (fun M4 => (g_ck x3 2079 (g_m (sI M4 46 (tn x3) y1) (fun M5 => (f_X5_shrink_29 k8 n x2 (x3 + 1) x5 x6 (x7 + 1) M5)))))))))))))))
set_option maxRecDepth 100000 in
set_option maxHeartbeats 4000000 in
theorem o_X5_shrink_29 {X : gX} {k8 : Int32 → Int32 → Int32 → Int32 → gM → Option (Unit × gM)} (hk8 : ∀ (x2 : Int32) (x3 : Int32) (x4 : Int32) (x5 : Int32) (M : gM), G Y1 jX5_shrink X (g_fin g_ev) 8 [(0, .ref (ad X 37)), (2, .int x2), (3, .int x3), (4, .int x4), (5, .int x5)] [] M (k8 x2 x3 x4 x5 M)) : ∀ (n : Nat) (x2 : Int32) (x3 : Int32) (x5 : Int32) (x6 : Int32) (x7 : Int32) (M : gM), G Y1 jX5_shrink X (g_fin g_ev) 29 [(0, .ref (ad X 37)), (2, .int x2), (3, .int x3), (5, .int x5), (6, .int x6), (7, .int x7)] [] M (f_X5_shrink_29 k8 n x2 x3 x5 x6 x7 M) := by
  intro n
  induction n with
  | zero => intro x2 x3 x5 x6 x7 M; exact G_none
  | succ n ih =>
    intro x2 x3 x5 x6 x7 M
    rw [f_X5_shrink_29]
    refine G_iload 5 dX5_shrink_29 rfl ?_
    refine G_iload 4 dX5_shrink_31 rfl ?_
    refine G_icmp_ge (tgt := 109) dX5_shrink_33 (by decide) ?_ ?_
    · refine G_iload_n 2 dX5_shrink_109 rfl rfl ?_
      refine G_iload 4 dX5_shrink_110 rfl ?_
      refine G_icmp_ge (tgt := 119) dX5_shrink_112 (by decide) ?_ ?_
      · refine G_iconst (v := 0) dX5_shrink_119 (by decide) ?_
        refine G_istore (lv' := [(4, .int 0), (0, .ref (ad X 37)), (2, .int x2), (3, .int x3), (5, .int x5), (6, .int x6), (7, .int x7)]) dX5_shrink_120 (by decide) rfl ?_
        refine G_iinc (v := x5 + 1) (lv' := [(5, .int (x5 + 1)), (4, .int 0), (0, .ref (ad X 37)), (2, .int x2), (3, .int x3), (6, .int x6), (7, .int x7)]) 4 dX5_shrink_122 rfl rfl (by decide) rfl ?_
        refine G_goto (tgt := 8) dX5_shrink_125 (by decide) ?_
        exact G_sub [2, 3, 4, 1, 0] rfl (hk8 x2 x3 (0 : Int32) (x5 + 1) M)
      · refine G_iconst (v := 1) dX5_shrink_115 (by decide) ?_
        refine G_goto (tgt := 120) dX5_shrink_116 (by decide) ?_
        refine G_istore (lv' := [(4, .int 1), (0, .ref (ad X 37)), (2, .int x2), (3, .int x3), (5, .int x5), (6, .int x6), (7, .int x7)]) dX5_shrink_120 (by decide) rfl ?_
        refine G_iinc (v := x5 + 1) (lv' := [(5, .int (x5 + 1)), (4, .int 1), (0, .ref (ad X 37)), (2, .int x2), (3, .int x3), (6, .int x6), (7, .int x7)]) 4 dX5_shrink_122 rfl rfl (by decide) rfl ?_
        refine G_goto (tgt := 8) dX5_shrink_125 (by decide) ?_
        exact G_sub [2, 3, 4, 1, 0] rfl (hk8 x2 x3 (1 : Int32) (x5 + 1) M)
    · refine G_aload_n 0 dX5_shrink_36 rfl rfl ?_
      refine G_get 9 clX5 (y1_37) fl_X5_36 dX5_shrink_37 (by decide) rfl rfl ?_
      refine G_iload 5 dX5_shrink_40 rfl ?_
      refine G_iald (y1_46) dX5_shrink_42 ?_
      refine G_vi (fun y1 => ?_)
      refine G_istore (lv' := [(8, .int y1), (0, .ref (ad X 37)), (2, .int x2), (3, .int x3), (5, .int x5), (6, .int x6), (7, .int x7)]) dX5_shrink_43 (by decide) rfl ?_
      refine G_aload_n 1 dX5_shrink_45 rfl rfl ?_
      refine G_aload_n 1 dX5_shrink_46 rfl rfl ?_
      refine G_get 7 clX5 (y1_37) fl_X5_30 dX5_shrink_47 (by decide) rfl rfl ?_
      refine G_iconst (v := 1) dX5_shrink_50 (by decide) ?_
      refine G_iload 0 dX5_shrink_51 rfl ?_
      refine G_aload_n 1 dX5_shrink_53 rfl rfl ?_
      refine G_get 8 clX5 (y1_37) fl_X5_33 dX5_shrink_54 (by decide) rfl rfl ?_
      refine G_iload 0 dX5_shrink_57 rfl ?_
      refine G_iald (y1_45) dX5_shrink_59 ?_
      refine G_iload_n 2 dX5_shrink_60 rfl rfl ?_
      refine G_cVi (As := [.ref (ad X 44), .int 1, .int y1, .int (M.1 45 (tn y1)), .int x2]) (rest := []) (ok_X5_firstGood (y1_44) (1 : Int32) y1 (M.1 45 (tn y1)) x2 M) rfl (y1_37) rfl mv_X5_105 dX5_shrink_61 rfl rfl (Nat.le_of_ble_eq_true rfl) (g_fitN (by decide) (by decide)) (fun r3 M2 => ?_)
      refine G_istore (lv' := [(9, .int r3), (8, .int y1), (0, .ref (ad X 37)), (2, .int x2), (3, .int x3), (5, .int x5), (6, .int x6), (7, .int x7)]) dX5_shrink_64 (by decide) rfl ?_
      refine G_iload 0 dX5_shrink_66 rfl ?_
      refine G_iconst (v := (-1)) dX5_shrink_68 (by decide) ?_
      refine G_icmp_ne (tgt := 83) dX5_shrink_69 (by decide) ?_ ?_
      · refine G_aload_n 2 dX5_shrink_83 rfl rfl ?_
        refine G_get 8 clX5 (y1_37) fl_X5_33 dX5_shrink_84 (by decide) rfl rfl ?_
        refine G_iload 1 dX5_shrink_87 rfl ?_
        refine G_iload 0 dX5_shrink_89 rfl ?_
        refine G_iast (y1_45) dX5_shrink_91 ?_
        refine G_m (fun M4 => ?_)
        refine G_aload_n 2 dX5_shrink_92 rfl rfl ?_
        refine G_get 9 clX5 (y1_37) fl_X5_36 dX5_shrink_93 (by decide) rfl rfl ?_
        refine G_iload_n 4 dX5_shrink_96 rfl rfl ?_
        refine G_iload 1 dX5_shrink_97 rfl ?_
        refine G_iast (y1_46) dX5_shrink_99 ?_
        refine G_m (fun M5 => ?_)
        refine G_iinc (v := x3 + 1) (lv' := [(3, .int (x3 + 1)), (9, .int r3), (8, .int y1), (0, .ref (ad X 37)), (2, .int x2), (5, .int x5), (6, .int x6), (7, .int x7)]) 4 dX5_shrink_100 rfl rfl (by decide) rfl ?_
        refine G_iinc (v := x7 + 1) (lv' := [(7, .int (x7 + 1)), (3, .int (x3 + 1)), (9, .int r3), (8, .int y1), (0, .ref (ad X 37)), (2, .int x2), (5, .int x5), (6, .int x6)]) 7 dX5_shrink_103 rfl rfl (by decide) rfl ?_
        refine G_goto (tgt := 29) dX5_shrink_106 (by decide) ?_
        exact G_sub [4, 5, 1, 6, 7, 0] rfl (ih x2 (x3 + 1) x5 x6 (x7 + 1) M5)
      · refine G_aload_n 2 dX5_shrink_72 rfl rfl ?_
        refine G_get 7 clX5 (y1_37) fl_X5_30 dX5_shrink_73 (by decide) rfl rfl ?_
        refine G_iload 1 dX5_shrink_76 rfl ?_
        refine G_iconst (v := 0) dX5_shrink_78 (by decide) ?_
        refine G_iast (y1_44) dX5_shrink_79 ?_
        refine G_m (fun M6 => ?_)
        refine G_goto (tgt := 103) dX5_shrink_80 (by decide) ?_
        refine G_iinc (v := x7 + 1) (lv' := [(7, .int (x7 + 1)), (9, .int r3), (8, .int y1), (0, .ref (ad X 37)), (2, .int x2), (3, .int x3), (5, .int x5), (6, .int x6)]) 7 dX5_shrink_103 rfl rfl (by decide) rfl ?_
        refine G_goto (tgt := 29) dX5_shrink_106 (by decide) ?_
        exact G_sub [3, 4, 5, 6, 7, 0] rfl (ih x2 x3 x5 x6 (x7 + 1) M6)
def f_X5_shrink_8 : Nat → Int32 → Int32 → Int32 → Int32 → gM → Option (Unit × gM)
  | 0, _, _, _, _, _ => none
  | n + 1, x2, x3, x4, x5, M => (if (2079 : Int32) < x5 then (some ((), M)) else (if x4 = 0 then (some ((), M)) else (f_X5_shrink_29 (f_X5_shrink_8 n) FU x2 (0 : Int32) x5 x3 (0 : Int32) M)))
set_option maxRecDepth 100000 in
set_option maxHeartbeats 4000000 in
theorem o_X5_shrink_8 {X : gX} : ∀ (n : Nat) (x2 : Int32) (x3 : Int32) (x4 : Int32) (x5 : Int32) (M : gM), G Y1 jX5_shrink X (g_fin g_ev) 8 [(0, .ref (ad X 37)), (2, .int x2), (3, .int x3), (4, .int x4), (5, .int x5)] [] M (f_X5_shrink_8 n x2 x3 x4 x5 M) := by
  intro n
  induction n with
  | zero => intro x2 x3 x4 x5 M; exact G_none
  | succ n ih =>
    intro x2 x3 x4 x5 M
    rw [f_X5_shrink_8]
    refine G_iload 4 dX5_shrink_8 rfl ?_
    refine G_sipush (v := 2079) dX5_shrink_10 (by decide) ?_
    refine G_icmp_gt (tgt := 128) dX5_shrink_13 (by decide) ?_ ?_
    · exact G_vret rfl dX5_shrink_128
    · refine G_iload 3 dX5_shrink_16 rfl ?_
      refine G_if_eq (tgt := 128) dX5_shrink_18 (by decide) ?_ ?_
      · exact G_vret rfl dX5_shrink_128
      · refine G_iload_n 2 dX5_shrink_21 rfl rfl ?_
        refine G_istore (lv' := [(6, .int x3), (0, .ref (ad X 37)), (2, .int x2), (3, .int x3), (4, .int x4), (5, .int x5)]) dX5_shrink_22 (by decide) rfl ?_
        refine G_iconst (v := 0) dX5_shrink_24 (by decide) ?_
        refine G_istore_n (lv' := [(3, .int 0), (6, .int x3), (0, .ref (ad X 37)), (2, .int x2), (4, .int x4), (5, .int x5)]) dX5_shrink_25 rfl (by decide) rfl ?_
        refine G_iconst (v := 0) dX5_shrink_26 (by decide) ?_
        refine G_istore (lv' := [(7, .int 0), (3, .int 0), (6, .int x3), (0, .ref (ad X 37)), (2, .int x2), (4, .int x4), (5, .int x5)]) dX5_shrink_27 (by decide) rfl ?_
        exact G_sub [3, 4, 1, 6, 2, 0] rfl (o_X5_shrink_29 ih FU x2 (0 : Int32) x5 x3 (0 : Int32) M)
def f_X5_shrink (a1 : Int32) (a2 : Int32) (M : gM) : Option (Unit × gM) := (f_X5_shrink_8 FU a2 a1 (1 : Int32) (0 : Int32) M)
set_option maxRecDepth 100000 in
set_option maxHeartbeats 4000000 in
theorem ok_X5_shrink (a1 : Int32) (a2 : Int32) (M : gM) : g_met Y1 yX5_shrink jX5_shrink g_ev (fun Z => [.ref (Z.2.1 37), .int a1, .int a2]) M (f_X5_shrink a1 a2 M) := by
  refine g_enter (fun Z => [(0, .ref (Z.2.1 37)), (1, .int a1), (2, .int a2)]) (by decide) rfl (fun Z => Nat.le_of_ble_eq_true rfl) (fun Z => rfl) (fun X => ?_)
  rw [f_X5_shrink]
  refine G_iload_n 1 dX5_shrink_0 rfl rfl ?_
  refine G_istore_n (lv' := [(3, .int a1), (0, .ref (ad X 37)), (1, .int a1), (2, .int a2)]) dX5_shrink_1 rfl (by decide) rfl ?_
  refine G_iconst (v := 1) dX5_shrink_2 (by decide) ?_
  refine G_istore (lv' := [(4, .int 1), (3, .int a1), (0, .ref (ad X 37)), (1, .int a1), (2, .int a2)]) dX5_shrink_3 (by decide) rfl ?_
  refine G_iconst (v := 0) dX5_shrink_5 (by decide) ?_
  refine G_istore (lv' := [(5, .int 0), (4, .int 1), (3, .int a1), (0, .ref (ad X 37)), (1, .int a1), (2, .int a2)]) dX5_shrink_6 (by decide) rfl ?_
  exact G_sub [3, 5, 2, 1, 0] rfl (o_X5_shrink_8 FU a2 a1 (1 : Int32) (0 : Int32) M)
-- X5_bearing
def f_X5_bearing_177 (k74 : Int32 → Int32 → gM → Option (Int32 × gM)) : Nat → Int32 → Int32 → Int32 → gM → Option (Int32 × gM)
  | 0, _, _, _, _ => none
  | n + 1, x1, x2, x4, M => (if (2079 : Int32) ≤ x4 then (g_m (sI M 37 12 x2) (fun M4 => (k74 x1 (x2 + 1) M4))) else (g_ck x4 2079 (if (M.1 44 (tn x4)) = (1 : Int32) then (g_ck x4 2079 (if (M.1 42 (tn x4)) = (x2 - (1 : Int32)) then (g_ck x4 2079 (g_m (sI M 42 (tn x4) x2) (fun M7 => (f_X5_bearing_177 k74 n x1 x2 (x4 + 1) M7)))) else (g_ck x4 2079 (g_ck x4 2079 (g_m (sI M 42 (tn x4) (M.1 42 (tn x4))) (fun M6 => (f_X5_bearing_177 k74 n x1 x2 (x4 + 1) M6))))))) else (g_ck x4 2079 (g_ck x4 2079 (g_m (sI M 42 (tn x4) (M.1 42 (tn x4))) (fun M5 => (f_X5_bearing_177 k74 n x1 x2 (x4 + 1) M5))))))))
set_option maxRecDepth 100000 in
set_option maxHeartbeats 4000000 in
theorem o_X5_bearing_177 {X : gX} {k74 : Int32 → Int32 → gM → Option (Int32 × gM)} (hk74 : ∀ (x1 : Int32) (x2 : Int32) (M : gM), G Y1 jX5_bearing X (g_fin g_ei) 74 [(0, .ref (ad X 37)), (1, .int x1), (2, .int x2)] [] M (k74 x1 x2 M)) : ∀ (n : Nat) (x1 : Int32) (x2 : Int32) (x4 : Int32) (M : gM), G Y1 jX5_bearing X (g_fin g_ei) 177 [(0, .ref (ad X 37)), (1, .int x1), (2, .int x2), (4, .int x4)] [] M (f_X5_bearing_177 k74 n x1 x2 x4 M) := by
  intro n
  induction n with
  | zero => intro x1 x2 x4 M; exact G_none
  | succ n ih =>
    intro x1 x2 x4 M
    rw [f_X5_bearing_177]
    refine G_iload 3 dX5_bearing_177 rfl ?_
    refine G_sipush (v := 2079) dX5_bearing_179 (by decide) ?_
    refine G_icmp_ge (tgt := 233) dX5_bearing_182 (by decide) ?_ ?_
    · refine G_aload_n 0 dX5_bearing_233 rfl rfl ?_
      refine G_iload_n 2 dX5_bearing_234 rfl rfl ?_
      refine G_putI 12 clX5 (y1_37) fl_X5_43 dX5_bearing_235 (by decide) rfl rfl rfl ?_
      refine G_m (fun M4 => ?_)
      refine G_iinc (v := x2 + 1) (lv' := [(2, .int (x2 + 1)), (0, .ref (ad X 37)), (1, .int x1), (4, .int x4)]) 2 dX5_bearing_238 rfl rfl (by decide) rfl ?_
      refine G_goto (tgt := 74) dX5_bearing_241 (by decide) ?_
      exact G_sub [1, 2, 0] rfl (hk74 x1 (x2 + 1) M4)
    · refine G_aload_n 0 dX5_bearing_185 rfl rfl ?_
      refine G_get 5 clX5 (y1_37) fl_X5_24 dX5_bearing_186 (by decide) rfl rfl ?_
      refine G_iload 3 dX5_bearing_189 rfl ?_
      refine G_aload_n 0 dX5_bearing_191 rfl rfl ?_
      refine G_get 7 clX5 (y1_37) fl_X5_30 dX5_bearing_192 (by decide) rfl rfl ?_
      refine G_iload 3 dX5_bearing_195 rfl ?_
      refine G_iald (y1_44) dX5_bearing_197 ?_
      refine G_iconst (v := 1) dX5_bearing_198 (by decide) ?_
      refine G_icmp_ne (tgt := 219) dX5_bearing_199 (by decide) ?_ ?_
      · refine G_aload_n 0 dX5_bearing_219 rfl rfl ?_
        refine G_get 5 clX5 (y1_37) fl_X5_24 dX5_bearing_220 (by decide) rfl rfl ?_
        refine G_iload 3 dX5_bearing_223 rfl ?_
        refine G_iald (y1_42) dX5_bearing_225 ?_
        refine G_iast (y1_42) dX5_bearing_226 ?_
        refine G_m (fun M5 => ?_)
        refine G_iinc (v := x4 + 1) (lv' := [(4, .int (x4 + 1)), (0, .ref (ad X 37)), (1, .int x1), (2, .int x2)]) 3 dX5_bearing_227 rfl rfl (by decide) rfl ?_
        refine G_goto (tgt := 177) dX5_bearing_230 (by decide) ?_
        exact G_sub [1, 2, 3, 0] rfl (ih x1 x2 (x4 + 1) M5)
      · refine G_aload_n 0 dX5_bearing_202 rfl rfl ?_
        refine G_get 5 clX5 (y1_37) fl_X5_24 dX5_bearing_203 (by decide) rfl rfl ?_
        refine G_iload 3 dX5_bearing_206 rfl ?_
        refine G_iald (y1_42) dX5_bearing_208 ?_
        refine G_iload_n 2 dX5_bearing_209 rfl rfl ?_
        refine G_iconst (v := 1) dX5_bearing_210 (by decide) ?_
        refine G_isub dX5_bearing_211 ?_
        refine G_icmp_ne (tgt := 219) dX5_bearing_212 (by decide) ?_ ?_
        · refine G_aload_n 0 dX5_bearing_219 rfl rfl ?_
          refine G_get 5 clX5 (y1_37) fl_X5_24 dX5_bearing_220 (by decide) rfl rfl ?_
          refine G_iload 3 dX5_bearing_223 rfl ?_
          refine G_iald (y1_42) dX5_bearing_225 ?_
          refine G_iast (y1_42) dX5_bearing_226 ?_
          refine G_m (fun M6 => ?_)
          refine G_iinc (v := x4 + 1) (lv' := [(4, .int (x4 + 1)), (0, .ref (ad X 37)), (1, .int x1), (2, .int x2)]) 3 dX5_bearing_227 rfl rfl (by decide) rfl ?_
          refine G_goto (tgt := 177) dX5_bearing_230 (by decide) ?_
          exact G_sub [1, 2, 3, 0] rfl (ih x1 x2 (x4 + 1) M6)
        · refine G_iload_n 2 dX5_bearing_215 rfl rfl ?_
          refine G_goto (tgt := 226) dX5_bearing_216 (by decide) ?_
          refine G_iast (y1_42) dX5_bearing_226 ?_
          refine G_m (fun M7 => ?_)
          refine G_iinc (v := x4 + 1) (lv' := [(4, .int (x4 + 1)), (0, .ref (ad X 37)), (1, .int x1), (2, .int x2)]) 3 dX5_bearing_227 rfl rfl (by decide) rfl ?_
          refine G_goto (tgt := 177) dX5_bearing_230 (by decide) ?_
          exact G_sub [1, 2, 3, 0] rfl (ih x1 x2 (x4 + 1) M7)
def f_X5_bearing_129 (k97 : Int32 → Int32 → Int32 → Int32 → gM → Option (Int32 × gM)) (x1 : Int32) (x2 : Int32) (x3 : Int32) (x4 : Int32) (s1 : Int32) (s2 : Int32) (M : gM) : Option (Int32 × gM) := (g_ck s1 2079 (g_m (sI M 44 (tn s1) s2) (fun M8 => (g_ck x4 2079 (g_m (sI M8 45 (tn x4) (0 : Int32)) (fun M9 => (g_ck x4 2079 (if (M9.1 42 (tn x4)) = (x2 - (1 : Int32)) then (g_ck x3 2079 (g_m (sI M9 46 (tn x3) x4) (fun M10 => (k97 x1 x2 (x3 + 1) (x4 + 1) M10)))) else (k97 x1 x2 x3 (x4 + 1) M9)))))))))
set_option maxRecDepth 100000 in
set_option maxHeartbeats 4000000 in
theorem o_X5_bearing_129 {X : gX} {k97 : Int32 → Int32 → Int32 → Int32 → gM → Option (Int32 × gM)} (hk97 : ∀ (x1 : Int32) (x2 : Int32) (x3 : Int32) (x4 : Int32) (M : gM), G Y1 jX5_bearing X (g_fin g_ei) 97 [(0, .ref (ad X 37)), (1, .int x1), (2, .int x2), (3, .int x3), (4, .int x4)] [] M (k97 x1 x2 x3 x4 M)) (x1 : Int32) (x2 : Int32) (x3 : Int32) (x4 : Int32) (s1 : Int32) (s2 : Int32) (M : gM) : G Y1 jX5_bearing X (g_fin g_ei) 129 [(0, .ref (ad X 37)), (1, .int x1), (2, .int x2), (3, .int x3), (4, .int x4)] [.int s2, .int s1, .ref (ad X 44)] M (f_X5_bearing_129 k97 x1 x2 x3 x4 s1 s2 M) := by
  rw [f_X5_bearing_129]
  refine G_iast (y1_44) dX5_bearing_129 ?_
  refine G_m (fun M8 => ?_)
  refine G_aload_n 0 dX5_bearing_130 rfl rfl ?_
  refine G_get 8 clX5 (y1_37) fl_X5_33 dX5_bearing_131 (by decide) rfl rfl ?_
  refine G_iload 4 dX5_bearing_134 rfl ?_
  refine G_iconst (v := 0) dX5_bearing_136 (by decide) ?_
  refine G_iast (y1_45) dX5_bearing_137 ?_
  refine G_m (fun M9 => ?_)
  refine G_aload_n 0 dX5_bearing_138 rfl rfl ?_
  refine G_get 5 clX5 (y1_37) fl_X5_24 dX5_bearing_139 (by decide) rfl rfl ?_
  refine G_iload 4 dX5_bearing_142 rfl ?_
  refine G_iald (y1_42) dX5_bearing_144 ?_
  refine G_iload_n 2 dX5_bearing_145 rfl rfl ?_
  refine G_iconst (v := 1) dX5_bearing_146 (by decide) ?_
  refine G_isub dX5_bearing_147 ?_
  refine G_icmp_ne (tgt := 162) dX5_bearing_148 (by decide) ?_ ?_
  · refine G_iinc (v := x4 + 1) (lv' := [(4, .int (x4 + 1)), (0, .ref (ad X 37)), (1, .int x1), (2, .int x2), (3, .int x3)]) 4 dX5_bearing_162 rfl rfl (by decide) rfl ?_
    refine G_goto (tgt := 97) dX5_bearing_165 (by decide) ?_
    exact G_sub [1, 2, 3, 4, 0] rfl (hk97 x1 x2 x3 (x4 + 1) M9)
  · refine G_aload_n 0 dX5_bearing_151 rfl rfl ?_
    refine G_get 9 clX5 (y1_37) fl_X5_36 dX5_bearing_152 (by decide) rfl rfl ?_
    refine G_iload_n 3 dX5_bearing_155 rfl rfl ?_
    refine G_iload 4 dX5_bearing_156 rfl ?_
    refine G_iast (y1_46) dX5_bearing_158 ?_
    refine G_m (fun M10 => ?_)
    refine G_iinc (v := x3 + 1) (lv' := [(3, .int (x3 + 1)), (0, .ref (ad X 37)), (1, .int x1), (2, .int x2), (4, .int x4)]) 3 dX5_bearing_159 rfl rfl (by decide) rfl ?_
    refine G_iinc (v := x4 + 1) (lv' := [(4, .int (x4 + 1)), (3, .int (x3 + 1)), (0, .ref (ad X 37)), (1, .int x1), (2, .int x2)]) 4 dX5_bearing_162 rfl rfl (by decide) rfl ?_
    refine G_goto (tgt := 97) dX5_bearing_165 (by decide) ?_
    exact G_sub [2, 3, 4, 1, 0] rfl (hk97 x1 x2 (x3 + 1) (x4 + 1) M10)
def f_X5_bearing_97 (k74 : Int32 → Int32 → gM → Option (Int32 × gM)) : Nat → Int32 → Int32 → Int32 → Int32 → gM → Option (Int32 × gM)
  | 0, _, _, _, _, _ => none
  | n + 1, x1, x2, x3, x4, M => (if (2079 : Int32) ≤ x4 then (g_b (f_X5_shrink x3 x2 M) (fun r3 M2 => (f_X5_bearing_177 k74 FU x1 x2 (0 : Int32) M2))) else (g_ck x4 2079 (if (M.1 42 (tn x4)) < (x2 - (1 : Int32)) then (f_X5_bearing_129 (f_X5_bearing_97 k74 n) x1 x2 x3 x4 x4 (0 : Int32) M) else (f_X5_bearing_129 (f_X5_bearing_97 k74 n) x1 x2 x3 x4 x4 (1 : Int32) M))))
set_option maxRecDepth 100000 in
set_option maxHeartbeats 4000000 in
theorem o_X5_bearing_97 {X : gX} {k74 : Int32 → Int32 → gM → Option (Int32 × gM)} (hk74 : ∀ (x1 : Int32) (x2 : Int32) (M : gM), G Y1 jX5_bearing X (g_fin g_ei) 74 [(0, .ref (ad X 37)), (1, .int x1), (2, .int x2)] [] M (k74 x1 x2 M)) : ∀ (n : Nat) (x1 : Int32) (x2 : Int32) (x3 : Int32) (x4 : Int32) (M : gM), G Y1 jX5_bearing X (g_fin g_ei) 97 [(0, .ref (ad X 37)), (1, .int x1), (2, .int x2), (3, .int x3), (4, .int x4)] [] M (f_X5_bearing_97 k74 n x1 x2 x3 x4 M) := by
  intro n
  induction n with
  | zero => intro x1 x2 x3 x4 M; exact G_none
  | succ n ih =>
    intro x1 x2 x3 x4 M
    rw [f_X5_bearing_97]
    refine G_iload 4 dX5_bearing_97 rfl ?_
    refine G_sipush (v := 2079) dX5_bearing_99 (by decide) ?_
    refine G_icmp_ge (tgt := 168) dX5_bearing_102 (by decide) ?_ ?_
    · refine G_aload_n 0 dX5_bearing_168 rfl rfl ?_
      refine G_iload_n 3 dX5_bearing_169 rfl rfl ?_
      refine G_iload_n 2 dX5_bearing_170 rfl rfl ?_
      refine G_cVv (As := [.int x3, .int x2]) (rest := []) (ok_X5_shrink x3 x2 M) rfl (y1_37) rfl mv_X5_116 dX5_bearing_171 rfl rfl (Nat.le_of_ble_eq_true rfl) (g_fitN (by decide) (by decide)) (fun r3 M2 => ?_)
      refine G_iconst (v := 0) dX5_bearing_174 (by decide) ?_
      refine G_istore (lv' := [(4, .int 0), (0, .ref (ad X 37)), (1, .int x1), (2, .int x2), (3, .int x3)]) dX5_bearing_175 (by decide) rfl ?_
      exact G_sub [1, 2, 3, 0] rfl (o_X5_bearing_177 hk74 FU x1 x2 (0 : Int32) M2)
    · refine G_aload_n 0 dX5_bearing_105 rfl rfl ?_
      refine G_get 7 clX5 (y1_37) fl_X5_30 dX5_bearing_106 (by decide) rfl rfl ?_
      refine G_iload 4 dX5_bearing_109 rfl ?_
      refine G_aload_n 0 dX5_bearing_111 rfl rfl ?_
      refine G_get 5 clX5 (y1_37) fl_X5_24 dX5_bearing_112 (by decide) rfl rfl ?_
      refine G_iload 4 dX5_bearing_115 rfl ?_
      refine G_iald (y1_42) dX5_bearing_117 ?_
      refine G_iload_n 2 dX5_bearing_118 rfl rfl ?_
      refine G_iconst (v := 1) dX5_bearing_119 (by decide) ?_
      refine G_isub dX5_bearing_120 ?_
      refine G_icmp_lt (tgt := 128) dX5_bearing_121 (by decide) ?_ ?_
      · refine G_iconst (v := 0) dX5_bearing_128 (by decide) ?_
        exact G_sub [0, 1, 2, 3, 4] rfl (o_X5_bearing_129 ih x1 x2 x3 x4 x4 (0 : Int32) M)
      · refine G_iconst (v := 1) dX5_bearing_124 (by decide) ?_
        refine G_goto (tgt := 129) dX5_bearing_125 (by decide) ?_
        exact G_sub [0, 1, 2, 3, 4] rfl (o_X5_bearing_129 ih x1 x2 x3 x4 x4 (1 : Int32) M)
def f_X5_bearing_74 : Nat → Int32 → Int32 → gM → Option (Int32 × gM)
  | 0, _, _, _ => none
  | n + 1, x1, x2, M => (if (6 : Int32) < x2 then (g_ck x1 2079 (some ((M.1 42 (tn x1)), M))) else (g_ck x1 2079 (if (M.1 42 (tn x1)) = (x2 - (1 : Int32)) then (f_X5_bearing_97 (f_X5_bearing_74 n) FU x1 x2 (0 : Int32) (0 : Int32) M) else (g_ck x1 2079 (some ((M.1 42 (tn x1)), M))))))
set_option maxRecDepth 100000 in
set_option maxHeartbeats 4000000 in
theorem o_X5_bearing_74 {X : gX} : ∀ (n : Nat) (x1 : Int32) (x2 : Int32) (M : gM), G Y1 jX5_bearing X (g_fin g_ei) 74 [(0, .ref (ad X 37)), (1, .int x1), (2, .int x2)] [] M (f_X5_bearing_74 n x1 x2 M) := by
  intro n
  induction n with
  | zero => intro x1 x2 M; exact G_none
  | succ n ih =>
    intro x1 x2 M
    rw [f_X5_bearing_74]
    refine G_iload_n 2 dX5_bearing_74 rfl rfl ?_
    refine G_bipush (v := 6) dX5_bearing_75 (by decide) ?_
    refine G_icmp_gt (tgt := 244) dX5_bearing_77 (by decide) ?_ ?_
    · refine G_aload_n 0 dX5_bearing_244 rfl rfl ?_
      refine G_get 5 clX5 (y1_37) fl_X5_24 dX5_bearing_245 (by decide) rfl rfl ?_
      refine G_iload_n 1 dX5_bearing_248 rfl rfl ?_
      refine G_iald (y1_42) dX5_bearing_249 ?_
      exact G_iret rfl dX5_bearing_250
    · refine G_aload_n 0 dX5_bearing_80 rfl rfl ?_
      refine G_get 5 clX5 (y1_37) fl_X5_24 dX5_bearing_81 (by decide) rfl rfl ?_
      refine G_iload_n 1 dX5_bearing_84 rfl rfl ?_
      refine G_iald (y1_42) dX5_bearing_85 ?_
      refine G_iload_n 2 dX5_bearing_86 rfl rfl ?_
      refine G_iconst (v := 1) dX5_bearing_87 (by decide) ?_
      refine G_isub dX5_bearing_88 ?_
      refine G_icmp_ne (tgt := 244) dX5_bearing_89 (by decide) ?_ ?_
      · refine G_aload_n 0 dX5_bearing_244 rfl rfl ?_
        refine G_get 5 clX5 (y1_37) fl_X5_24 dX5_bearing_245 (by decide) rfl rfl ?_
        refine G_iload_n 1 dX5_bearing_248 rfl rfl ?_
        refine G_iald (y1_42) dX5_bearing_249 ?_
        exact G_iret rfl dX5_bearing_250
      · refine G_iconst (v := 0) dX5_bearing_92 (by decide) ?_
        refine G_istore_n (lv' := [(3, .int 0), (0, .ref (ad X 37)), (1, .int x1), (2, .int x2)]) dX5_bearing_93 rfl (by decide) rfl ?_
        refine G_iconst (v := 0) dX5_bearing_94 (by decide) ?_
        refine G_istore (lv' := [(4, .int 0), (3, .int 0), (0, .ref (ad X 37)), (1, .int x1), (2, .int x2)]) dX5_bearing_95 (by decide) rfl ?_
        exact G_sub [2, 3, 4, 1, 0] rfl (o_X5_bearing_97 ih FU x1 x2 (0 : Int32) (0 : Int32) M)
def f_X5_bearing_15 (k74 : Int32 → Int32 → gM → Option (Int32 × gM)) : Nat → Int32 → Int32 → gM → Option (Int32 × gM)
  | 0, _, _, _ => none
  | n + 1, x1, x2, M => (if (2079 : Int32) ≤ x2 then (g_v ((M.1 37 12) + (1 : Int32)) (fun y12 => (k74 x1 y12 M))) else (g_b (f_X5_isSafe x2 M) (fun r14 M13 => (if r14 then (g_or 3 12 (M13.2.2 27 0) (fun t15 => (g_b (f_X4_isOver t15 x2 M13) (fun r17 M16 => (if r17 then (g_ck x2 2079 (g_m (sI M16 42 (tn x2) (6 : Int32)) (fun M19 => (f_X5_bearing_15 k74 n x1 (x2 + 1) M19)))) else (g_ck x2 2079 (g_m (sI M16 42 (tn x2) (0 : Int32)) (fun M18 => (f_X5_bearing_15 k74 n x1 (x2 + 1) M18))))))))) else (g_ck x2 2079 (g_m (sI M13 42 (tn x2) ((-2) : Int32)) (fun M20 => (f_X5_bearing_15 k74 n x1 (x2 + 1) M20))))))))
set_option maxRecDepth 100000 in
set_option maxHeartbeats 4000000 in
theorem o_X5_bearing_15 {X : gX} {k74 : Int32 → Int32 → gM → Option (Int32 × gM)} (hk74 : ∀ (x1 : Int32) (x2 : Int32) (M : gM), G Y1 jX5_bearing X (g_fin g_ei) 74 [(0, .ref (ad X 37)), (1, .int x1), (2, .int x2)] [] M (k74 x1 x2 M)) : ∀ (n : Nat) (x1 : Int32) (x2 : Int32) (M : gM), G Y1 jX5_bearing X (g_fin g_ei) 15 [(0, .ref (ad X 37)), (1, .int x1), (2, .int x2)] [] M (f_X5_bearing_15 k74 n x1 x2 M) := by
  intro n
  induction n with
  | zero => intro x1 x2 M; exact G_none
  | succ n ih =>
    intro x1 x2 M
    rw [f_X5_bearing_15]
    refine G_iload_n 2 dX5_bearing_15 rfl rfl ?_
    refine G_sipush (v := 2079) dX5_bearing_16 (by decide) ?_
    refine G_icmp_ge (tgt := 67) dX5_bearing_19 (by decide) ?_ ?_
    · refine G_aload_n 0 dX5_bearing_67 rfl rfl ?_
      refine G_get 12 clX5 (y1_37) fl_X5_43 dX5_bearing_68 (by decide) rfl rfl ?_
      refine G_iconst (v := 1) dX5_bearing_71 (by decide) ?_
      refine G_iadd dX5_bearing_72 ?_
      refine G_vi (fun y12 => ?_)
      refine G_istore_n (lv' := [(2, .int y12), (0, .ref (ad X 37)), (1, .int x1)]) dX5_bearing_73 rfl (by decide) rfl ?_
      exact G_sub [1, 2, 0] rfl (hk74 x1 y12 M)
    · refine G_aload_n 0 dX5_bearing_22 rfl rfl ?_
      refine G_get 5 clX5 (y1_37) fl_X5_24 dX5_bearing_23 (by decide) rfl rfl ?_
      refine G_iload_n 2 dX5_bearing_26 rfl rfl ?_
      refine G_aload_n 0 dX5_bearing_27 rfl rfl ?_
      refine G_iload_n 2 dX5_bearing_28 rfl rfl ?_
      refine G_cVb (As := [.int x2]) (rest := [.int x2, .ref (ad X 42)]) (ok_X5_isSafe x2 M) rfl (y1_37) rfl mv_X5_71 dX5_bearing_29 rfl rfl (Nat.le_of_ble_eq_true rfl) (g_fitN (by decide) (by decide)) (fun r14 M13 => ?_)
      refine G_ifB_ne (tgt := 40) dX5_bearing_32 (by decide) ?_ ?_
      · refine G_aload_n 0 dX5_bearing_40 rfl rfl ?_
        refine G_get 0 clX5 (y1_37) fl_X5_39 dX5_bearing_41 (by decide) rfl rfl ?_
        refine G_getO 0 clX0 (y1_27) fl_X5_75 dX5_bearing_44 (by decide) rfl (by decide) (fun t15 ht15 => ?_)
        refine G_iload_n 2 dX5_bearing_47 rfl rfl ?_
        refine G_cVb (As := [.int x2]) (rest := [.int x2, .ref (ad X 42)]) (ok_X4_isOver ht15 x2 M13) rfl (ro_0 ht15) rfl mv_X5_109 dX5_bearing_48 rfl rfl (Nat.le_of_ble_eq_true rfl) (g_fitN (by decide) (by decide)) (fun r17 M16 => ?_)
        refine G_ifB_eq (tgt := 59) dX5_bearing_51 (by decide) ?_ ?_
        · refine G_iconst (v := 0) dX5_bearing_59 (by decide) ?_
          refine G_iast (y1_42) dX5_bearing_60 ?_
          refine G_m (fun M18 => ?_)
          refine G_iinc (v := x2 + 1) (lv' := [(2, .int (x2 + 1)), (0, .ref (ad X 37)), (1, .int x1)]) 2 dX5_bearing_61 rfl rfl (by decide) rfl ?_
          refine G_goto (tgt := 15) dX5_bearing_64 (by decide) ?_
          exact G_sub [1, 2, 0] rfl (ih x1 (x2 + 1) M18)
        · refine G_bipush (v := 6) dX5_bearing_54 (by decide) ?_
          refine G_goto (tgt := 60) dX5_bearing_56 (by decide) ?_
          refine G_iast (y1_42) dX5_bearing_60 ?_
          refine G_m (fun M19 => ?_)
          refine G_iinc (v := x2 + 1) (lv' := [(2, .int (x2 + 1)), (0, .ref (ad X 37)), (1, .int x1)]) 2 dX5_bearing_61 rfl rfl (by decide) rfl ?_
          refine G_goto (tgt := 15) dX5_bearing_64 (by decide) ?_
          exact G_sub [1, 2, 0] rfl (ih x1 (x2 + 1) M19)
      · refine G_bipush (v := (-2)) dX5_bearing_35 (by decide) ?_
        refine G_goto (tgt := 60) dX5_bearing_37 (by decide) ?_
        refine G_iast (y1_42) dX5_bearing_60 ?_
        refine G_m (fun M20 => ?_)
        refine G_iinc (v := x2 + 1) (lv' := [(2, .int (x2 + 1)), (0, .ref (ad X 37)), (1, .int x1)]) 2 dX5_bearing_61 rfl rfl (by decide) rfl ?_
        refine G_goto (tgt := 15) dX5_bearing_64 (by decide) ?_
        exact G_sub [1, 2, 0] rfl (ih x1 (x2 + 1) M20)
def f_X5_bearing (a1 : Int32) (M : gM) : Option (Int32 × gM) := (if (M.1 37 12) = ((-1) : Int32) then (g_m (sI M 37 12 (0 : Int32)) (fun M11 => (f_X5_bearing_15 (f_X5_bearing_74 FU) FU a1 (0 : Int32) M11))) else (g_v ((M.1 37 12) + (1 : Int32)) (fun y1 => (f_X5_bearing_74 FU a1 y1 M))))
set_option maxRecDepth 100000 in
set_option maxHeartbeats 4000000 in
theorem ok_X5_bearing (a1 : Int32) (M : gM) : g_met Y1 yX5_bearing jX5_bearing g_ei (fun Z => [.ref (Z.2.1 37), .int a1]) M (f_X5_bearing a1 M) := by
  refine g_enter (fun Z => [(0, .ref (Z.2.1 37)), (1, .int a1)]) (by decide) rfl (fun Z => Nat.le_of_ble_eq_true rfl) (fun Z => rfl) (fun X => ?_)
  rw [f_X5_bearing]
  refine G_aload_n 0 dX5_bearing_0 rfl rfl ?_
  refine G_get 12 clX5 (y1_37) fl_X5_43 dX5_bearing_1 (by decide) rfl rfl ?_
  refine G_iconst (v := (-1)) dX5_bearing_4 (by decide) ?_
  refine G_icmp_ne (tgt := 67) dX5_bearing_5 (by decide) ?_ ?_
  · refine G_aload_n 0 dX5_bearing_67 rfl rfl ?_
    refine G_get 12 clX5 (y1_37) fl_X5_43 dX5_bearing_68 (by decide) rfl rfl ?_
    refine G_iconst (v := 1) dX5_bearing_71 (by decide) ?_
    refine G_iadd dX5_bearing_72 ?_
    refine G_vi (fun y1 => ?_)
    refine G_istore_n (lv' := [(2, .int y1), (0, .ref (ad X 37)), (1, .int a1)]) dX5_bearing_73 rfl (by decide) rfl ?_
    exact G_sub [1, 2, 0] rfl (o_X5_bearing_74 FU a1 y1 M)
  · refine G_aload_n 0 dX5_bearing_8 rfl rfl ?_
    refine G_iconst (v := 0) dX5_bearing_9 (by decide) ?_
    refine G_putI 12 clX5 (y1_37) fl_X5_43 dX5_bearing_10 (by decide) rfl rfl rfl ?_
    refine G_m (fun M11 => ?_)
    refine G_iconst (v := 0) dX5_bearing_13 (by decide) ?_
    refine G_istore_n (lv' := [(2, .int 0), (0, .ref (ad X 37)), (1, .int a1)]) dX5_bearing_14 rfl (by decide) rfl ?_
    exact G_sub [1, 2, 0] rfl (o_X5_bearing_15 (o_X5_bearing_74 FU) FU a1 (0 : Int32) M11)
-- X5_leastPole
def f_X5_leastPole_213 (x2 : Int32) (x3 : Int32) (M : gM) : Option (Int32 × gM) := (if (M.1 27 1) = x2 then (some (x3, M)) else (g_or 3 12 (M.2.2 27 0) (fun t2 => (g_b (f_X0_settle t2 x2 M) (fun r4 M3 => (some (x3, M3)))))))
set_option maxRecDepth 100000 in
set_option maxHeartbeats 4000000 in
theorem o_X5_leastPole_213 {X : gX} (x2 : Int32) (x3 : Int32) (M : gM) : G Y1 jX5_leastPole X (g_fin g_ei) 213 [(0, .ref (ad X 37)), (2, .int x2), (3, .int x3)] [] M (f_X5_leastPole_213 x2 x3 M) := by
  rw [f_X5_leastPole_213]
  refine G_aload_n 0 dX5_leastPole_213 rfl rfl ?_
  refine G_get 0 clX5 (y1_37) fl_X5_39 dX5_leastPole_214 (by decide) rfl rfl ?_
  refine G_get 1 clX0 (y1_27) fl_X5_120 dX5_leastPole_217 (by decide) rfl rfl ?_
  refine G_iload_n 1 dX5_leastPole_220 rfl rfl ?_
  refine G_icmp_eq (tgt := 239) dX5_leastPole_221 (by decide) ?_ ?_
  · refine G_iload_n 2 dX5_leastPole_239 rfl rfl ?_
    exact G_iret rfl dX5_leastPole_240
  · refine G_aload_n 0 dX5_leastPole_224 rfl rfl ?_
    refine G_get 0 clX5 (y1_37) fl_X5_39 dX5_leastPole_225 (by decide) rfl rfl ?_
    refine G_aload_n 0 dX5_leastPole_228 rfl rfl ?_
    refine G_get 0 clX5 (y1_37) fl_X5_39 dX5_leastPole_229 (by decide) rfl rfl ?_
    refine G_getO 0 clX0 (y1_27) fl_X5_75 dX5_leastPole_232 (by decide) rfl (by decide) (fun t2 ht2 => ?_)
    refine G_iload_n 1 dX5_leastPole_235 rfl rfl ?_
    refine G_cVv (As := [.ref (ad X t2), .int x2]) (rest := []) (ok_X0_settle ht2 x2 M) rfl (y1_27) rfl mv_X5_123 dX5_leastPole_236 rfl rfl (Nat.le_of_ble_eq_true rfl) (g_fitN (by decide) (by decide)) (fun r4 M3 => ?_)
    refine G_iload_n 2 dX5_leastPole_239 rfl rfl ?_
    exact G_iret rfl dX5_leastPole_240
def f_X5_leastPole_189 (k14 : Int32 → Int32 → Int32 → Int32 → gM → Option (Int32 × gM)) (x1 : Int32) (x2 : Int32) (x3 : Int32) (x4 : Int32) (M : gM) : Option (Int32 × gM) := (g_ck x1 2079 (if (((M.1 43 (tn x1)) >>> (x4 &&& 31)) &&& (1 : Int32)) = (1 : Int32) then (k14 x1 x2 x4 (x4 + 1) M) else (k14 x1 x2 x3 (x4 + 1) M)))
set_option maxRecDepth 100000 in
set_option maxHeartbeats 4000000 in
theorem o_X5_leastPole_189 {X : gX} {k14 : Int32 → Int32 → Int32 → Int32 → gM → Option (Int32 × gM)} (hk14 : ∀ (x1 : Int32) (x2 : Int32) (x3 : Int32) (x4 : Int32) (M : gM), G Y1 jX5_leastPole X (g_fin g_ei) 14 [(0, .ref (ad X 37)), (1, .int x1), (2, .int x2), (3, .int x3), (4, .int x4)] [] M (k14 x1 x2 x3 x4 M)) (x1 : Int32) (x2 : Int32) (x3 : Int32) (x4 : Int32) (M : gM) : G Y1 jX5_leastPole X (g_fin g_ei) 189 [(0, .ref (ad X 37)), (1, .int x1), (2, .int x2), (3, .int x3), (4, .int x4)] [] M (f_X5_leastPole_189 k14 x1 x2 x3 x4 M) := by
  rw [f_X5_leastPole_189]
  refine G_aload_n 0 dX5_leastPole_189 rfl rfl ?_
  refine G_get 6 clX5 (y1_37) fl_X5_27 dX5_leastPole_190 (by decide) rfl rfl ?_
  refine G_iload_n 1 dX5_leastPole_193 rfl rfl ?_
  refine G_iald (y1_43) dX5_leastPole_194 ?_
  refine G_iload 4 dX5_leastPole_195 rfl ?_
  refine G_ishr dX5_leastPole_197 ?_
  refine G_iconst (v := 1) dX5_leastPole_198 (by decide) ?_
  refine G_iand dX5_leastPole_199 ?_
  refine G_iconst (v := 1) dX5_leastPole_200 (by decide) ?_
  refine G_icmp_ne (tgt := 207) dX5_leastPole_201 (by decide) ?_ ?_
  · refine G_iinc (v := x4 + 1) (lv' := [(4, .int (x4 + 1)), (0, .ref (ad X 37)), (1, .int x1), (2, .int x2), (3, .int x3)]) 4 dX5_leastPole_207 rfl rfl (by decide) rfl ?_
    refine G_goto (tgt := 14) dX5_leastPole_210 (by decide) ?_
    exact G_sub [1, 2, 3, 4, 0] rfl (hk14 x1 x2 x3 (x4 + 1) M)
  · refine G_iload 4 dX5_leastPole_204 rfl ?_
    refine G_istore_n (lv' := [(3, .int x4), (0, .ref (ad X 37)), (1, .int x1), (2, .int x2), (4, .int x4)]) dX5_leastPole_206 rfl (by decide) rfl ?_
    refine G_iinc (v := x4 + 1) (lv' := [(4, .int (x4 + 1)), (3, .int x4), (0, .ref (ad X 37)), (1, .int x1), (2, .int x2)]) 4 dX5_leastPole_207 rfl rfl (by decide) rfl ?_
    refine G_goto (tgt := 14) dX5_leastPole_210 (by decide) ?_
    exact G_sub [2, 3, 4, 1, 0] rfl (hk14 x1 x2 x4 (x4 + 1) M)
def f_X5_leastPole_130 (k189 : Int32 → Int32 → Int32 → Int32 → gM → Option (Int32 × gM)) : Nat → Int32 → Int32 → Int32 → Int32 → Int32 → gM → Option (Int32 × gM)
  | 0, _, _, _, _, _, _ => none
  | n + 1, x1, x2, x3, x4, x5, M => (if (2079 : Int32) ≤ x5 then (g_m (sI M 37 13 ((M.1 37 13) ||| ((1 : Int32) <<< (x4 &&& 31)))) (fun M9 => (k189 x1 x2 x3 x4 M9))) else (g_ck x5 2079 (g_ck x5 2079 (g_ck x5 2079 (g_m (sI M 43 (tn x5) (((M.1 43 (tn x5)) &&& (((1 : Int32) <<< (x4 &&& 31)) ^^^ ((-1) : Int32))) ||| ((M.1 44 (tn x5)) <<< (x4 &&& 31)))) (fun M10 => (f_X5_leastPole_130 k189 n x1 x2 x3 x4 (x5 + 1) M10)))))))
set_option maxRecDepth 100000 in
set_option maxHeartbeats 4000000 in
theorem o_X5_leastPole_130 {X : gX} {k189 : Int32 → Int32 → Int32 → Int32 → gM → Option (Int32 × gM)} (hk189 : ∀ (x1 : Int32) (x2 : Int32) (x3 : Int32) (x4 : Int32) (M : gM), G Y1 jX5_leastPole X (g_fin g_ei) 189 [(0, .ref (ad X 37)), (1, .int x1), (2, .int x2), (3, .int x3), (4, .int x4)] [] M (k189 x1 x2 x3 x4 M)) : ∀ (n : Nat) (x1 : Int32) (x2 : Int32) (x3 : Int32) (x4 : Int32) (x5 : Int32) (M : gM), G Y1 jX5_leastPole X (g_fin g_ei) 130 [(0, .ref (ad X 37)), (1, .int x1), (2, .int x2), (3, .int x3), (4, .int x4), (5, .int x5)] [] M (f_X5_leastPole_130 k189 n x1 x2 x3 x4 x5 M) := by
  intro n
  induction n with
  | zero => intro x1 x2 x3 x4 x5 M; exact G_none
  | succ n ih =>
    intro x1 x2 x3 x4 x5 M
    rw [f_X5_leastPole_130]
    refine G_iload 5 dX5_leastPole_130 rfl ?_
    refine G_sipush (v := 2079) dX5_leastPole_132 (by decide) ?_
    refine G_icmp_ge (tgt := 176) dX5_leastPole_135 (by decide) ?_ ?_
    · refine G_aload_n 0 dX5_leastPole_176 rfl rfl ?_
      refine G_dup dX5_leastPole_177 rfl ?_
      refine G_get 13 clX5 (y1_37) fl_X5_47 dX5_leastPole_178 (by decide) rfl rfl ?_
      refine G_iconst (v := 1) dX5_leastPole_181 (by decide) ?_
      refine G_iload 4 dX5_leastPole_182 rfl ?_
      refine G_ishl dX5_leastPole_184 ?_
      refine G_ior dX5_leastPole_185 ?_
      refine G_putI 13 clX5 (y1_37) fl_X5_47 dX5_leastPole_186 (by decide) rfl rfl rfl ?_
      refine G_m (fun M9 => ?_)
      exact G_sub [0, 1, 2, 3, 4] rfl (hk189 x1 x2 x3 x4 M9)
    · refine G_aload_n 0 dX5_leastPole_138 rfl rfl ?_
      refine G_get 6 clX5 (y1_37) fl_X5_27 dX5_leastPole_139 (by decide) rfl rfl ?_
      refine G_iload 5 dX5_leastPole_142 rfl ?_
      refine G_aload_n 0 dX5_leastPole_144 rfl rfl ?_
      refine G_get 6 clX5 (y1_37) fl_X5_27 dX5_leastPole_145 (by decide) rfl rfl ?_
      refine G_iload 5 dX5_leastPole_148 rfl ?_
      refine G_iald (y1_43) dX5_leastPole_150 ?_
      refine G_iconst (v := 1) dX5_leastPole_151 (by decide) ?_
      refine G_iload 4 dX5_leastPole_152 rfl ?_
      refine G_ishl dX5_leastPole_154 ?_
      refine G_iconst (v := (-1)) dX5_leastPole_155 (by decide) ?_
      refine G_ixor dX5_leastPole_156 ?_
      refine G_iand dX5_leastPole_157 ?_
      refine G_aload_n 0 dX5_leastPole_158 rfl rfl ?_
      refine G_get 7 clX5 (y1_37) fl_X5_30 dX5_leastPole_159 (by decide) rfl rfl ?_
      refine G_iload 5 dX5_leastPole_162 rfl ?_
      refine G_iald (y1_44) dX5_leastPole_164 ?_
      refine G_iload 4 dX5_leastPole_165 rfl ?_
      refine G_ishl dX5_leastPole_167 ?_
      refine G_ior dX5_leastPole_168 ?_
      refine G_iast (y1_43) dX5_leastPole_169 ?_
      refine G_m (fun M10 => ?_)
      refine G_iinc (v := x5 + 1) (lv' := [(5, .int (x5 + 1)), (0, .ref (ad X 37)), (1, .int x1), (2, .int x2), (3, .int x3), (4, .int x4)]) 5 dX5_leastPole_170 rfl rfl (by decide) rfl ?_
      refine G_goto (tgt := 130) dX5_leastPole_173 (by decide) ?_
      exact G_sub [1, 2, 3, 4, 5, 0] rfl (ih x1 x2 x3 x4 (x5 + 1) M10)
def f_X5_leastPole_69 (k189 : Int32 → Int32 → Int32 → Int32 → gM → Option (Int32 × gM)) : Nat → Int32 → Int32 → Int32 → Int32 → Int32 → gM → Option (Int32 × gM)
  | 0, _, _, _, _, _, _ => none
  | n + 1, x1, x2, x3, x4, x5, M => (if (2079 : Int32) ≤ x5 then (g_b (f_X5_listOpen M) (fun r6 M5 => (g_b (f_X5_shrink r6 (0 : Int32) M5) (fun r8 M7 => (f_X5_leastPole_130 k189 FU x1 x2 x3 x4 (0 : Int32) M7))))) else (g_or 3 12 (M.2.2 27 0) (fun t11 => (g_b (f_X4_has t11 x5 M) (fun r13 M12 => (if r13 then (g_ck x5 2079 (g_m (sI M12 44 (tn x5) (1 : Int32)) (fun M16 => (g_ck x5 2079 (g_m (sI M16 45 (tn x5) (0 : Int32)) (fun M17 => (f_X5_leastPole_69 k189 n x1 x2 x3 x4 (x5 + 1) M17))))))) else (g_ck x5 2079 (g_m (sI M12 44 (tn x5) (0 : Int32)) (fun M14 => (g_ck x5 2079 (g_m (sI M14 45 (tn x5) (0 : Int32)) (fun M15 => (f_X5_leastPole_69 k189 n x1 x2 x3 x4 (x5 + 1) M15)))))))))))))
set_option maxRecDepth 100000 in
set_option maxHeartbeats 4000000 in
theorem o_X5_leastPole_69 {X : gX} {k189 : Int32 → Int32 → Int32 → Int32 → gM → Option (Int32 × gM)} (hk189 : ∀ (x1 : Int32) (x2 : Int32) (x3 : Int32) (x4 : Int32) (M : gM), G Y1 jX5_leastPole X (g_fin g_ei) 189 [(0, .ref (ad X 37)), (1, .int x1), (2, .int x2), (3, .int x3), (4, .int x4)] [] M (k189 x1 x2 x3 x4 M)) : ∀ (n : Nat) (x1 : Int32) (x2 : Int32) (x3 : Int32) (x4 : Int32) (x5 : Int32) (M : gM), G Y1 jX5_leastPole X (g_fin g_ei) 69 [(0, .ref (ad X 37)), (1, .int x1), (2, .int x2), (3, .int x3), (4, .int x4), (5, .int x5)] [] M (f_X5_leastPole_69 k189 n x1 x2 x3 x4 x5 M) := by
  intro n
  induction n with
  | zero => intro x1 x2 x3 x4 x5 M; exact G_none
  | succ n ih =>
    intro x1 x2 x3 x4 x5 M
    rw [f_X5_leastPole_69]
    refine G_iload 5 dX5_leastPole_69 rfl ?_
    refine G_sipush (v := 2079) dX5_leastPole_71 (by decide) ?_
    refine G_icmp_ge (tgt := 118) dX5_leastPole_74 (by decide) ?_ ?_
    · refine G_aload_n 0 dX5_leastPole_118 rfl rfl ?_
      refine G_aload_n 0 dX5_leastPole_119 rfl rfl ?_
      refine G_cVi (As := []) (rest := [.ref (ad X 37)]) (ok_X5_listOpen M) rfl (y1_37) rfl mv_X5_94 dX5_leastPole_120 rfl rfl (Nat.le_of_ble_eq_true rfl) (g_fitN (by decide) (by decide)) (fun r6 M5 => ?_)
      refine G_iconst (v := 0) dX5_leastPole_123 (by decide) ?_
      refine G_cVv (As := [.int r6, .int 0]) (rest := []) (ok_X5_shrink r6 (0 : Int32) M5) rfl (y1_37) rfl mv_X5_116 dX5_leastPole_124 rfl rfl (Nat.le_of_ble_eq_true rfl) (g_fitN (by decide) (by decide)) (fun r8 M7 => ?_)
      refine G_iconst (v := 0) dX5_leastPole_127 (by decide) ?_
      refine G_istore (lv' := [(5, .int 0), (0, .ref (ad X 37)), (1, .int x1), (2, .int x2), (3, .int x3), (4, .int x4)]) dX5_leastPole_128 (by decide) rfl ?_
      exact G_sub [1, 2, 3, 4, 5, 0] rfl (o_X5_leastPole_130 hk189 FU x1 x2 x3 x4 (0 : Int32) M7)
    · refine G_aload_n 0 dX5_leastPole_77 rfl rfl ?_
      refine G_get 7 clX5 (y1_37) fl_X5_30 dX5_leastPole_78 (by decide) rfl rfl ?_
      refine G_iload 5 dX5_leastPole_81 rfl ?_
      refine G_aload_n 0 dX5_leastPole_83 rfl rfl ?_
      refine G_get 0 clX5 (y1_37) fl_X5_39 dX5_leastPole_84 (by decide) rfl rfl ?_
      refine G_getO 0 clX0 (y1_27) fl_X5_75 dX5_leastPole_87 (by decide) rfl (by decide) (fun t11 ht11 => ?_)
      refine G_iload 5 dX5_leastPole_90 rfl ?_
      refine G_cVb (As := [.int x5]) (rest := [.int x5, .ref (ad X 44)]) (ok_X4_has ht11 x5 M) rfl (ro_0 ht11) rfl mv_X5_84 dX5_leastPole_92 rfl rfl (Nat.le_of_ble_eq_true rfl) (g_fitN (by decide) (by decide)) (fun r13 M12 => ?_)
      refine G_ifB_eq (tgt := 102) dX5_leastPole_95 (by decide) ?_ ?_
      · refine G_iconst (v := 0) dX5_leastPole_102 (by decide) ?_
        refine G_iast (y1_44) dX5_leastPole_103 ?_
        refine G_m (fun M14 => ?_)
        refine G_aload_n 0 dX5_leastPole_104 rfl rfl ?_
        refine G_get 8 clX5 (y1_37) fl_X5_33 dX5_leastPole_105 (by decide) rfl rfl ?_
        refine G_iload 5 dX5_leastPole_108 rfl ?_
        refine G_iconst (v := 0) dX5_leastPole_110 (by decide) ?_
        refine G_iast (y1_45) dX5_leastPole_111 ?_
        refine G_m (fun M15 => ?_)
        refine G_iinc (v := x5 + 1) (lv' := [(5, .int (x5 + 1)), (0, .ref (ad X 37)), (1, .int x1), (2, .int x2), (3, .int x3), (4, .int x4)]) 5 dX5_leastPole_112 rfl rfl (by decide) rfl ?_
        refine G_goto (tgt := 69) dX5_leastPole_115 (by decide) ?_
        exact G_sub [1, 2, 3, 4, 5, 0] rfl (ih x1 x2 x3 x4 (x5 + 1) M15)
      · refine G_iconst (v := 1) dX5_leastPole_98 (by decide) ?_
        refine G_goto (tgt := 103) dX5_leastPole_99 (by decide) ?_
        refine G_iast (y1_44) dX5_leastPole_103 ?_
        refine G_m (fun M16 => ?_)
        refine G_aload_n 0 dX5_leastPole_104 rfl rfl ?_
        refine G_get 8 clX5 (y1_37) fl_X5_33 dX5_leastPole_105 (by decide) rfl rfl ?_
        refine G_iload 5 dX5_leastPole_108 rfl ?_
        refine G_iconst (v := 0) dX5_leastPole_110 (by decide) ?_
        refine G_iast (y1_45) dX5_leastPole_111 ?_
        refine G_m (fun M17 => ?_)
        refine G_iinc (v := x5 + 1) (lv' := [(5, .int (x5 + 1)), (0, .ref (ad X 37)), (1, .int x1), (2, .int x2), (3, .int x3), (4, .int x4)]) 5 dX5_leastPole_112 rfl rfl (by decide) rfl ?_
        refine G_goto (tgt := 69) dX5_leastPole_115 (by decide) ?_
        exact G_sub [1, 2, 3, 4, 5, 0] rfl (ih x1 x2 x3 x4 (x5 + 1) M17)
def f_X5_leastPole_14 : Nat → Int32 → Int32 → Int32 → Int32 → gM → Option (Int32 × gM)
  | 0, _, _, _, _, _ => none
  | n + 1, x1, x2, x3, x4, M => (if (4 : Int32) < x4 then (f_X5_leastPole_213 x2 x3 M) else (if x3 = ((-2) : Int32) then (if (((M.1 37 13) >>> (x4 &&& 31)) &&& (1 : Int32)) = 0 then (if (M.1 27 1) = x4 then (f_X5_leastPole_69 (f_X5_leastPole_189 (f_X5_leastPole_14 n)) FU x1 x2 x3 x4 (0 : Int32) M) else (g_or 3 12 (M.2.2 27 0) (fun t18 => (g_b (f_X0_settle t18 x4 M) (fun r20 M19 => (f_X5_leastPole_69 (f_X5_leastPole_189 (f_X5_leastPole_14 n)) FU x1 x2 x3 x4 (0 : Int32) M19)))))) else (f_X5_leastPole_189 (f_X5_leastPole_14 n) x1 x2 x3 x4 M)) else (f_X5_leastPole_213 x2 x3 M)))
set_option maxRecDepth 100000 in
set_option maxHeartbeats 4000000 in
theorem o_X5_leastPole_14 {X : gX} : ∀ (n : Nat) (x1 : Int32) (x2 : Int32) (x3 : Int32) (x4 : Int32) (M : gM), G Y1 jX5_leastPole X (g_fin g_ei) 14 [(0, .ref (ad X 37)), (1, .int x1), (2, .int x2), (3, .int x3), (4, .int x4)] [] M (f_X5_leastPole_14 n x1 x2 x3 x4 M) := by
  intro n
  induction n with
  | zero => intro x1 x2 x3 x4 M; exact G_none
  | succ n ih =>
    intro x1 x2 x3 x4 M
    rw [f_X5_leastPole_14]
    refine G_iload 4 dX5_leastPole_14 rfl ?_
    refine G_iconst (v := 4) dX5_leastPole_16 (by decide) ?_
    refine G_icmp_gt (tgt := 213) dX5_leastPole_17 (by decide) ?_ ?_
    · exact G_sub [0, 2, 3] rfl (o_X5_leastPole_213 x2 x3 M)
    · refine G_iload_n 3 dX5_leastPole_20 rfl rfl ?_
      refine G_bipush (v := (-2)) dX5_leastPole_21 (by decide) ?_
      refine G_icmp_ne (tgt := 213) dX5_leastPole_23 (by decide) ?_ ?_
      · exact G_sub [0, 2, 3] rfl (o_X5_leastPole_213 x2 x3 M)
      · refine G_aload_n 0 dX5_leastPole_26 rfl rfl ?_
        refine G_get 13 clX5 (y1_37) fl_X5_47 dX5_leastPole_27 (by decide) rfl rfl ?_
        refine G_iload 4 dX5_leastPole_30 rfl ?_
        refine G_ishr dX5_leastPole_32 ?_
        refine G_iconst (v := 1) dX5_leastPole_33 (by decide) ?_
        refine G_iand dX5_leastPole_34 ?_
        refine G_if_ne (tgt := 189) dX5_leastPole_35 (by decide) ?_ ?_
        · exact G_sub [0, 1, 2, 3, 4] rfl (o_X5_leastPole_189 ih x1 x2 x3 x4 M)
        · refine G_aload_n 0 dX5_leastPole_38 rfl rfl ?_
          refine G_get 0 clX5 (y1_37) fl_X5_39 dX5_leastPole_39 (by decide) rfl rfl ?_
          refine G_get 1 clX0 (y1_27) fl_X5_120 dX5_leastPole_42 (by decide) rfl rfl ?_
          refine G_iload 4 dX5_leastPole_45 rfl ?_
          refine G_icmp_eq (tgt := 66) dX5_leastPole_47 (by decide) ?_ ?_
          · refine G_iconst (v := 0) dX5_leastPole_66 (by decide) ?_
            refine G_istore (lv' := [(5, .int 0), (0, .ref (ad X 37)), (1, .int x1), (2, .int x2), (3, .int x3), (4, .int x4)]) dX5_leastPole_67 (by decide) rfl ?_
            exact G_sub [1, 2, 3, 4, 5, 0] rfl (o_X5_leastPole_69 (o_X5_leastPole_189 ih) FU x1 x2 x3 x4 (0 : Int32) M)
          · refine G_aload_n 0 dX5_leastPole_50 rfl rfl ?_
            refine G_get 0 clX5 (y1_37) fl_X5_39 dX5_leastPole_51 (by decide) rfl rfl ?_
            refine G_aload_n 0 dX5_leastPole_54 rfl rfl ?_
            refine G_get 0 clX5 (y1_37) fl_X5_39 dX5_leastPole_55 (by decide) rfl rfl ?_
            refine G_getO 0 clX0 (y1_27) fl_X5_75 dX5_leastPole_58 (by decide) rfl (by decide) (fun t18 ht18 => ?_)
            refine G_iload 4 dX5_leastPole_61 rfl ?_
            refine G_cVv (As := [.ref (ad X t18), .int x4]) (rest := []) (ok_X0_settle ht18 x4 M) rfl (y1_27) rfl mv_X5_123 dX5_leastPole_63 rfl rfl (Nat.le_of_ble_eq_true rfl) (g_fitN (by decide) (by decide)) (fun r20 M19 => ?_)
            refine G_iconst (v := 0) dX5_leastPole_66 (by decide) ?_
            refine G_istore (lv' := [(5, .int 0), (0, .ref (ad X 37)), (1, .int x1), (2, .int x2), (3, .int x3), (4, .int x4)]) dX5_leastPole_67 (by decide) rfl ?_
            exact G_sub [1, 2, 3, 4, 5, 0] rfl (o_X5_leastPole_69 (o_X5_leastPole_189 ih) FU x1 x2 x3 x4 (0 : Int32) M19)
def f_X5_leastPole (a1 : Int32) (M : gM) : Option (Int32 × gM) := (g_v (M.1 27 1) (fun y1 => (f_X5_leastPole_14 FU a1 y1 ((-2) : Int32) (1 : Int32) M)))
set_option maxRecDepth 100000 in
set_option maxHeartbeats 4000000 in
theorem ok_X5_leastPole (a1 : Int32) (M : gM) : g_met Y1 yX5_leastPole jX5_leastPole g_ei (fun Z => [.ref (Z.2.1 37), .int a1]) M (f_X5_leastPole a1 M) := by
  refine g_enter (fun Z => [(0, .ref (Z.2.1 37)), (1, .int a1)]) (by decide) rfl (fun Z => Nat.le_of_ble_eq_true rfl) (fun Z => rfl) (fun X => ?_)
  rw [f_X5_leastPole]
  refine G_aload_n 0 dX5_leastPole_0 rfl rfl ?_
  refine G_get 0 clX5 (y1_37) fl_X5_39 dX5_leastPole_1 (by decide) rfl rfl ?_
  refine G_get 1 clX0 (y1_27) fl_X5_120 dX5_leastPole_4 (by decide) rfl rfl ?_
  refine G_vi (fun y1 => ?_)
  refine G_istore_n (lv' := [(2, .int y1), (0, .ref (ad X 37)), (1, .int a1)]) dX5_leastPole_7 rfl (by decide) rfl ?_
  refine G_bipush (v := (-2)) dX5_leastPole_8 (by decide) ?_
  refine G_istore_n (lv' := [(3, .int (-2)), (2, .int y1), (0, .ref (ad X 37)), (1, .int a1)]) dX5_leastPole_10 rfl (by decide) rfl ?_
  refine G_iconst (v := 1) dX5_leastPole_11 (by decide) ?_
  refine G_istore (lv' := [(4, .int 1), (3, .int (-2)), (2, .int y1), (0, .ref (ad X 37)), (1, .int a1)]) dX5_leastPole_12 (by decide) rfl ?_
  exact G_sub [3, 4, 2, 1, 0] rfl (o_X5_leastPole_14 FU a1 y1 ((-2) : Int32) (1 : Int32) M)
-- X6_addForecast
def f_X6_addForecast (a1 : Int32) (M : gM) : Option (Int32 × gM) := (if (M.1 57 1) < (24 : Int32) then (g_ck (M.1 57 1) 24 (g_m (sI M 58 (tn (M.1 57 1)) a1) (fun M1 => (g_m (sI M1 57 1 ((M1.1 57 1) + (1 : Int32))) (fun M2 => (g_m (sI M2 57 4 ((-1) : Int32)) (fun M3 => (some ((M3.1 57 1), M3))))))))) else (some (((-1) : Int32), M)))
set_option maxRecDepth 100000 in
set_option maxHeartbeats 4000000 in
theorem ok_X6_addForecast (a1 : Int32) (M : gM) : g_met Y1 yX6_addForecast jX6_addForecast g_ei (fun Z => [.ref (Z.2.1 57), .int a1]) M (f_X6_addForecast a1 M) := by
  refine g_enter (fun Z => [(0, .ref (Z.2.1 57)), (1, .int a1)]) (by decide) rfl (fun Z => Nat.le_of_ble_eq_true rfl) (fun Z => rfl) (fun X => ?_)
  rw [f_X6_addForecast]
  refine G_aload_n 0 dX6_addForecast_0 rfl rfl ?_
  refine G_get 1 clX6 (y1_57) fl_X6_44 dX6_addForecast_1 (by decide) rfl rfl ?_
  refine G_bipush (v := 24) dX6_addForecast_4 (by decide) ?_
  refine G_icmp_lt (tgt := 11) dX6_addForecast_6 (by decide) ?_ ?_
  · refine G_aload_n 0 dX6_addForecast_11 rfl rfl ?_
    refine G_get 2 clX6 (y1_57) fl_X6_11 dX6_addForecast_12 (by decide) rfl rfl ?_
    refine G_aload_n 0 dX6_addForecast_15 rfl rfl ?_
    refine G_get 1 clX6 (y1_57) fl_X6_44 dX6_addForecast_16 (by decide) rfl rfl ?_
    refine G_iload_n 1 dX6_addForecast_19 rfl rfl ?_
    refine G_iast (y1_58) dX6_addForecast_20 ?_
    refine G_m (fun M1 => ?_)
    refine G_aload_n 0 dX6_addForecast_21 rfl rfl ?_
    refine G_dup dX6_addForecast_22 rfl ?_
    refine G_get 1 clX6 (y1_57) fl_X6_44 dX6_addForecast_23 (by decide) rfl rfl ?_
    refine G_iconst (v := 1) dX6_addForecast_26 (by decide) ?_
    refine G_iadd dX6_addForecast_27 ?_
    refine G_putI 1 clX6 (y1_57) fl_X6_44 dX6_addForecast_28 (by decide) rfl rfl rfl ?_
    refine G_m (fun M2 => ?_)
    refine G_aload_n 0 dX6_addForecast_31 rfl rfl ?_
    refine G_iconst (v := (-1)) dX6_addForecast_32 (by decide) ?_
    refine G_putI 4 clX6 (y1_57) fl_X6_40 dX6_addForecast_33 (by decide) rfl rfl rfl ?_
    refine G_m (fun M3 => ?_)
    refine G_aload_n 0 dX6_addForecast_36 rfl rfl ?_
    refine G_get 1 clX6 (y1_57) fl_X6_44 dX6_addForecast_37 (by decide) rfl rfl ?_
    exact G_iret rfl dX6_addForecast_40
  · refine G_iconst (v := (-1)) dX6_addForecast_9 (by decide) ?_
    exact G_iret rfl dX6_addForecast_10
-- X6_dropForecasts
def f_X6_dropForecasts (M : gM) : Option (Unit × gM) := (g_m (sI M 57 1 (0 : Int32)) (fun M1 => (g_m (sI M1 57 4 ((-1) : Int32)) (fun M2 => (some ((), M2))))))
set_option maxRecDepth 100000 in
set_option maxHeartbeats 4000000 in
theorem ok_X6_dropForecasts (M : gM) : g_met Y1 yX6_dropForecasts jX6_dropForecasts g_ev (fun Z => [.ref (Z.2.1 57)]) M (f_X6_dropForecasts M) := by
  refine g_enter (fun Z => [(0, .ref (Z.2.1 57))]) (by decide) rfl (fun Z => Nat.le_of_ble_eq_true rfl) (fun Z => rfl) (fun X => ?_)
  rw [f_X6_dropForecasts]
  refine G_aload_n 0 dX6_dropForecasts_0 rfl rfl ?_
  refine G_iconst (v := 0) dX6_dropForecasts_1 (by decide) ?_
  refine G_putI 1 clX6 (y1_57) fl_X6_44 dX6_dropForecasts_2 (by decide) rfl rfl rfl ?_
  refine G_m (fun M1 => ?_)
  refine G_aload_n 0 dX6_dropForecasts_5 rfl rfl ?_
  refine G_iconst (v := (-1)) dX6_dropForecasts_6 (by decide) ?_
  refine G_putI 4 clX6 (y1_57) fl_X6_40 dX6_dropForecasts_7 (by decide) rfl rfl rfl ?_
  refine G_m (fun M2 => ?_)
  exact G_vret rfl dX6_dropForecasts_10
-- X6_dropPlan
def f_X6_dropPlan (M : gM) : Option (Unit × gM) := (g_m (sI M 57 4 ((-1) : Int32)) (fun M1 => (some ((), M1))))
set_option maxRecDepth 100000 in
set_option maxHeartbeats 4000000 in
theorem ok_X6_dropPlan (M : gM) : g_met Y1 yX6_dropPlan jX6_dropPlan g_ev (fun Z => [.ref (Z.2.1 57)]) M (f_X6_dropPlan M) := by
  refine g_enter (fun Z => [(0, .ref (Z.2.1 57))]) (by decide) rfl (fun Z => Nat.le_of_ble_eq_true rfl) (fun Z => rfl) (fun X => ?_)
  rw [f_X6_dropPlan]
  refine G_aload_n 0 dX6_dropPlan_0 rfl rfl ?_
  refine G_iconst (v := (-1)) dX6_dropPlan_1 (by decide) ?_
  refine G_putI 4 clX6 (y1_57) fl_X6_40 dX6_dropPlan_2 (by decide) rfl rfl rfl ?_
  refine G_m (fun M1 => ?_)
  exact G_vret rfl dX6_dropPlan_5
-- X6_goForwards
def f_X6_goForwards_80 (k42 : Int32 → Int32 → Int32 → Int32 → Int32 → gM → Option (Bool × gM)) (x1 : Int32) (x2 : Int32) (x3 : Int32) (x4 : Int32) (x5 : Int32) (s0 : Int32) (M : gM) : Option (Bool × gM) := (if s0 < 0 then (k42 x1 x2 x3 x4 (x5 + 1) M) else (g_ck s0 2079 (g_ck s0 2079 (g_m (sI M 60 (tn s0) ((M.1 60 (tn s0)) ||| ((1 : Int32) <<< ((x1 + (1 : Int32)) &&& 31)))) (fun M1 => (if x2 = 0 then (g_or 3 12 (M1.2.2 27 0) (fun t2 => (g_b (f_X4_isOver t2 s0 M1) (fun r4 M3 => (if r4 then (k42 x1 (1 : Int32) x3 x4 (x5 + 1) M3) else (k42 x1 (0 : Int32) x3 x4 (x5 + 1) M3)))))) else (k42 x1 (1 : Int32) x3 x4 (x5 + 1) M1)))))))
set_option maxRecDepth 100000 in
set_option maxHeartbeats 4000000 in
theorem o_X6_goForwards_80 {X : gX} {k42 : Int32 → Int32 → Int32 → Int32 → Int32 → gM → Option (Bool × gM)} (hk42 : ∀ (x1 : Int32) (x2 : Int32) (x3 : Int32) (x4 : Int32) (x5 : Int32) (M : gM), G Y1 jX6_goForwards X (g_fin g_eb) 42 [(0, .ref (ad X 57)), (1, .int x1), (2, .int x2), (3, .int x3), (4, .int x4), (5, .int x5)] [] M (k42 x1 x2 x3 x4 x5 M)) (x1 : Int32) (x2 : Int32) (x3 : Int32) (x4 : Int32) (x5 : Int32) (s0 : Int32) (M : gM) : G Y1 jX6_goForwards X (g_fin g_eb) 80 [(0, .ref (ad X 57)), (1, .int x1), (2, .int x2), (3, .int x3), (4, .int x4), (5, .int x5)] [.int s0] M (f_X6_goForwards_80 k42 x1 x2 x3 x4 x5 s0 M) := by
  rw [f_X6_goForwards_80]
  refine G_istore (lv' := [(6, .int s0), (0, .ref (ad X 57)), (1, .int x1), (2, .int x2), (3, .int x3), (4, .int x4), (5, .int x5)]) dX6_goForwards_80 (by decide) rfl ?_
  refine G_iload 0 dX6_goForwards_82 rfl ?_
  refine G_if_lt (tgt := 127) dX6_goForwards_84 (by decide) ?_ ?_
  · refine G_iinc (v := x5 + 1) (lv' := [(5, .int (x5 + 1)), (6, .int s0), (0, .ref (ad X 57)), (1, .int x1), (2, .int x2), (3, .int x3), (4, .int x4)]) 6 dX6_goForwards_127 rfl rfl (by decide) rfl ?_
    refine G_goto (tgt := 42) dX6_goForwards_130 (by decide) ?_
    exact G_sub [2, 3, 4, 5, 6, 0] rfl (hk42 x1 x2 x3 x4 (x5 + 1) M)
  · refine G_aload_n 1 dX6_goForwards_87 rfl rfl ?_
    refine G_get 6 clX6 (y1_57) fl_X6_18 dX6_goForwards_88 (by decide) rfl rfl ?_
    refine G_iload 0 dX6_goForwards_91 rfl ?_
    refine G_dup2 dX6_goForwards_93 rfl rfl ?_
    refine G_iald (y1_60) dX6_goForwards_94 ?_
    refine G_iconst (v := 1) dX6_goForwards_95 (by decide) ?_
    refine G_iload_n 2 dX6_goForwards_96 rfl rfl ?_
    refine G_iconst (v := 1) dX6_goForwards_97 (by decide) ?_
    refine G_iadd dX6_goForwards_98 ?_
    refine G_ishl dX6_goForwards_99 ?_
    refine G_ior dX6_goForwards_100 ?_
    refine G_iast (y1_60) dX6_goForwards_101 ?_
    refine G_m (fun M1 => ?_)
    refine G_iload_n 3 dX6_goForwards_102 rfl rfl ?_
    refine G_if_ne (tgt := 121) dX6_goForwards_103 (by decide) ?_ ?_
    · refine G_iconst (v := 1) dX6_goForwards_121 (by decide) ?_
      refine G_goto (tgt := 126) dX6_goForwards_122 (by decide) ?_
      refine G_istore_n (lv' := [(2, .int 1), (6, .int s0), (0, .ref (ad X 57)), (1, .int x1), (3, .int x3), (4, .int x4), (5, .int x5)]) dX6_goForwards_126 rfl (by decide) rfl ?_
      refine G_iinc (v := x5 + 1) (lv' := [(5, .int (x5 + 1)), (2, .int 1), (6, .int s0), (0, .ref (ad X 57)), (1, .int x1), (3, .int x3), (4, .int x4)]) 6 dX6_goForwards_127 rfl rfl (by decide) rfl ?_
      refine G_goto (tgt := 42) dX6_goForwards_130 (by decide) ?_
      exact G_sub [3, 4, 1, 5, 6, 0] rfl (hk42 x1 (1 : Int32) x3 x4 (x5 + 1) M1)
    · refine G_aload_n 1 dX6_goForwards_106 rfl rfl ?_
      refine G_get 0 clX6 (y1_57) fl_X6_36 dX6_goForwards_107 (by decide) rfl rfl ?_
      refine G_getO 0 clX0 (y1_27) fl_X6_47 dX6_goForwards_110 (by decide) rfl (by decide) (fun t2 ht2 => ?_)
      refine G_iload 0 dX6_goForwards_113 rfl ?_
      refine G_cVb (As := [.int s0]) (rest := []) (ok_X4_isOver ht2 s0 M1) rfl (ro_0 ht2) rfl mv_X6_53 dX6_goForwards_115 rfl rfl (Nat.le_of_ble_eq_true rfl) (g_fitN (by decide) (by decide)) (fun r4 M3 => ?_)
      refine G_ifB_eq (tgt := 125) dX6_goForwards_118 (by decide) ?_ ?_
      · refine G_iconst (v := 0) dX6_goForwards_125 (by decide) ?_
        refine G_istore_n (lv' := [(2, .int 0), (6, .int s0), (0, .ref (ad X 57)), (1, .int x1), (3, .int x3), (4, .int x4), (5, .int x5)]) dX6_goForwards_126 rfl (by decide) rfl ?_
        refine G_iinc (v := x5 + 1) (lv' := [(5, .int (x5 + 1)), (2, .int 0), (6, .int s0), (0, .ref (ad X 57)), (1, .int x1), (3, .int x3), (4, .int x4)]) 6 dX6_goForwards_127 rfl rfl (by decide) rfl ?_
        refine G_goto (tgt := 42) dX6_goForwards_130 (by decide) ?_
        exact G_sub [3, 4, 1, 5, 6, 0] rfl (hk42 x1 (0 : Int32) x3 x4 (x5 + 1) M3)
      · refine G_iconst (v := 1) dX6_goForwards_121 (by decide) ?_
        refine G_goto (tgt := 126) dX6_goForwards_122 (by decide) ?_
        refine G_istore_n (lv' := [(2, .int 1), (6, .int s0), (0, .ref (ad X 57)), (1, .int x1), (3, .int x3), (4, .int x4), (5, .int x5)]) dX6_goForwards_126 rfl (by decide) rfl ?_
        refine G_iinc (v := x5 + 1) (lv' := [(5, .int (x5 + 1)), (2, .int 1), (6, .int s0), (0, .ref (ad X 57)), (1, .int x1), (3, .int x3), (4, .int x4)]) 6 dX6_goForwards_127 rfl rfl (by decide) rfl ?_
        refine G_goto (tgt := 42) dX6_goForwards_130 (by decide) ?_
        exact G_sub [3, 4, 1, 5, 6, 0] rfl (hk42 x1 (1 : Int32) x3 x4 (x5 + 1) M3)
def f_X6_goForwards_42 (k4 : Int32 → Int32 → Int32 → gM → Option (Bool × gM)) : Nat → Int32 → Int32 → Int32 → Int32 → Int32 → gM → Option (Bool × gM)
  | 0, _, _, _, _, _, _ => none
  | n + 1, x1, x2, x3, x4, x5, M => (if (6 : Int32) ≤ x5 then (k4 x1 x2 (x3 + 1) M) else (if ((x4 >>> (x5 &&& 31)) &&& (1 : Int32)) = (1 : Int32) then (g_ck x1 24 (g_b (f_X0_after x3 x5 (M.1 58 (tn x1)) M) (fun r6 M5 => (f_X6_goForwards_80 (f_X6_goForwards_42 k4 n) x1 x2 x3 x4 x5 r6 M5)))) else (f_X6_goForwards_80 (f_X6_goForwards_42 k4 n) x1 x2 x3 x4 x5 ((-1) : Int32) M)))
set_option maxRecDepth 100000 in
set_option maxHeartbeats 4000000 in
theorem o_X6_goForwards_42 {X : gX} {k4 : Int32 → Int32 → Int32 → gM → Option (Bool × gM)} (hk4 : ∀ (x1 : Int32) (x2 : Int32) (x3 : Int32) (M : gM), G Y1 jX6_goForwards X (g_fin g_eb) 4 [(0, .ref (ad X 57)), (1, .int x1), (2, .int x2), (3, .int x3)] [] M (k4 x1 x2 x3 M)) : ∀ (n : Nat) (x1 : Int32) (x2 : Int32) (x3 : Int32) (x4 : Int32) (x5 : Int32) (M : gM), G Y1 jX6_goForwards X (g_fin g_eb) 42 [(0, .ref (ad X 57)), (1, .int x1), (2, .int x2), (3, .int x3), (4, .int x4), (5, .int x5)] [] M (f_X6_goForwards_42 k4 n x1 x2 x3 x4 x5 M) := by
  intro n
  induction n with
  | zero => intro x1 x2 x3 x4 x5 M; exact G_none
  | succ n ih =>
    intro x1 x2 x3 x4 x5 M
    rw [f_X6_goForwards_42]
    refine G_iload 5 dX6_goForwards_42 rfl ?_
    refine G_bipush (v := 6) dX6_goForwards_44 (by decide) ?_
    refine G_icmp_ge (tgt := 133) dX6_goForwards_46 (by decide) ?_ ?_
    · refine G_iinc (v := x3 + 1) (lv' := [(3, .int (x3 + 1)), (0, .ref (ad X 57)), (1, .int x1), (2, .int x2), (4, .int x4), (5, .int x5)]) 3 dX6_goForwards_133 rfl rfl (by decide) rfl ?_
      refine G_goto (tgt := 4) dX6_goForwards_136 (by decide) ?_
      exact G_sub [1, 2, 3, 0] rfl (hk4 x1 x2 (x3 + 1) M)
    · refine G_iload 4 dX6_goForwards_49 rfl ?_
      refine G_iload 5 dX6_goForwards_51 rfl ?_
      refine G_ishr dX6_goForwards_53 ?_
      refine G_iconst (v := 1) dX6_goForwards_54 (by decide) ?_
      refine G_iand dX6_goForwards_55 ?_
      refine G_iconst (v := 1) dX6_goForwards_56 (by decide) ?_
      refine G_icmp_ne (tgt := 79) dX6_goForwards_57 (by decide) ?_ ?_
      · refine G_iconst (v := (-1)) dX6_goForwards_79 (by decide) ?_
        exact G_sub [0, 1, 2, 3, 4, 5] rfl (o_X6_goForwards_80 ih x1 x2 x3 x4 x5 ((-1) : Int32) M)
      · refine G_aload_n 0 dX6_goForwards_60 rfl rfl ?_
        refine G_get 0 clX6 (y1_57) fl_X6_36 dX6_goForwards_61 (by decide) rfl rfl ?_
        refine G_iload_n 3 dX6_goForwards_64 rfl rfl ?_
        refine G_iload 5 dX6_goForwards_65 rfl ?_
        refine G_aload_n 0 dX6_goForwards_67 rfl rfl ?_
        refine G_get 2 clX6 (y1_57) fl_X6_11 dX6_goForwards_68 (by decide) rfl rfl ?_
        refine G_iload_n 1 dX6_goForwards_71 rfl rfl ?_
        refine G_iald (y1_58) dX6_goForwards_72 ?_
        refine G_cVi (As := [.int x3, .int x5, .int (M.1 58 (tn x1))]) (rest := []) (ok_X0_after x3 x5 (M.1 58 (tn x1)) M) rfl (y1_27) rfl mv_X6_75 dX6_goForwards_73 rfl rfl (Nat.le_of_ble_eq_true rfl) (g_fitN (by decide) (by decide)) (fun r6 M5 => ?_)
        refine G_goto (tgt := 80) dX6_goForwards_76 (by decide) ?_
        exact G_sub [0, 1, 2, 3, 4, 5] rfl (o_X6_goForwards_80 ih x1 x2 x3 x4 x5 r6 M5)
def f_X6_goForwards_4 : Nat → Int32 → Int32 → Int32 → gM → Option (Bool × gM)
  | 0, _, _, _, _ => none
  | n + 1, x1, x2, x3, M => (if (2079 : Int32) ≤ x3 then (g_tb x2 (fun b => some (b, M))) else (g_ck x3 2079 (if (((M.1 60 (tn x3)) >>> (x1 &&& 31)) &&& (1 : Int32)) = (1 : Int32) then (g_b (f_X0_mask x3 M) (fun r8 M7 => (f_X6_goForwards_42 (f_X6_goForwards_4 n) FU x1 x2 x3 r8 (0 : Int32) M7))) else (f_X6_goForwards_42 (f_X6_goForwards_4 n) FU x1 x2 x3 (0 : Int32) (0 : Int32) M))))
set_option maxRecDepth 100000 in
set_option maxHeartbeats 4000000 in
theorem o_X6_goForwards_4 {X : gX} : ∀ (n : Nat) (x1 : Int32) (x2 : Int32) (x3 : Int32) (M : gM), G Y1 jX6_goForwards X (g_fin g_eb) 4 [(0, .ref (ad X 57)), (1, .int x1), (2, .int x2), (3, .int x3)] [] M (f_X6_goForwards_4 n x1 x2 x3 M) := by
  intro n
  induction n with
  | zero => intro x1 x2 x3 M; exact G_none
  | succ n ih =>
    intro x1 x2 x3 M
    rw [f_X6_goForwards_4]
    refine G_iload_n 3 dX6_goForwards_4 rfl rfl ?_
    refine G_sipush (v := 2079) dX6_goForwards_5 (by decide) ?_
    refine G_icmp_ge (tgt := 139) dX6_goForwards_8 (by decide) ?_ ?_
    · refine G_iload_n 2 dX6_goForwards_139 rfl rfl ?_
      exact G_zretI rfl dX6_goForwards_140
    · refine G_aload_n 0 dX6_goForwards_11 rfl rfl ?_
      refine G_get 6 clX6 (y1_57) fl_X6_18 dX6_goForwards_12 (by decide) rfl rfl ?_
      refine G_iload_n 3 dX6_goForwards_15 rfl rfl ?_
      refine G_iald (y1_60) dX6_goForwards_16 ?_
      refine G_iload_n 1 dX6_goForwards_17 rfl rfl ?_
      refine G_ishr dX6_goForwards_18 ?_
      refine G_iconst (v := 1) dX6_goForwards_19 (by decide) ?_
      refine G_iand dX6_goForwards_20 ?_
      refine G_iconst (v := 1) dX6_goForwards_21 (by decide) ?_
      refine G_icmp_ne (tgt := 36) dX6_goForwards_22 (by decide) ?_ ?_
      · refine G_iconst (v := 0) dX6_goForwards_36 (by decide) ?_
        refine G_istore (lv' := [(4, .int 0), (0, .ref (ad X 57)), (1, .int x1), (2, .int x2), (3, .int x3)]) dX6_goForwards_37 (by decide) rfl ?_
        refine G_iconst (v := 0) dX6_goForwards_39 (by decide) ?_
        refine G_istore (lv' := [(5, .int 0), (4, .int 0), (0, .ref (ad X 57)), (1, .int x1), (2, .int x2), (3, .int x3)]) dX6_goForwards_40 (by decide) rfl ?_
        exact G_sub [2, 3, 4, 5, 1, 0] rfl (o_X6_goForwards_42 ih FU x1 x2 x3 (0 : Int32) (0 : Int32) M)
      · refine G_aload_n 0 dX6_goForwards_25 rfl rfl ?_
        refine G_get 0 clX6 (y1_57) fl_X6_36 dX6_goForwards_26 (by decide) rfl rfl ?_
        refine G_iload_n 3 dX6_goForwards_29 rfl rfl ?_
        refine G_cVi (As := [.int x3]) (rest := []) (ok_X0_mask x3 M) rfl (y1_27) rfl mv_X6_79 dX6_goForwards_30 rfl rfl (Nat.le_of_ble_eq_true rfl) (g_fitN (by decide) (by decide)) (fun r8 M7 => ?_)
        refine G_goto (tgt := 37) dX6_goForwards_33 (by decide) ?_
        refine G_istore (lv' := [(4, .int r8), (0, .ref (ad X 57)), (1, .int x1), (2, .int x2), (3, .int x3)]) dX6_goForwards_37 (by decide) rfl ?_
        refine G_iconst (v := 0) dX6_goForwards_39 (by decide) ?_
        refine G_istore (lv' := [(5, .int 0), (4, .int r8), (0, .ref (ad X 57)), (1, .int x1), (2, .int x2), (3, .int x3)]) dX6_goForwards_40 (by decide) rfl ?_
        exact G_sub [2, 3, 4, 5, 1, 0] rfl (o_X6_goForwards_42 ih FU x1 x2 x3 r8 (0 : Int32) M7)
def f_X6_goForwards (a1 : Int32) (M : gM) : Option (Bool × gM) := (f_X6_goForwards_4 FU a1 (0 : Int32) (0 : Int32) M)
set_option maxRecDepth 100000 in
set_option maxHeartbeats 4000000 in
theorem ok_X6_goForwards (a1 : Int32) (M : gM) : g_met Y1 yX6_goForwards jX6_goForwards g_eb (fun Z => [.ref (Z.2.1 57), .int a1]) M (f_X6_goForwards a1 M) := by
  refine g_enter (fun Z => [(0, .ref (Z.2.1 57)), (1, .int a1)]) (by decide) rfl (fun Z => Nat.le_of_ble_eq_true rfl) (fun Z => rfl) (fun X => ?_)
  rw [f_X6_goForwards]
  refine G_iconst (v := 0) dX6_goForwards_0 (by decide) ?_
  refine G_istore_n (lv' := [(2, .int 0), (0, .ref (ad X 57)), (1, .int a1)]) dX6_goForwards_1 rfl (by decide) rfl ?_
  refine G_iconst (v := 0) dX6_goForwards_2 (by decide) ?_
  refine G_istore_n (lv' := [(3, .int 0), (2, .int 0), (0, .ref (ad X 57)), (1, .int a1)]) dX6_goForwards_3 rfl (by decide) rfl ?_
  exact G_sub [2, 3, 1, 0] rfl (o_X6_goForwards_4 FU a1 (0 : Int32) (0 : Int32) M)
-- X6_goodAct
def f_X6_goodAct_49 (k12 : Int32 → Int32 → Int32 → Int32 → gM → Option (Int32 × gM)) (x1 : Int32) (x2 : Int32) (x3 : Int32) (x4 : Int32) (s0 : Int32) (M : gM) : Option (Int32 × gM) := (if s0 < 0 then (k12 x1 x2 x3 (x4 + 1) M) else (if (x2 + (1 : Int32)) = (M.1 57 3) then (g_or 3 12 (M.2.2 27 0) (fun t3 => (g_b (f_X4_isOver t3 s0 M) (fun r5 M4 => (if r5 then (some (x4, M4)) else (k12 x1 x2 x3 (x4 + 1) M4)))))) else (g_ck s0 2079 (if (((M.1 61 (tn s0)) >>> ((x2 + (1 : Int32)) &&& 31)) &&& (1 : Int32)) = (1 : Int32) then (some (x4, M)) else (k12 x1 x2 x3 (x4 + 1) M)))))
set_option maxRecDepth 100000 in
set_option maxHeartbeats 4000000 in
theorem o_X6_goodAct_49 {X : gX} {k12 : Int32 → Int32 → Int32 → Int32 → gM → Option (Int32 × gM)} (hk12 : ∀ (x1 : Int32) (x2 : Int32) (x3 : Int32) (x4 : Int32) (M : gM), G Y1 jX6_goodAct X (g_fin g_ei) 12 [(0, .ref (ad X 57)), (1, .int x1), (2, .int x2), (3, .int x3), (4, .int x4)] [] M (k12 x1 x2 x3 x4 M)) (x1 : Int32) (x2 : Int32) (x3 : Int32) (x4 : Int32) (s0 : Int32) (M : gM) : G Y1 jX6_goodAct X (g_fin g_ei) 49 [(0, .ref (ad X 57)), (1, .int x1), (2, .int x2), (3, .int x3), (4, .int x4)] [.int s0] M (f_X6_goodAct_49 k12 x1 x2 x3 x4 s0 M) := by
  rw [f_X6_goodAct_49]
  refine G_istore (lv' := [(5, .int s0), (0, .ref (ad X 57)), (1, .int x1), (2, .int x2), (3, .int x3), (4, .int x4)]) dX6_goodAct_49 (by decide) rfl ?_
  refine G_iload 0 dX6_goodAct_51 rfl ?_
  refine G_if_lt (tgt := 104) dX6_goodAct_53 (by decide) ?_ ?_
  · refine G_iinc (v := x4 + 1) (lv' := [(4, .int (x4 + 1)), (5, .int s0), (0, .ref (ad X 57)), (1, .int x1), (2, .int x2), (3, .int x3)]) 5 dX6_goodAct_104 rfl rfl (by decide) rfl ?_
    refine G_goto (tgt := 12) dX6_goodAct_107 (by decide) ?_
    exact G_sub [2, 3, 4, 5, 0] rfl (hk12 x1 x2 x3 (x4 + 1) M)
  · refine G_iload_n 3 dX6_goodAct_56 rfl rfl ?_
    refine G_iconst (v := 1) dX6_goodAct_57 (by decide) ?_
    refine G_iadd dX6_goodAct_58 ?_
    refine G_aload_n 1 dX6_goodAct_59 rfl rfl ?_
    refine G_get 3 clX6 (y1_57) fl_X6_59 dX6_goodAct_60 (by decide) rfl rfl ?_
    refine G_icmp_ne (tgt := 84) dX6_goodAct_63 (by decide) ?_ ?_
    · refine G_aload_n 1 dX6_goodAct_84 rfl rfl ?_
      refine G_get 7 clX6 (y1_57) fl_X6_21 dX6_goodAct_85 (by decide) rfl rfl ?_
      refine G_iload 0 dX6_goodAct_88 rfl ?_
      refine G_iald (y1_61) dX6_goodAct_90 ?_
      refine G_iload_n 3 dX6_goodAct_91 rfl rfl ?_
      refine G_iconst (v := 1) dX6_goodAct_92 (by decide) ?_
      refine G_iadd dX6_goodAct_93 ?_
      refine G_ishr dX6_goodAct_94 ?_
      refine G_iconst (v := 1) dX6_goodAct_95 (by decide) ?_
      refine G_iand dX6_goodAct_96 ?_
      refine G_iconst (v := 1) dX6_goodAct_97 (by decide) ?_
      refine G_icmp_ne (tgt := 104) dX6_goodAct_98 (by decide) ?_ ?_
      · refine G_iinc (v := x4 + 1) (lv' := [(4, .int (x4 + 1)), (5, .int s0), (0, .ref (ad X 57)), (1, .int x1), (2, .int x2), (3, .int x3)]) 5 dX6_goodAct_104 rfl rfl (by decide) rfl ?_
        refine G_goto (tgt := 12) dX6_goodAct_107 (by decide) ?_
        exact G_sub [2, 3, 4, 5, 0] rfl (hk12 x1 x2 x3 (x4 + 1) M)
      · refine G_iload 5 dX6_goodAct_101 rfl ?_
        exact G_iret rfl dX6_goodAct_103
    · refine G_aload_n 1 dX6_goodAct_66 rfl rfl ?_
      refine G_get 0 clX6 (y1_57) fl_X6_36 dX6_goodAct_67 (by decide) rfl rfl ?_
      refine G_getO 0 clX0 (y1_27) fl_X6_47 dX6_goodAct_70 (by decide) rfl (by decide) (fun t3 ht3 => ?_)
      refine G_iload 0 dX6_goodAct_73 rfl ?_
      refine G_cVb (As := [.int s0]) (rest := []) (ok_X4_isOver ht3 s0 M) rfl (ro_0 ht3) rfl mv_X6_53 dX6_goodAct_75 rfl rfl (Nat.le_of_ble_eq_true rfl) (g_fitN (by decide) (by decide)) (fun r5 M4 => ?_)
      refine G_ifB_eq (tgt := 104) dX6_goodAct_78 (by decide) ?_ ?_
      · refine G_iinc (v := x4 + 1) (lv' := [(4, .int (x4 + 1)), (5, .int s0), (0, .ref (ad X 57)), (1, .int x1), (2, .int x2), (3, .int x3)]) 5 dX6_goodAct_104 rfl rfl (by decide) rfl ?_
        refine G_goto (tgt := 12) dX6_goodAct_107 (by decide) ?_
        exact G_sub [2, 3, 4, 5, 0] rfl (hk12 x1 x2 x3 (x4 + 1) M4)
      · refine G_goto (tgt := 101) dX6_goodAct_81 (by decide) ?_
        refine G_iload 5 dX6_goodAct_101 rfl ?_
        exact G_iret rfl dX6_goodAct_103
def f_X6_goodAct_12 : Nat → Int32 → Int32 → Int32 → Int32 → gM → Option (Int32 × gM)
  | 0, _, _, _, _, _ => none
  | n + 1, x1, x2, x3, x4, M => (if (6 : Int32) ≤ x4 then (some (((-1) : Int32), M)) else (if ((x3 >>> (x4 &&& 31)) &&& (1 : Int32)) = (1 : Int32) then (g_ck x2 24 (g_b (f_X0_after x1 x4 (M.1 58 (tn x2)) M) (fun r7 M6 => (f_X6_goodAct_49 (f_X6_goodAct_12 n) x1 x2 x3 x4 r7 M6)))) else (f_X6_goodAct_49 (f_X6_goodAct_12 n) x1 x2 x3 x4 ((-1) : Int32) M)))
set_option maxRecDepth 100000 in
set_option maxHeartbeats 4000000 in
theorem o_X6_goodAct_12 {X : gX} : ∀ (n : Nat) (x1 : Int32) (x2 : Int32) (x3 : Int32) (x4 : Int32) (M : gM), G Y1 jX6_goodAct X (g_fin g_ei) 12 [(0, .ref (ad X 57)), (1, .int x1), (2, .int x2), (3, .int x3), (4, .int x4)] [] M (f_X6_goodAct_12 n x1 x2 x3 x4 M) := by
  intro n
  induction n with
  | zero => intro x1 x2 x3 x4 M; exact G_none
  | succ n ih =>
    intro x1 x2 x3 x4 M
    rw [f_X6_goodAct_12]
    refine G_iload 4 dX6_goodAct_12 rfl ?_
    refine G_bipush (v := 6) dX6_goodAct_14 (by decide) ?_
    refine G_icmp_ge (tgt := 110) dX6_goodAct_16 (by decide) ?_ ?_
    · refine G_iconst (v := (-1)) dX6_goodAct_110 (by decide) ?_
      exact G_iret rfl dX6_goodAct_111
    · refine G_iload_n 3 dX6_goodAct_19 rfl rfl ?_
      refine G_iload 4 dX6_goodAct_20 rfl ?_
      refine G_ishr dX6_goodAct_22 ?_
      refine G_iconst (v := 1) dX6_goodAct_23 (by decide) ?_
      refine G_iand dX6_goodAct_24 ?_
      refine G_iconst (v := 1) dX6_goodAct_25 (by decide) ?_
      refine G_icmp_ne (tgt := 48) dX6_goodAct_26 (by decide) ?_ ?_
      · refine G_iconst (v := (-1)) dX6_goodAct_48 (by decide) ?_
        exact G_sub [0, 1, 2, 3, 4] rfl (o_X6_goodAct_49 ih x1 x2 x3 x4 ((-1) : Int32) M)
      · refine G_aload_n 0 dX6_goodAct_29 rfl rfl ?_
        refine G_get 0 clX6 (y1_57) fl_X6_36 dX6_goodAct_30 (by decide) rfl rfl ?_
        refine G_iload_n 1 dX6_goodAct_33 rfl rfl ?_
        refine G_iload 4 dX6_goodAct_34 rfl ?_
        refine G_aload_n 0 dX6_goodAct_36 rfl rfl ?_
        refine G_get 2 clX6 (y1_57) fl_X6_11 dX6_goodAct_37 (by decide) rfl rfl ?_
        refine G_iload_n 2 dX6_goodAct_40 rfl rfl ?_
        refine G_iald (y1_58) dX6_goodAct_41 ?_
        refine G_cVi (As := [.int x1, .int x4, .int (M.1 58 (tn x2))]) (rest := []) (ok_X0_after x1 x4 (M.1 58 (tn x2)) M) rfl (y1_27) rfl mv_X6_75 dX6_goodAct_42 rfl rfl (Nat.le_of_ble_eq_true rfl) (g_fitN (by decide) (by decide)) (fun r7 M6 => ?_)
        refine G_goto (tgt := 49) dX6_goodAct_45 (by decide) ?_
        exact G_sub [0, 1, 2, 3, 4] rfl (o_X6_goodAct_49 ih x1 x2 x3 x4 r7 M6)
def f_X6_goodAct (a1 : Int32) (a2 : Int32) (M : gM) : Option (Int32 × gM) := (g_b (f_X0_mask a1 M) (fun r2 M1 => (f_X6_goodAct_12 FU a1 a2 r2 (0 : Int32) M1)))
set_option maxRecDepth 100000 in
set_option maxHeartbeats 4000000 in
theorem ok_X6_goodAct (a1 : Int32) (a2 : Int32) (M : gM) : g_met Y1 yX6_goodAct jX6_goodAct g_ei (fun Z => [.ref (Z.2.1 57), .int a1, .int a2]) M (f_X6_goodAct a1 a2 M) := by
  refine g_enter (fun Z => [(0, .ref (Z.2.1 57)), (1, .int a1), (2, .int a2)]) (by decide) rfl (fun Z => Nat.le_of_ble_eq_true rfl) (fun Z => rfl) (fun X => ?_)
  rw [f_X6_goodAct]
  refine G_aload_n 0 dX6_goodAct_0 rfl rfl ?_
  refine G_get 0 clX6 (y1_57) fl_X6_36 dX6_goodAct_1 (by decide) rfl rfl ?_
  refine G_iload_n 1 dX6_goodAct_4 rfl rfl ?_
  refine G_cVi (As := [.int a1]) (rest := []) (ok_X0_mask a1 M) rfl (y1_27) rfl mv_X6_79 dX6_goodAct_5 rfl rfl (Nat.le_of_ble_eq_true rfl) (g_fitN (by decide) (by decide)) (fun r2 M1 => ?_)
  refine G_istore_n (lv' := [(3, .int r2), (0, .ref (ad X 57)), (1, .int a1), (2, .int a2)]) dX6_goodAct_8 rfl (by decide) rfl ?_
  refine G_iconst (v := 0) dX6_goodAct_9 (by decide) ?_
  refine G_istore (lv' := [(4, .int 0), (3, .int r2), (0, .ref (ad X 57)), (1, .int a1), (2, .int a2)]) dX6_goodAct_10 (by decide) rfl ?_
  exact G_sub [2, 3, 4, 1, 0] rfl (o_X6_goodAct_12 FU a1 a2 r2 (0 : Int32) M1)
-- X6_plan
def f_X6_plan_173 : Nat → Int32 → Int32 → gM → Option (Unit × gM)
  | 0, _, _, _ => none
  | n + 1, x2, x3, M => (if (M.1 57 3) ≤ x3 then (some ((), M)) else (if (24 : Int32) ≤ x3 then (some ((), M)) else (if x2 < 0 then (some ((), M)) else (g_b (f_X6_goodAct x2 x3 M) (fun r13 M12 => (g_ck x3 24 (g_m (sI M12 59 (tn x3) r13) (fun M14 => (if 0 ≤ r13 then (g_ck x3 24 (g_b (f_X0_after x2 r13 (M14.1 58 (tn x3)) M14) (fun r16 M15 => (f_X6_plan_173 n r16 (x3 + 1) M15)))) else (f_X6_plan_173 n ((-1) : Int32) (x3 + 1) M14))))))))))
set_option maxRecDepth 100000 in
set_option maxHeartbeats 4000000 in
theorem o_X6_plan_173 {X : gX} : ∀ (n : Nat) (x2 : Int32) (x3 : Int32) (M : gM), G Y1 jX6_plan X (g_fin g_ev) 173 [(0, .ref (ad X 57)), (2, .int x2), (3, .int x3)] [] M (f_X6_plan_173 n x2 x3 M) := by
  intro n
  induction n with
  | zero => intro x2 x3 M; exact G_none
  | succ n ih =>
    intro x2 x3 M
    rw [f_X6_plan_173]
    refine G_iload_n 2 dX6_plan_173 rfl rfl ?_
    refine G_aload_n 0 dX6_plan_174 rfl rfl ?_
    refine G_get 3 clX6 (y1_57) fl_X6_59 dX6_plan_175 (by decide) rfl rfl ?_
    refine G_icmp_ge (tgt := 239) dX6_plan_178 (by decide) ?_ ?_
    · exact G_vret rfl dX6_plan_239
    · refine G_iload_n 2 dX6_plan_181 rfl rfl ?_
      refine G_bipush (v := 24) dX6_plan_182 (by decide) ?_
      refine G_icmp_ge (tgt := 239) dX6_plan_184 (by decide) ?_ ?_
      · exact G_vret rfl dX6_plan_239
      · refine G_iload_n 1 dX6_plan_187 rfl rfl ?_
        refine G_if_lt (tgt := 239) dX6_plan_188 (by decide) ?_ ?_
        · exact G_vret rfl dX6_plan_239
        · refine G_aload_n 0 dX6_plan_191 rfl rfl ?_
          refine G_iload_n 1 dX6_plan_192 rfl rfl ?_
          refine G_iload_n 2 dX6_plan_193 rfl rfl ?_
          refine G_cVi (As := [.int x2, .int x3]) (rest := []) (ok_X6_goodAct x2 x3 M) rfl (y1_57) rfl mv_X6_71 dX6_plan_194 rfl rfl (Nat.le_of_ble_eq_true rfl) (g_fitN (by decide) (by decide)) (fun r13 M12 => ?_)
          refine G_istore (lv' := [(4, .int r13), (0, .ref (ad X 57)), (2, .int x2), (3, .int x3)]) dX6_plan_197 (by decide) rfl ?_
          refine G_aload_n 1 dX6_plan_199 rfl rfl ?_
          refine G_get 5 clX6 (y1_57) fl_X6_15 dX6_plan_200 (by decide) rfl rfl ?_
          refine G_iload_n 3 dX6_plan_203 rfl rfl ?_
          refine G_iload 0 dX6_plan_204 rfl ?_
          refine G_iast (y1_59) dX6_plan_206 ?_
          refine G_m (fun M14 => ?_)
          refine G_iload 0 dX6_plan_207 rfl ?_
          refine G_if_ge (tgt := 216) dX6_plan_209 (by decide) ?_ ?_
          · refine G_aload_n 1 dX6_plan_216 rfl rfl ?_
            refine G_get 0 clX6 (y1_57) fl_X6_36 dX6_plan_217 (by decide) rfl rfl ?_
            refine G_iload_n 2 dX6_plan_220 rfl rfl ?_
            refine G_iload 0 dX6_plan_221 rfl ?_
            refine G_aload_n 1 dX6_plan_223 rfl rfl ?_
            refine G_get 2 clX6 (y1_57) fl_X6_11 dX6_plan_224 (by decide) rfl rfl ?_
            refine G_iload_n 3 dX6_plan_227 rfl rfl ?_
            refine G_iald (y1_58) dX6_plan_228 ?_
            refine G_cVi (As := [.int x2, .int r13, .int (M14.1 58 (tn x3))]) (rest := []) (ok_X0_after x2 r13 (M14.1 58 (tn x3)) M14) rfl (y1_27) rfl mv_X6_75 dX6_plan_229 rfl rfl (Nat.le_of_ble_eq_true rfl) (g_fitN (by decide) (by decide)) (fun r16 M15 => ?_)
            refine G_istore_n (lv' := [(2, .int r16), (4, .int r13), (0, .ref (ad X 57)), (3, .int x3)]) dX6_plan_232 rfl (by decide) rfl ?_
            refine G_iinc (v := x3 + 1) (lv' := [(3, .int (x3 + 1)), (2, .int r16), (4, .int r13), (0, .ref (ad X 57))]) 3 dX6_plan_233 rfl rfl (by decide) rfl ?_
            refine G_goto (tgt := 173) dX6_plan_236 (by decide) ?_
            exact G_sub [3, 1, 0] rfl (ih r16 (x3 + 1) M15)
          · refine G_iconst (v := (-1)) dX6_plan_212 (by decide) ?_
            refine G_goto (tgt := 232) dX6_plan_213 (by decide) ?_
            refine G_istore_n (lv' := [(2, .int (-1)), (4, .int r13), (0, .ref (ad X 57)), (3, .int x3)]) dX6_plan_232 rfl (by decide) rfl ?_
            refine G_iinc (v := x3 + 1) (lv' := [(3, .int (x3 + 1)), (2, .int (-1)), (4, .int r13), (0, .ref (ad X 57))]) 3 dX6_plan_233 rfl rfl (by decide) rfl ?_
            refine G_goto (tgt := 173) dX6_plan_236 (by decide) ?_
            exact G_sub [3, 1, 0] rfl (ih ((-1) : Int32) (x3 + 1) M14)
def f_X6_plan_114 (k108 : Int32 → Int32 → gM → Option (Unit × gM)) : Nat → Int32 → Int32 → Int32 → gM → Option (Unit × gM)
  | 0, _, _, _, _ => none
  | n + 1, x1, x2, x3, M => (if (2079 : Int32) ≤ x3 then (k108 x1 (x2 + (-1)) M) else (g_ck x3 2079 (if (((M.1 60 (tn x3)) >>> (x2 &&& 31)) &&& (1 : Int32)) = (1 : Int32) then (g_b (f_X6_goodAct x3 x2 M) (fun r18 M17 => (if r18 = ((-1) : Int32) then (f_X6_plan_114 k108 n x1 x2 (x3 + 1) M17) else (g_ck x3 2079 (g_ck x3 2079 (g_m (sI M17 61 (tn x3) ((M17.1 61 (tn x3)) ||| ((1 : Int32) <<< (x2 &&& 31)))) (fun M19 => (f_X6_plan_114 k108 n x1 x2 (x3 + 1) M19)))))))) else (f_X6_plan_114 k108 n x1 x2 (x3 + 1) M))))
set_option maxRecDepth 100000 in
set_option maxHeartbeats 4000000 in
theorem o_X6_plan_114 {X : gX} {k108 : Int32 → Int32 → gM → Option (Unit × gM)} (hk108 : ∀ (x1 : Int32) (x2 : Int32) (M : gM), G Y1 jX6_plan X (g_fin g_ev) 108 [(0, .ref (ad X 57)), (1, .int x1), (2, .int x2)] [] M (k108 x1 x2 M)) : ∀ (n : Nat) (x1 : Int32) (x2 : Int32) (x3 : Int32) (M : gM), G Y1 jX6_plan X (g_fin g_ev) 114 [(0, .ref (ad X 57)), (1, .int x1), (2, .int x2), (3, .int x3)] [] M (f_X6_plan_114 k108 n x1 x2 x3 M) := by
  intro n
  induction n with
  | zero => intro x1 x2 x3 M; exact G_none
  | succ n ih =>
    intro x1 x2 x3 M
    rw [f_X6_plan_114]
    refine G_iload_n 3 dX6_plan_114 rfl rfl ?_
    refine G_sipush (v := 2079) dX6_plan_115 (by decide) ?_
    refine G_icmp_ge (tgt := 163) dX6_plan_118 (by decide) ?_ ?_
    · refine G_iinc (v := x2 + (-1)) (lv' := [(2, .int (x2 + (-1))), (0, .ref (ad X 57)), (1, .int x1), (3, .int x3)]) 2 dX6_plan_163 rfl rfl (by decide) rfl ?_
      refine G_goto (tgt := 108) dX6_plan_166 (by decide) ?_
      exact G_sub [1, 2, 0] rfl (hk108 x1 (x2 + (-1)) M)
    · refine G_aload_n 0 dX6_plan_121 rfl rfl ?_
      refine G_get 6 clX6 (y1_57) fl_X6_18 dX6_plan_122 (by decide) rfl rfl ?_
      refine G_iload_n 3 dX6_plan_125 rfl rfl ?_
      refine G_iald (y1_60) dX6_plan_126 ?_
      refine G_iload_n 2 dX6_plan_127 rfl rfl ?_
      refine G_ishr dX6_plan_128 ?_
      refine G_iconst (v := 1) dX6_plan_129 (by decide) ?_
      refine G_iand dX6_plan_130 ?_
      refine G_iconst (v := 1) dX6_plan_131 (by decide) ?_
      refine G_icmp_ne (tgt := 157) dX6_plan_132 (by decide) ?_ ?_
      · refine G_iinc (v := x3 + 1) (lv' := [(3, .int (x3 + 1)), (0, .ref (ad X 57)), (1, .int x1), (2, .int x2)]) 3 dX6_plan_157 rfl rfl (by decide) rfl ?_
        refine G_goto (tgt := 114) dX6_plan_160 (by decide) ?_
        exact G_sub [1, 2, 3, 0] rfl (ih x1 x2 (x3 + 1) M)
      · refine G_aload_n 0 dX6_plan_135 rfl rfl ?_
        refine G_iload_n 3 dX6_plan_136 rfl rfl ?_
        refine G_iload_n 2 dX6_plan_137 rfl rfl ?_
        refine G_cVi (As := [.int x3, .int x2]) (rest := []) (ok_X6_goodAct x3 x2 M) rfl (y1_57) rfl mv_X6_71 dX6_plan_138 rfl rfl (Nat.le_of_ble_eq_true rfl) (g_fitN (by decide) (by decide)) (fun r18 M17 => ?_)
        refine G_iconst (v := (-1)) dX6_plan_141 (by decide) ?_
        refine G_icmp_eq (tgt := 157) dX6_plan_142 (by decide) ?_ ?_
        · refine G_iinc (v := x3 + 1) (lv' := [(3, .int (x3 + 1)), (0, .ref (ad X 57)), (1, .int x1), (2, .int x2)]) 3 dX6_plan_157 rfl rfl (by decide) rfl ?_
          refine G_goto (tgt := 114) dX6_plan_160 (by decide) ?_
          exact G_sub [1, 2, 3, 0] rfl (ih x1 x2 (x3 + 1) M17)
        · refine G_aload_n 0 dX6_plan_145 rfl rfl ?_
          refine G_get 7 clX6 (y1_57) fl_X6_21 dX6_plan_146 (by decide) rfl rfl ?_
          refine G_iload_n 3 dX6_plan_149 rfl rfl ?_
          refine G_dup2 dX6_plan_150 rfl rfl ?_
          refine G_iald (y1_61) dX6_plan_151 ?_
          refine G_iconst (v := 1) dX6_plan_152 (by decide) ?_
          refine G_iload_n 2 dX6_plan_153 rfl rfl ?_
          refine G_ishl dX6_plan_154 ?_
          refine G_ior dX6_plan_155 ?_
          refine G_iast (y1_61) dX6_plan_156 ?_
          refine G_m (fun M19 => ?_)
          refine G_iinc (v := x3 + 1) (lv' := [(3, .int (x3 + 1)), (0, .ref (ad X 57)), (1, .int x1), (2, .int x2)]) 3 dX6_plan_157 rfl rfl (by decide) rfl ?_
          refine G_goto (tgt := 114) dX6_plan_160 (by decide) ?_
          exact G_sub [1, 2, 3, 0] rfl (ih x1 x2 (x3 + 1) M19)
def f_X6_plan_108 : Nat → Int32 → Int32 → gM → Option (Unit × gM)
  | 0, _, _, _ => none
  | n + 1, x1, x2, M => (if x2 < 0 then (f_X6_plan_173 FU x1 (0 : Int32) M) else (f_X6_plan_114 (f_X6_plan_108 n) FU x1 x2 (0 : Int32) M))
set_option maxRecDepth 100000 in
set_option maxHeartbeats 4000000 in
theorem o_X6_plan_108 {X : gX} : ∀ (n : Nat) (x1 : Int32) (x2 : Int32) (M : gM), G Y1 jX6_plan X (g_fin g_ev) 108 [(0, .ref (ad X 57)), (1, .int x1), (2, .int x2)] [] M (f_X6_plan_108 n x1 x2 M) := by
  intro n
  induction n with
  | zero => intro x1 x2 M; exact G_none
  | succ n ih =>
    intro x1 x2 M
    rw [f_X6_plan_108]
    refine G_iload_n 2 dX6_plan_108 rfl rfl ?_
    refine G_if_lt (tgt := 169) dX6_plan_109 (by decide) ?_ ?_
    · refine G_iload_n 1 dX6_plan_169 rfl rfl ?_
      refine G_istore_n (lv' := [(2, .int x1), (0, .ref (ad X 57)), (1, .int x1)]) dX6_plan_170 rfl (by decide) rfl ?_
      refine G_iconst (v := 0) dX6_plan_171 (by decide) ?_
      refine G_istore_n (lv' := [(3, .int 0), (2, .int x1), (0, .ref (ad X 57)), (1, .int x1)]) dX6_plan_172 rfl (by decide) rfl ?_
      exact G_sub [2, 1, 0] rfl (o_X6_plan_173 FU x1 (0 : Int32) M)
    · refine G_iconst (v := 0) dX6_plan_112 (by decide) ?_
      refine G_istore_n (lv' := [(3, .int 0), (0, .ref (ad X 57)), (1, .int x1), (2, .int x2)]) dX6_plan_113 rfl (by decide) rfl ?_
      exact G_sub [1, 2, 3, 0] rfl (o_X6_plan_114 ih FU x1 x2 (0 : Int32) M)
def f_X6_plan_63 : Nat → Int32 → Int32 → gM → Option (Unit × gM)
  | 0, _, _, _ => none
  | n + 1, x1, x2, M => (if (M.1 57 1) ≤ x2 then (g_v ((M.1 57 3) - (1 : Int32)) (fun y11 => (f_X6_plan_108 FU x1 y11 M))) else (if (M.1 57 3) = ((-2) : Int32) then (g_b (f_X6_goForwards x2 M) (fun r22 M21 => (if r22 then (g_m (sI M21 57 3 (x2 + (1 : Int32))) (fun M23 => (f_X6_plan_63 n x1 (x2 + 1) M23))) else (f_X6_plan_63 n x1 (x2 + 1) M21)))) else (g_v ((M.1 57 3) - (1 : Int32)) (fun y20 => (f_X6_plan_108 FU x1 y20 M)))))
set_option maxRecDepth 100000 in
set_option maxHeartbeats 4000000 in
theorem o_X6_plan_63 {X : gX} : ∀ (n : Nat) (x1 : Int32) (x2 : Int32) (M : gM), G Y1 jX6_plan X (g_fin g_ev) 63 [(0, .ref (ad X 57)), (1, .int x1), (2, .int x2)] [] M (f_X6_plan_63 n x1 x2 M) := by
  intro n
  induction n with
  | zero => intro x1 x2 M; exact G_none
  | succ n ih =>
    intro x1 x2 M
    rw [f_X6_plan_63]
    refine G_iload_n 2 dX6_plan_63 rfl rfl ?_
    refine G_aload_n 0 dX6_plan_64 rfl rfl ?_
    refine G_get 1 clX6 (y1_57) fl_X6_44 dX6_plan_65 (by decide) rfl rfl ?_
    refine G_icmp_ge (tgt := 101) dX6_plan_68 (by decide) ?_ ?_
    · refine G_aload_n 0 dX6_plan_101 rfl rfl ?_
      refine G_get 3 clX6 (y1_57) fl_X6_59 dX6_plan_102 (by decide) rfl rfl ?_
      refine G_iconst (v := 1) dX6_plan_105 (by decide) ?_
      refine G_isub dX6_plan_106 ?_
      refine G_vi (fun y11 => ?_)
      refine G_istore_n (lv' := [(2, .int y11), (0, .ref (ad X 57)), (1, .int x1)]) dX6_plan_107 rfl (by decide) rfl ?_
      exact G_sub [1, 2, 0] rfl (o_X6_plan_108 FU x1 y11 M)
    · refine G_aload_n 0 dX6_plan_71 rfl rfl ?_
      refine G_get 3 clX6 (y1_57) fl_X6_59 dX6_plan_72 (by decide) rfl rfl ?_
      refine G_bipush (v := (-2)) dX6_plan_75 (by decide) ?_
      refine G_icmp_ne (tgt := 101) dX6_plan_77 (by decide) ?_ ?_
      · refine G_aload_n 0 dX6_plan_101 rfl rfl ?_
        refine G_get 3 clX6 (y1_57) fl_X6_59 dX6_plan_102 (by decide) rfl rfl ?_
        refine G_iconst (v := 1) dX6_plan_105 (by decide) ?_
        refine G_isub dX6_plan_106 ?_
        refine G_vi (fun y20 => ?_)
        refine G_istore_n (lv' := [(2, .int y20), (0, .ref (ad X 57)), (1, .int x1)]) dX6_plan_107 rfl (by decide) rfl ?_
        exact G_sub [1, 2, 0] rfl (o_X6_plan_108 FU x1 y20 M)
      · refine G_aload_n 0 dX6_plan_80 rfl rfl ?_
        refine G_iload_n 2 dX6_plan_81 rfl rfl ?_
        refine G_cVb (As := [.int x2]) (rest := []) (ok_X6_goForwards x2 M) rfl (y1_57) rfl mv_X6_68 dX6_plan_82 rfl rfl (Nat.le_of_ble_eq_true rfl) (g_fitN (by decide) (by decide)) (fun r22 M21 => ?_)
        refine G_ifB_eq (tgt := 95) dX6_plan_85 (by decide) ?_ ?_
        · refine G_iinc (v := x2 + 1) (lv' := [(2, .int (x2 + 1)), (0, .ref (ad X 57)), (1, .int x1)]) 2 dX6_plan_95 rfl rfl (by decide) rfl ?_
          refine G_goto (tgt := 63) dX6_plan_98 (by decide) ?_
          exact G_sub [1, 2, 0] rfl (ih x1 (x2 + 1) M21)
        · refine G_aload_n 0 dX6_plan_88 rfl rfl ?_
          refine G_iload_n 2 dX6_plan_89 rfl rfl ?_
          refine G_iconst (v := 1) dX6_plan_90 (by decide) ?_
          refine G_iadd dX6_plan_91 ?_
          refine G_putI 3 clX6 (y1_57) fl_X6_59 dX6_plan_92 (by decide) rfl rfl rfl ?_
          refine G_m (fun M23 => ?_)
          refine G_iinc (v := x2 + 1) (lv' := [(2, .int (x2 + 1)), (0, .ref (ad X 57)), (1, .int x1)]) 2 dX6_plan_95 rfl rfl (by decide) rfl ?_
          refine G_goto (tgt := 63) dX6_plan_98 (by decide) ?_
          exact G_sub [1, 2, 0] rfl (ih x1 (x2 + 1) M23)
def f_X6_plan_35 (x1 : Int32) (s1 : Int32) (M : gM) : Option (Unit × gM) := (g_m (sI M 57 3 s1) (fun M5 => (g_b (f_J7_fill_53178 60 2079 (0 : Int32) M5) (fun r7 M6 => (g_b (f_J7_fill_53178 61 2079 (0 : Int32) M6) (fun r9 M8 => (g_ck x1 2079 (g_m (sI M8 60 (tn x1) (1 : Int32)) (fun M10 => (f_X6_plan_63 FU x1 (0 : Int32) M10))))))))))
set_option maxRecDepth 100000 in
set_option maxHeartbeats 4000000 in
theorem o_X6_plan_35 {X : gX} (x1 : Int32) (s1 : Int32) (M : gM) : G Y1 jX6_plan X (g_fin g_ev) 35 [(0, .ref (ad X 57)), (1, .int x1)] [.int s1, .ref (ad X 57)] M (f_X6_plan_35 x1 s1 M) := by
  rw [f_X6_plan_35]
  refine G_putI 3 clX6 (y1_57) fl_X6_59 dX6_plan_35 (by decide) rfl rfl rfl ?_
  refine G_m (fun M5 => ?_)
  refine G_aload_n 0 dX6_plan_38 rfl rfl ?_
  refine G_get 6 clX6 (y1_57) fl_X6_18 dX6_plan_39 (by decide) rfl rfl ?_
  refine G_iconst (v := 0) dX6_plan_42 (by decide) ?_
  refine G_cSv (As := [.ref (ad X 60), .int 0]) (rest := []) (ok_J7_fill_53178 (y1_60) (0 : Int32) M5) rfl ms_X6_62 dX6_plan_43 rfl rfl (Nat.le_of_ble_eq_true rfl) (g_fitN (by decide) (by decide)) (fun r7 M6 => ?_)
  refine G_aload_n 0 dX6_plan_46 rfl rfl ?_
  refine G_get 7 clX6 (y1_57) fl_X6_21 dX6_plan_47 (by decide) rfl rfl ?_
  refine G_iconst (v := 0) dX6_plan_50 (by decide) ?_
  refine G_cSv (As := [.ref (ad X 61), .int 0]) (rest := []) (ok_J7_fill_53178 (y1_61) (0 : Int32) M6) rfl ms_X6_62 dX6_plan_51 rfl rfl (Nat.le_of_ble_eq_true rfl) (g_fitN (by decide) (by decide)) (fun r9 M8 => ?_)
  refine G_aload_n 0 dX6_plan_54 rfl rfl ?_
  refine G_get 6 clX6 (y1_57) fl_X6_18 dX6_plan_55 (by decide) rfl rfl ?_
  refine G_iload_n 1 dX6_plan_58 rfl rfl ?_
  refine G_iconst (v := 1) dX6_plan_59 (by decide) ?_
  refine G_iast (y1_60) dX6_plan_60 ?_
  refine G_m (fun M10 => ?_)
  refine G_iconst (v := 0) dX6_plan_61 (by decide) ?_
  refine G_istore_n (lv' := [(2, .int 0), (0, .ref (ad X 57)), (1, .int x1)]) dX6_plan_62 rfl (by decide) rfl ?_
  exact G_sub [1, 2, 0] rfl (o_X6_plan_63 FU x1 (0 : Int32) M10)
def f_X6_plan (a1 : Int32) (M : gM) : Option (Unit × gM) := (if (M.1 57 4) = a1 then (some ((), M)) else (g_m (sI M 57 4 a1) (fun M1 => (g_or 3 12 (M1.2.2 27 0) (fun t2 => (g_b (f_X4_isOver t2 a1 M1) (fun r4 M3 => (if r4 then (f_X6_plan_35 a1 (0 : Int32) M3) else (f_X6_plan_35 a1 ((-2) : Int32) M3)))))))))
set_option maxRecDepth 100000 in
set_option maxHeartbeats 4000000 in
theorem ok_X6_plan (a1 : Int32) (M : gM) : g_met Y1 yX6_plan jX6_plan g_ev (fun Z => [.ref (Z.2.1 57), .int a1]) M (f_X6_plan a1 M) := by
  refine g_enter (fun Z => [(0, .ref (Z.2.1 57)), (1, .int a1)]) (by decide) rfl (fun Z => Nat.le_of_ble_eq_true rfl) (fun Z => rfl) (fun X => ?_)
  rw [f_X6_plan]
  refine G_aload_n 0 dX6_plan_0 rfl rfl ?_
  refine G_get 4 clX6 (y1_57) fl_X6_40 dX6_plan_1 (by decide) rfl rfl ?_
  refine G_iload_n 1 dX6_plan_4 rfl rfl ?_
  refine G_icmp_ne (tgt := 9) dX6_plan_5 (by decide) ?_ ?_
  · refine G_aload_n 0 dX6_plan_9 rfl rfl ?_
    refine G_iload_n 1 dX6_plan_10 rfl rfl ?_
    refine G_putI 4 clX6 (y1_57) fl_X6_40 dX6_plan_11 (by decide) rfl rfl rfl ?_
    refine G_m (fun M1 => ?_)
    refine G_aload_n 0 dX6_plan_14 rfl rfl ?_
    refine G_aload_n 0 dX6_plan_15 rfl rfl ?_
    refine G_get 0 clX6 (y1_57) fl_X6_36 dX6_plan_16 (by decide) rfl rfl ?_
    refine G_getO 0 clX0 (y1_27) fl_X6_47 dX6_plan_19 (by decide) rfl (by decide) (fun t2 ht2 => ?_)
    refine G_iload_n 1 dX6_plan_22 rfl rfl ?_
    refine G_cVb (As := [.int a1]) (rest := [.ref (ad X 57)]) (ok_X4_isOver ht2 a1 M1) rfl (ro_0 ht2) rfl mv_X6_53 dX6_plan_23 rfl rfl (Nat.le_of_ble_eq_true rfl) (g_fitN (by decide) (by decide)) (fun r4 M3 => ?_)
    refine G_ifB_eq (tgt := 33) dX6_plan_26 (by decide) ?_ ?_
    · refine G_bipush (v := (-2)) dX6_plan_33 (by decide) ?_
      exact G_sub [0, 1] rfl (o_X6_plan_35 a1 ((-2) : Int32) M3)
    · refine G_iconst (v := 0) dX6_plan_29 (by decide) ?_
      refine G_goto (tgt := 35) dX6_plan_30 (by decide) ?_
      exact G_sub [0, 1] rfl (o_X6_plan_35 a1 (0 : Int32) M3)
  · exact G_vret rfl dX6_plan_8
-- X6_plannedAct
def f_X6_plannedAct (a1 : Int32) (M : gM) : Option (Int32 × gM) := (if a1 < 0 then (some (((-1) : Int32), M)) else (if (M.1 57 3) ≤ a1 then (some (((-1) : Int32), M)) else (if (24 : Int32) ≤ a1 then (some (((-1) : Int32), M)) else (g_ck a1 24 (some ((M.1 59 (tn a1)), M))))))
set_option maxRecDepth 100000 in
set_option maxHeartbeats 4000000 in
theorem ok_X6_plannedAct (a1 : Int32) (M : gM) : g_met Y1 yX6_plannedAct jX6_plannedAct g_ei (fun Z => [.ref (Z.2.1 57), .int a1]) M (f_X6_plannedAct a1 M) := by
  refine g_enter (fun Z => [(0, .ref (Z.2.1 57)), (1, .int a1)]) (by decide) rfl (fun Z => Nat.le_of_ble_eq_true rfl) (fun Z => rfl) (fun X => ?_)
  rw [f_X6_plannedAct]
  refine G_iload_n 1 dX6_plannedAct_0 rfl rfl ?_
  refine G_if_lt (tgt := 27) dX6_plannedAct_1 (by decide) ?_ ?_
  · refine G_iconst (v := (-1)) dX6_plannedAct_27 (by decide) ?_
    exact G_iret rfl dX6_plannedAct_28
  · refine G_iload_n 1 dX6_plannedAct_4 rfl rfl ?_
    refine G_aload_n 0 dX6_plannedAct_5 rfl rfl ?_
    refine G_get 3 clX6 (y1_57) fl_X6_59 dX6_plannedAct_6 (by decide) rfl rfl ?_
    refine G_icmp_ge (tgt := 27) dX6_plannedAct_9 (by decide) ?_ ?_
    · refine G_iconst (v := (-1)) dX6_plannedAct_27 (by decide) ?_
      exact G_iret rfl dX6_plannedAct_28
    · refine G_iload_n 1 dX6_plannedAct_12 rfl rfl ?_
      refine G_bipush (v := 24) dX6_plannedAct_13 (by decide) ?_
      refine G_icmp_ge (tgt := 27) dX6_plannedAct_15 (by decide) ?_ ?_
      · refine G_iconst (v := (-1)) dX6_plannedAct_27 (by decide) ?_
        exact G_iret rfl dX6_plannedAct_28
      · refine G_aload_n 0 dX6_plannedAct_18 rfl rfl ?_
        refine G_get 5 clX6 (y1_57) fl_X6_15 dX6_plannedAct_19 (by decide) rfl rfl ?_
        refine G_iload_n 1 dX6_plannedAct_22 rfl rfl ?_
        refine G_iald (y1_59) dX6_plannedAct_23 ?_
        refine G_goto (tgt := 28) dX6_plannedAct_24 (by decide) ?_
        exact G_iret rfl dX6_plannedAct_28
-- X6_allGoOn
def f_X6_allGoOn_71 (k21 : Int32 → Int32 → Int32 → gM → Option (Bool × gM)) : Nat → Int32 → Int32 → Int32 → Int32 → Int32 → gM → Option (Bool × gM)
  | 0, _, _, _, _, _, _ => none
  | n + 1, x1, x2, x3, x4, x5, M => (g_b (f_X0_greatest x4 M) (fun r9 M8 => (if r9 < x5 then (k21 x1 x2 (x3 + 1) M8) else (g_b (f_X0_after x4 x2 x5 M8) (fun r11 M10 => (if 0 ≤ r11 then (g_ck (x1 + (1 : Int32)) 5 (g_v (M10.1 64 (tn (x1 + (1 : Int32)))) (fun y12 => (g_or 3 12 (M10.2.2 27 0) (fun t13 => (g_b (f_X4_isOver t13 r11 M10) (fun r15 M14 => (if r15 then (f_X6_allGoOn_71 k21 n x1 x2 x3 x4 (x5 + 1) M14) else (g_ck r11 2079 (if (M14.1 65 (tn r11)) = (M14.1 57 12) then (f_X6_allGoOn_71 k21 n x1 x2 x3 x4 (x5 + 1) M14) else (if (2079 : Int32) ≤ y12 then (f_X6_allGoOn_71 k21 n x1 x2 x3 x4 (x5 + 1) M14) else (g_ck r11 2079 (g_m (sI M14 65 (tn r11) (M14.1 57 12)) (fun M16 => (g_ck (((x1 + (1 : Int32)) * (2079 : Int32)) + y12) 10395 (g_m (sI M16 63 (tn (((x1 + (1 : Int32)) * (2079 : Int32)) + y12)) r11) (fun M17 => (g_ck (x1 + (1 : Int32)) 5 (g_m (sI M17 64 (tn (x1 + (1 : Int32))) (y12 + (1 : Int32))) (fun M18 => (f_X6_allGoOn_71 k21 n x1 x2 x3 x4 (x5 + 1) M18))))))))))))))))))))) else (some (false, M10))))))))
set_option maxRecDepth 100000 in
set_option maxHeartbeats 4000000 in
theorem o_X6_allGoOn_71 {X : gX} {k21 : Int32 → Int32 → Int32 → gM → Option (Bool × gM)} (hk21 : ∀ (x1 : Int32) (x2 : Int32) (x3 : Int32) (M : gM), G Y1 jX6_allGoOn X (g_fin g_eb) 21 [(0, .ref (ad X 57)), (1, .int x1), (2, .int x2), (3, .int x3)] [] M (k21 x1 x2 x3 M)) : ∀ (n : Nat) (x1 : Int32) (x2 : Int32) (x3 : Int32) (x4 : Int32) (x5 : Int32) (M : gM), G Y1 jX6_allGoOn X (g_fin g_eb) 71 [(0, .ref (ad X 57)), (1, .int x1), (2, .int x2), (3, .int x3), (4, .int x4), (5, .int x5)] [] M (f_X6_allGoOn_71 k21 n x1 x2 x3 x4 x5 M) := by
  intro n
  induction n with
  | zero => intro x1 x2 x3 x4 x5 M; exact G_none
  | succ n ih =>
    intro x1 x2 x3 x4 x5 M
    rw [f_X6_allGoOn_71]
    refine G_iload 5 dX6_allGoOn_71 rfl ?_
    refine G_aload_n 0 dX6_allGoOn_73 rfl rfl ?_
    refine G_get 0 clX6 (y1_57) fl_X6_36 dX6_allGoOn_74 (by decide) rfl rfl ?_
    refine G_iload 4 dX6_allGoOn_77 rfl ?_
    refine G_cVi (As := [.int x4]) (rest := [.int x5]) (ok_X0_greatest x4 M) rfl (y1_27) rfl mv_X6_103 dX6_allGoOn_79 rfl rfl (Nat.le_of_ble_eq_true rfl) (g_fitN (by decide) (by decide)) (fun r9 M8 => ?_)
    refine G_icmp_gt (tgt := 199) dX6_allGoOn_82 (by decide) ?_ ?_
    · refine G_iinc (v := x3 + 1) (lv' := [(3, .int (x3 + 1)), (0, .ref (ad X 57)), (1, .int x1), (2, .int x2), (4, .int x4), (5, .int x5)]) 3 dX6_allGoOn_199 rfl rfl (by decide) rfl ?_
      refine G_goto (tgt := 21) dX6_allGoOn_202 (by decide) ?_
      exact G_sub [1, 2, 3, 0] rfl (hk21 x1 x2 (x3 + 1) M8)
    · refine G_aload_n 0 dX6_allGoOn_85 rfl rfl ?_
      refine G_get 0 clX6 (y1_57) fl_X6_36 dX6_allGoOn_86 (by decide) rfl rfl ?_
      refine G_iload 4 dX6_allGoOn_89 rfl ?_
      refine G_iload_n 2 dX6_allGoOn_91 rfl rfl ?_
      refine G_iload 5 dX6_allGoOn_92 rfl ?_
      refine G_cVi (As := [.int x4, .int x2, .int x5]) (rest := []) (ok_X0_after x4 x2 x5 M8) rfl (y1_27) rfl mv_X6_75 dX6_allGoOn_94 rfl rfl (Nat.le_of_ble_eq_true rfl) (g_fitN (by decide) (by decide)) (fun r11 M10 => ?_)
      refine G_istore (lv' := [(6, .int r11), (0, .ref (ad X 57)), (1, .int x1), (2, .int x2), (3, .int x3), (4, .int x4), (5, .int x5)]) dX6_allGoOn_97 (by decide) rfl ?_
      refine G_iload 0 dX6_allGoOn_99 rfl ?_
      refine G_if_ge (tgt := 106) dX6_allGoOn_101 (by decide) ?_ ?_
      · refine G_aload_n 1 dX6_allGoOn_106 rfl rfl ?_
        refine G_get 10 clX6 (y1_57) fl_X6_30 dX6_allGoOn_107 (by decide) rfl rfl ?_
        refine G_iload_n 2 dX6_allGoOn_110 rfl rfl ?_
        refine G_iconst (v := 1) dX6_allGoOn_111 (by decide) ?_
        refine G_iadd dX6_allGoOn_112 ?_
        refine G_iald (y1_64) dX6_allGoOn_113 ?_
        refine G_vi (fun y12 => ?_)
        refine G_istore (lv' := [(7, .int y12), (6, .int r11), (0, .ref (ad X 57)), (1, .int x1), (2, .int x2), (3, .int x3), (4, .int x4), (5, .int x5)]) dX6_allGoOn_114 (by decide) rfl ?_
        refine G_aload_n 2 dX6_allGoOn_116 rfl rfl ?_
        refine G_get 0 clX6 (y1_57) fl_X6_36 dX6_allGoOn_117 (by decide) rfl rfl ?_
        refine G_getO 0 clX0 (y1_27) fl_X6_47 dX6_allGoOn_120 (by decide) rfl (by decide) (fun t13 ht13 => ?_)
        refine G_iload 1 dX6_allGoOn_123 rfl ?_
        refine G_cVb (As := [.int r11]) (rest := []) (ok_X4_isOver ht13 r11 M10) rfl (ro_0 ht13) rfl mv_X6_53 dX6_allGoOn_125 rfl rfl (Nat.le_of_ble_eq_true rfl) (g_fitN (by decide) (by decide)) (fun r15 M14 => ?_)
        refine G_ifB_ne (tgt := 193) dX6_allGoOn_128 (by decide) ?_ ?_
        · refine G_iinc (v := x5 + 1) (lv' := [(5, .int (x5 + 1)), (7, .int y12), (6, .int r11), (0, .ref (ad X 57)), (1, .int x1), (2, .int x2), (3, .int x3), (4, .int x4)]) 7 dX6_allGoOn_193 rfl rfl (by decide) rfl ?_
          refine G_goto (tgt := 71) dX6_allGoOn_196 (by decide) ?_
          exact G_sub [3, 4, 5, 6, 7, 0] rfl (ih x1 x2 x3 x4 (x5 + 1) M14)
        · refine G_aload_n 2 dX6_allGoOn_131 rfl rfl ?_
          refine G_get 11 clX6 (y1_57) fl_X6_33 dX6_allGoOn_132 (by decide) rfl rfl ?_
          refine G_iload 1 dX6_allGoOn_135 rfl ?_
          refine G_iald (y1_65) dX6_allGoOn_137 ?_
          refine G_aload_n 2 dX6_allGoOn_138 rfl rfl ?_
          refine G_get 12 clX6 (y1_57) fl_X6_94 dX6_allGoOn_139 (by decide) rfl rfl ?_
          refine G_icmp_eq (tgt := 193) dX6_allGoOn_142 (by decide) ?_ ?_
          · refine G_iinc (v := x5 + 1) (lv' := [(5, .int (x5 + 1)), (7, .int y12), (6, .int r11), (0, .ref (ad X 57)), (1, .int x1), (2, .int x2), (3, .int x3), (4, .int x4)]) 7 dX6_allGoOn_193 rfl rfl (by decide) rfl ?_
            refine G_goto (tgt := 71) dX6_allGoOn_196 (by decide) ?_
            exact G_sub [3, 4, 5, 6, 7, 0] rfl (ih x1 x2 x3 x4 (x5 + 1) M14)
          · refine G_iload 0 dX6_allGoOn_145 rfl ?_
            refine G_sipush (v := 2079) dX6_allGoOn_147 (by decide) ?_
            refine G_icmp_ge (tgt := 193) dX6_allGoOn_150 (by decide) ?_ ?_
            · refine G_iinc (v := x5 + 1) (lv' := [(5, .int (x5 + 1)), (7, .int y12), (6, .int r11), (0, .ref (ad X 57)), (1, .int x1), (2, .int x2), (3, .int x3), (4, .int x4)]) 7 dX6_allGoOn_193 rfl rfl (by decide) rfl ?_
              refine G_goto (tgt := 71) dX6_allGoOn_196 (by decide) ?_
              exact G_sub [3, 4, 5, 6, 7, 0] rfl (ih x1 x2 x3 x4 (x5 + 1) M14)
            · refine G_aload_n 2 dX6_allGoOn_153 rfl rfl ?_
              refine G_get 11 clX6 (y1_57) fl_X6_33 dX6_allGoOn_154 (by decide) rfl rfl ?_
              refine G_iload 1 dX6_allGoOn_157 rfl ?_
              refine G_aload_n 2 dX6_allGoOn_159 rfl rfl ?_
              refine G_get 12 clX6 (y1_57) fl_X6_94 dX6_allGoOn_160 (by decide) rfl rfl ?_
              refine G_iast (y1_65) dX6_allGoOn_163 ?_
              refine G_m (fun M16 => ?_)
              refine G_aload_n 2 dX6_allGoOn_164 rfl rfl ?_
              refine G_get 9 clX6 (y1_57) fl_X6_27 dX6_allGoOn_165 (by decide) rfl rfl ?_
              refine G_iload_n 3 dX6_allGoOn_168 rfl rfl ?_
              refine G_iconst (v := 1) dX6_allGoOn_169 (by decide) ?_
              refine G_iadd dX6_allGoOn_170 ?_
              refine G_sipush (v := 2079) dX6_allGoOn_171 (by decide) ?_
              refine G_imul dX6_allGoOn_174 ?_
              refine G_iload 0 dX6_allGoOn_175 rfl ?_
              refine G_iadd dX6_allGoOn_177 ?_
              refine G_iload 1 dX6_allGoOn_178 rfl ?_
              refine G_iast (y1_63) dX6_allGoOn_180 ?_
              refine G_m (fun M17 => ?_)
              refine G_aload_n 2 dX6_allGoOn_181 rfl rfl ?_
              refine G_get 10 clX6 (y1_57) fl_X6_30 dX6_allGoOn_182 (by decide) rfl rfl ?_
              refine G_iload_n 3 dX6_allGoOn_185 rfl rfl ?_
              refine G_iconst (v := 1) dX6_allGoOn_186 (by decide) ?_
              refine G_iadd dX6_allGoOn_187 ?_
              refine G_iload 0 dX6_allGoOn_188 rfl ?_
              refine G_iconst (v := 1) dX6_allGoOn_190 (by decide) ?_
              refine G_iadd dX6_allGoOn_191 ?_
              refine G_iast (y1_64) dX6_allGoOn_192 ?_
              refine G_m (fun M18 => ?_)
              refine G_iinc (v := x5 + 1) (lv' := [(5, .int (x5 + 1)), (7, .int y12), (6, .int r11), (0, .ref (ad X 57)), (1, .int x1), (2, .int x2), (3, .int x3), (4, .int x4)]) 7 dX6_allGoOn_193 rfl rfl (by decide) rfl ?_
              refine G_goto (tgt := 71) dX6_allGoOn_196 (by decide) ?_
              exact G_sub [3, 4, 5, 6, 7, 0] rfl (ih x1 x2 x3 x4 (x5 + 1) M18)
      · refine G_iconst (v := 0) dX6_allGoOn_104 (by decide) ?_
        exact G_zret (b := false) rfl dX6_allGoOn_105
def f_X6_allGoOn_21 : Nat → Int32 → Int32 → Int32 → gM → Option (Bool × gM)
  | 0, _, _, _, _ => none
  | n + 1, x1, x2, x3, M => (g_ck x1 5 (if (M.1 64 (tn x1)) ≤ x3 then (some (true, M)) else (g_ck ((x1 * (2079 : Int32)) + x3) 10395 (g_v (M.1 63 (tn ((x1 * (2079 : Int32)) + x3))) (fun y3 => (g_b (f_X0_allows y3 x2 M) (fun r5 M4 => (if r5 then (g_b (f_X0_least y3 M4) (fun r7 M6 => (f_X6_allGoOn_71 (f_X6_allGoOn_21 n) FU x1 x2 x3 y3 r7 M6))) else (some (false, M4))))))))))
set_option maxRecDepth 100000 in
set_option maxHeartbeats 4000000 in
theorem o_X6_allGoOn_21 {X : gX} : ∀ (n : Nat) (x1 : Int32) (x2 : Int32) (x3 : Int32) (M : gM), G Y1 jX6_allGoOn X (g_fin g_eb) 21 [(0, .ref (ad X 57)), (1, .int x1), (2, .int x2), (3, .int x3)] [] M (f_X6_allGoOn_21 n x1 x2 x3 M) := by
  intro n
  induction n with
  | zero => intro x1 x2 x3 M; exact G_none
  | succ n ih =>
    intro x1 x2 x3 M
    rw [f_X6_allGoOn_21]
    refine G_iload_n 3 dX6_allGoOn_21 rfl rfl ?_
    refine G_aload_n 0 dX6_allGoOn_22 rfl rfl ?_
    refine G_get 10 clX6 (y1_57) fl_X6_30 dX6_allGoOn_23 (by decide) rfl rfl ?_
    refine G_iload_n 1 dX6_allGoOn_26 rfl rfl ?_
    refine G_iald (y1_64) dX6_allGoOn_27 ?_
    refine G_icmp_ge (tgt := 205) dX6_allGoOn_28 (by decide) ?_ ?_
    · refine G_iconst (v := 1) dX6_allGoOn_205 (by decide) ?_
      exact G_zret (b := true) rfl dX6_allGoOn_206
    · refine G_aload_n 0 dX6_allGoOn_31 rfl rfl ?_
      refine G_get 9 clX6 (y1_57) fl_X6_27 dX6_allGoOn_32 (by decide) rfl rfl ?_
      refine G_iload_n 1 dX6_allGoOn_35 rfl rfl ?_
      refine G_sipush (v := 2079) dX6_allGoOn_36 (by decide) ?_
      refine G_imul dX6_allGoOn_39 ?_
      refine G_iload_n 3 dX6_allGoOn_40 rfl rfl ?_
      refine G_iadd dX6_allGoOn_41 ?_
      refine G_iald (y1_63) dX6_allGoOn_42 ?_
      refine G_vi (fun y3 => ?_)
      refine G_istore (lv' := [(4, .int y3), (0, .ref (ad X 57)), (1, .int x1), (2, .int x2), (3, .int x3)]) dX6_allGoOn_43 (by decide) rfl ?_
      refine G_aload_n 1 dX6_allGoOn_45 rfl rfl ?_
      refine G_get 0 clX6 (y1_57) fl_X6_36 dX6_allGoOn_46 (by decide) rfl rfl ?_
      refine G_iload 0 dX6_allGoOn_49 rfl ?_
      refine G_iload_n 3 dX6_allGoOn_51 rfl rfl ?_
      refine G_cVb (As := [.int y3, .int x2]) (rest := []) (ok_X0_allows y3 x2 M) rfl (y1_27) rfl mv_X6_97 dX6_allGoOn_52 rfl rfl (Nat.le_of_ble_eq_true rfl) (g_fitN (by decide) (by decide)) (fun r5 M4 => ?_)
      refine G_ifB_ne (tgt := 60) dX6_allGoOn_55 (by decide) ?_ ?_
      · refine G_aload_n 1 dX6_allGoOn_60 rfl rfl ?_
        refine G_get 0 clX6 (y1_57) fl_X6_36 dX6_allGoOn_61 (by decide) rfl rfl ?_
        refine G_iload 0 dX6_allGoOn_64 rfl ?_
        refine G_cVi (As := [.int y3]) (rest := []) (ok_X0_least y3 M4) rfl (y1_27) rfl mv_X6_100 dX6_allGoOn_66 rfl rfl (Nat.le_of_ble_eq_true rfl) (g_fitN (by decide) (by decide)) (fun r7 M6 => ?_)
        refine G_istore (lv' := [(5, .int r7), (4, .int y3), (0, .ref (ad X 57)), (1, .int x1), (2, .int x2), (3, .int x3)]) dX6_allGoOn_69 (by decide) rfl ?_
        exact G_sub [2, 3, 4, 5, 1, 0] rfl (o_X6_allGoOn_71 ih FU x1 x2 x3 y3 r7 M6)
      · refine G_iconst (v := 0) dX6_allGoOn_58 (by decide) ?_
        exact G_zret (b := false) rfl dX6_allGoOn_59
def f_X6_allGoOn (a1 : Int32) (a2 : Int32) (M : gM) : Option (Bool × gM) := (g_m (sI M 57 12 ((M.1 57 12) + (1 : Int32))) (fun M1 => (g_ck (a1 + (1 : Int32)) 5 (g_m (sI M1 64 (tn (a1 + (1 : Int32))) (0 : Int32)) (fun M2 => (f_X6_allGoOn_21 FU a1 a2 (0 : Int32) M2))))))
set_option maxRecDepth 100000 in
set_option maxHeartbeats 4000000 in
theorem ok_X6_allGoOn (a1 : Int32) (a2 : Int32) (M : gM) : g_met Y1 yX6_allGoOn jX6_allGoOn g_eb (fun Z => [.ref (Z.2.1 57), .int a1, .int a2]) M (f_X6_allGoOn a1 a2 M) := by
  refine g_enter (fun Z => [(0, .ref (Z.2.1 57)), (1, .int a1), (2, .int a2)]) (by decide) rfl (fun Z => Nat.le_of_ble_eq_true rfl) (fun Z => rfl) (fun X => ?_)
  rw [f_X6_allGoOn]
  refine G_aload_n 0 dX6_allGoOn_0 rfl rfl ?_
  refine G_dup dX6_allGoOn_1 rfl ?_
  refine G_get 12 clX6 (y1_57) fl_X6_94 dX6_allGoOn_2 (by decide) rfl rfl ?_
  refine G_iconst (v := 1) dX6_allGoOn_5 (by decide) ?_
  refine G_iadd dX6_allGoOn_6 ?_
  refine G_putI 12 clX6 (y1_57) fl_X6_94 dX6_allGoOn_7 (by decide) rfl rfl rfl ?_
  refine G_m (fun M1 => ?_)
  refine G_aload_n 0 dX6_allGoOn_10 rfl rfl ?_
  refine G_get 10 clX6 (y1_57) fl_X6_30 dX6_allGoOn_11 (by decide) rfl rfl ?_
  refine G_iload_n 1 dX6_allGoOn_14 rfl rfl ?_
  refine G_iconst (v := 1) dX6_allGoOn_15 (by decide) ?_
  refine G_iadd dX6_allGoOn_16 ?_
  refine G_iconst (v := 0) dX6_allGoOn_17 (by decide) ?_
  refine G_iast (y1_64) dX6_allGoOn_18 ?_
  refine G_m (fun M2 => ?_)
  refine G_iconst (v := 0) dX6_allGoOn_19 (by decide) ?_
  refine G_istore_n (lv' := [(3, .int 0), (0, .ref (ad X 57)), (1, .int a1), (2, .int a2)]) dX6_allGoOn_20 rfl (by decide) rfl ?_
  exact G_sub [1, 2, 3, 0] rfl (o_X6_allGoOn_21 FU a1 a2 (0 : Int32) M2)
-- X6_rowsFrom
def f_X6_rowsFrom_42 (rec : Int32 → Int32 → Bool → gM → Option (Int32 × gM)) (k18 : Int32 → Int32 → Bool → Int32 → Int32 → gM → Option (Int32 × gM)) (x1 : Int32) (x2 : Int32) (x3 : Bool) (x4 : Int32) (x5 : Int32) (M : gM) : Option (Int32 × gM) := (g_b (f_X6_allGoOn x1 x5 M) (fun r3 M2 => (if r3 then (g_ck x1 4 (g_m (sI M2 62 (tn x1) x5) (fun M4 => (g_b (rec (x1 + (1 : Int32)) x2 x3 M4) (fun r6 M5 => (g_v (x4 + r6) (fun y7 => (k18 x1 x2 x3 y7 (x5 + 1) M5)))))))) else (k18 x1 x2 x3 x4 (x5 + 1) M2))))
set_option maxRecDepth 100000 in
set_option maxHeartbeats 4000000 in
theorem o_X6_rowsFrom_42 {X : gX} {d : Nat} {rec : Int32 → Int32 → Bool → gM → Option (Int32 × gM)} {k18 : Int32 → Int32 → Bool → Int32 → Int32 → gM → Option (Int32 × gM)} (hrec : ∀ (a1 a2 : Int32) (a3 : Bool) (M : gM), g_met Y1 yX6_rowsFrom (jX6_rowsFrom d) g_ei (fun Z => [.ref (Z.2.1 57), .int a1, .int a2, .int (b2i a3)]) M (rec a1 a2 a3 M)) (hk18 : ∀ (x1 : Int32) (x2 : Int32) (x3 : Bool) (x4 : Int32) (x5 : Int32) (M : gM), G Y1 (jX6_rowsFrom (d + 1)) X (g_fin g_ei) 18 [(0, .ref (ad X 57)), (1, .int x1), (2, .int x2), (3, .int (b2i x3)), (4, .int x4), (5, .int x5)] [] M (k18 x1 x2 x3 x4 x5 M)) (x1 : Int32) (x2 : Int32) (x3 : Bool) (x4 : Int32) (x5 : Int32) (M : gM) : G Y1 (jX6_rowsFrom (d + 1)) X (g_fin g_ei) 42 [(0, .ref (ad X 57)), (1, .int x1), (2, .int x2), (3, .int (b2i x3)), (4, .int x4), (5, .int x5)] [] M (f_X6_rowsFrom_42 rec k18 x1 x2 x3 x4 x5 M) := by
  rw [f_X6_rowsFrom_42]
  refine G_aload_n 0 dX6_rowsFrom_42 rfl rfl ?_
  refine G_iload_n 1 dX6_rowsFrom_43 rfl rfl ?_
  refine G_iload 5 dX6_rowsFrom_44 rfl ?_
  refine G_cVb (As := [.int x1, .int x5]) (rest := []) (ok_X6_allGoOn x1 x5 M) rfl (y1_57) rfl mv_X6_90 dX6_rowsFrom_46 rfl rfl (Nat.le_of_ble_eq_true rfl) (g_fitN (Nat.le_trans (m := 6) (Nat.le_of_ble_eq_true rfl) (Nat.le_add_right _ _)) (Nat.le_of_ble_eq_true rfl)) (fun r3 M2 => ?_)
  refine G_ifB_eq (tgt := 74) dX6_rowsFrom_49 (by decide) ?_ ?_
  · refine G_iinc (v := x5 + 1) (lv' := [(5, .int (x5 + 1)), (0, .ref (ad X 57)), (1, .int x1), (2, .int x2), (3, .int (b2i x3)), (4, .int x4)]) 5 dX6_rowsFrom_74 rfl rfl (Nat.le_of_ble_eq_true rfl) rfl ?_
    refine G_goto (tgt := 18) dX6_rowsFrom_77 (by decide) ?_
    exact G_sub [1, 2, 3, 4, 5, 0] rfl (hk18 x1 x2 x3 x4 (x5 + 1) M2)
  · refine G_aload_n 0 dX6_rowsFrom_52 rfl rfl ?_
    refine G_get 8 clX6 (y1_57) fl_X6_24 dX6_rowsFrom_53 (by decide) rfl rfl ?_
    refine G_iload_n 1 dX6_rowsFrom_56 rfl rfl ?_
    refine G_iload 5 dX6_rowsFrom_57 rfl ?_
    refine G_iast (y1_62) dX6_rowsFrom_59 ?_
    refine G_m (fun M4 => ?_)
    refine G_iload 4 dX6_rowsFrom_60 rfl ?_
    refine G_aload_n 0 dX6_rowsFrom_62 rfl rfl ?_
    refine G_iload_n 1 dX6_rowsFrom_63 rfl rfl ?_
    refine G_iconst (v := 1) dX6_rowsFrom_64 (by decide) ?_
    refine G_iadd dX6_rowsFrom_65 ?_
    refine G_iload_n 2 dX6_rowsFrom_66 rfl rfl ?_
    refine G_iload_n 3 dX6_rowsFrom_67 rfl rfl ?_
    refine G_cVi (As := [.int (x1 + (1 : Int32)), .int x2, .int (b2i x3)]) (rest := [.int x4]) (hrec (x1 + (1 : Int32)) x2 x3 M4) rfl (y1_57) rfl (mv_X6_83 d) dX6_rowsFrom_68 rfl rfl (Nat.le_of_ble_eq_true rfl) (g_fitN (Nat.le_refl _) (Nat.le_of_ble_eq_true rfl)) (fun r6 M5 => ?_)
    refine G_iadd dX6_rowsFrom_71 ?_
    refine G_vi (fun y7 => ?_)
    refine G_istore (lv' := [(4, .int y7), (0, .ref (ad X 57)), (1, .int x1), (2, .int x2), (3, .int (b2i x3)), (5, .int x5)]) dX6_rowsFrom_72 (Nat.le_of_ble_eq_true rfl) rfl ?_
    refine G_iinc (v := x5 + 1) (lv' := [(5, .int (x5 + 1)), (4, .int y7), (0, .ref (ad X 57)), (1, .int x1), (2, .int x2), (3, .int (b2i x3))]) 5 dX6_rowsFrom_74 rfl rfl (Nat.le_of_ble_eq_true rfl) rfl ?_
    refine G_goto (tgt := 18) dX6_rowsFrom_77 (by decide) ?_
    exact G_sub [2, 3, 4, 5, 1, 0] rfl (hk18 x1 x2 x3 y7 (x5 + 1) M5)
def f_X6_rowsFrom_18 (rec : Int32 → Int32 → Bool → gM → Option (Int32 × gM)) : Nat → Int32 → Int32 → Bool → Int32 → Int32 → gM → Option (Int32 × gM)
  | 0, _, _, _, _, _, _ => none
  | n + 1, x1, x2, x3, x4, x5, M => (g_or 3 12 (M.2.2 27 0) (fun t1 => (if (M.1 t1 5) ≤ x5 then (some (x4, M)) else (if x3 then (if 0 < x4 then (some (x4, M)) else (f_X6_rowsFrom_42 rec (f_X6_rowsFrom_18 rec n) x1 x2 x3 x4 x5 M)) else (f_X6_rowsFrom_42 rec (f_X6_rowsFrom_18 rec n) x1 x2 x3 x4 x5 M)))))
set_option maxRecDepth 100000 in
set_option maxHeartbeats 4000000 in
theorem o_X6_rowsFrom_18 {X : gX} {d : Nat} {rec : Int32 → Int32 → Bool → gM → Option (Int32 × gM)} (hrec : ∀ (a1 a2 : Int32) (a3 : Bool) (M : gM), g_met Y1 yX6_rowsFrom (jX6_rowsFrom d) g_ei (fun Z => [.ref (Z.2.1 57), .int a1, .int a2, .int (b2i a3)]) M (rec a1 a2 a3 M)) : ∀ (n : Nat) (x1 : Int32) (x2 : Int32) (x3 : Bool) (x4 : Int32) (x5 : Int32) (M : gM), G Y1 (jX6_rowsFrom (d + 1)) X (g_fin g_ei) 18 [(0, .ref (ad X 57)), (1, .int x1), (2, .int x2), (3, .int (b2i x3)), (4, .int x4), (5, .int x5)] [] M (f_X6_rowsFrom_18 rec n x1 x2 x3 x4 x5 M) := by
  intro n
  induction n with
  | zero => intro x1 x2 x3 x4 x5 M; exact G_none
  | succ n ih =>
    intro x1 x2 x3 x4 x5 M
    rw [f_X6_rowsFrom_18]
    refine G_iload 5 dX6_rowsFrom_18 rfl ?_
    refine G_aload_n 0 dX6_rowsFrom_20 rfl rfl ?_
    refine G_get 0 clX6 (y1_57) fl_X6_36 dX6_rowsFrom_21 (by decide) rfl rfl ?_
    refine G_getO 0 clX0 (y1_27) fl_X6_47 dX6_rowsFrom_24 (by decide) rfl (by decide) (fun t1 ht1 => ?_)
    refine G_get 5 clX4 (ro_0 ht1) fl_X6_87 dX6_rowsFrom_27 (by decide) rfl rfl ?_
    refine G_icmp_ge (tgt := 80) dX6_rowsFrom_30 (by decide) ?_ ?_
    · refine G_iload 4 dX6_rowsFrom_80 rfl ?_
      exact G_iret rfl dX6_rowsFrom_82
    · refine G_iload_n 3 dX6_rowsFrom_33 rfl rfl ?_
      refine G_ifB_eq (tgt := 42) dX6_rowsFrom_34 (by decide) ?_ ?_
      · exact G_sub [0, 1, 2, 3, 4, 5] rfl (o_X6_rowsFrom_42 hrec ih x1 x2 x3 x4 x5 M)
      · refine G_iload 4 dX6_rowsFrom_37 rfl ?_
        refine G_if_gt (tgt := 80) dX6_rowsFrom_39 (by decide) ?_ ?_
        · refine G_iload 4 dX6_rowsFrom_80 rfl ?_
          exact G_iret rfl dX6_rowsFrom_82
        · exact G_sub [0, 1, 2, 3, 4, 5] rfl (o_X6_rowsFrom_42 hrec ih x1 x2 x3 x4 x5 M)
def f_X6_rowsFrom_b (rec : Int32 → Int32 → Bool → gM → Option (Int32 × gM)) (a1 a2 : Int32) (a3 : Bool) (M : gM) : Option (Int32 × gM) := (if a2 ≤ a1 then (some ((1 : Int32), M)) else (if a1 < (4 : Int32) then (f_X6_rowsFrom_18 rec FU a1 a2 a3 (0 : Int32) (0 : Int32) M) else (some ((1 : Int32), M))))
def f_X6_rowsFrom : Nat → Int32 → Int32 → Bool → gM → Option (Int32 × gM)
  | 0, _, _, _, _ => none
  | d + 1, a1, a2, a3, M => f_X6_rowsFrom_b (f_X6_rowsFrom d) a1 a2 a3 M
set_option maxRecDepth 100000 in
set_option maxHeartbeats 4000000 in
theorem ok_X6_rowsFrom : ∀ (d : Nat) (a1 a2 : Int32) (a3 : Bool) (M : gM), g_met Y1 yX6_rowsFrom (jX6_rowsFrom d) g_ei (fun Z => [.ref (Z.2.1 57), .int a1, .int a2, .int (b2i a3)]) M (f_X6_rowsFrom d a1 a2 a3 M) := by
  intro d
  induction d with
  | zero => intro a1 a2 a3 M l Z sz r M' ho; cases ho
  | succ d hrec =>
    intro a1 a2 a3 M
    refine g_enter (fun Z => [(0, .ref (Z.2.1 57)), (1, .int a1), (2, .int a2), (3, .int (b2i a3))]) (by decide) rfl (fun Z => Nat.le_of_ble_eq_true rfl) (fun Z => rfl) (fun X => ?_)
    rw [f_X6_rowsFrom, f_X6_rowsFrom_b]
    refine G_iload_n 1 dX6_rowsFrom_0 rfl rfl ?_
    refine G_iload_n 2 dX6_rowsFrom_1 rfl rfl ?_
    refine G_icmp_ge (tgt := 10) dX6_rowsFrom_2 (by decide) ?_ ?_
    · refine G_iconst (v := 1) dX6_rowsFrom_10 (by decide) ?_
      exact G_iret rfl dX6_rowsFrom_11
    · refine G_iload_n 1 dX6_rowsFrom_5 rfl rfl ?_
      refine G_iconst (v := 4) dX6_rowsFrom_6 (by decide) ?_
      refine G_icmp_lt (tgt := 12) dX6_rowsFrom_7 (by decide) ?_ ?_
      · refine G_iconst (v := 0) dX6_rowsFrom_12 (by decide) ?_
        refine G_istore (lv' := [(4, .int 0), (0, .ref (ad X 57)), (1, .int a1), (2, .int a2), (3, .int (b2i a3))]) dX6_rowsFrom_13 (Nat.le_of_ble_eq_true rfl) rfl ?_
        refine G_iconst (v := 0) dX6_rowsFrom_15 (by decide) ?_
        refine G_istore (lv' := [(5, .int 0), (4, .int 0), (0, .ref (ad X 57)), (1, .int a1), (2, .int a2), (3, .int (b2i a3))]) dX6_rowsFrom_16 (Nat.le_of_ble_eq_true rfl) rfl ?_
        exact G_sub [2, 3, 4, 5, 1, 0] rfl (o_X6_rowsFrom_18 hrec FU a1 a2 a3 (0 : Int32) (0 : Int32) M)
      · refine G_iconst (v := 1) dX6_rowsFrom_10 (by decide) ?_
        exact G_iret rfl dX6_rowsFrom_11
-- X6_blindRows
def f_X6_blindRows_31 (x2 : Int32) (x3 : Bool) (s1 : Int32) (s2 : Int32) (M : gM) : Option (Int32 × gM) := (g_ck s1 5 (g_m (sI M 64 (tn s1) s2) (fun M5 => (g_b (f_X6_rowsFrom 6 (0 : Int32) x2 x3 M5) (fun r7 M6 => (some (r7, M6)))))))
set_option maxRecDepth 100000 in
set_option maxHeartbeats 4000000 in
theorem o_X6_blindRows_31 {X : gX} (x2 : Int32) (x3 : Bool) (s1 : Int32) (s2 : Int32) (M : gM) : G Y1 jX6_blindRows X (g_fin g_ei) 31 [(0, .ref (ad X 57)), (2, .int x2), (3, .int (b2i x3))] [.int s2, .int s1, .ref (ad X 64)] M (f_X6_blindRows_31 x2 x3 s1 s2 M) := by
  rw [f_X6_blindRows_31]
  refine G_iast (y1_64) dX6_blindRows_31 ?_
  refine G_m (fun M5 => ?_)
  refine G_aload_n 0 dX6_blindRows_32 rfl rfl ?_
  refine G_iconst (v := 0) dX6_blindRows_33 (by decide) ?_
  refine G_iload_n 1 dX6_blindRows_34 rfl rfl ?_
  refine G_iload_n 2 dX6_blindRows_35 rfl rfl ?_
  refine G_cVi (As := [.int 0, .int x2, .int (b2i x3)]) (rest := []) (ok_X6_rowsFrom 6 (0 : Int32) x2 x3 M5) rfl (y1_57) rfl (mv_X6_83 6) dX6_blindRows_36 rfl rfl (Nat.le_of_ble_eq_true rfl) (g_fitN (by decide) (by decide)) (fun r7 M6 => ?_)
  exact G_iret rfl dX6_blindRows_39
def f_X6_blindRows (a1 : Int32) (a2 : Int32) (a3 : Bool) (M : gM) : Option (Int32 × gM) := (g_ck (0 : Int32) 10395 (g_m (sI M 63 (tn (0 : Int32)) a1) (fun M1 => (g_or 3 12 (M1.2.2 27 0) (fun t2 => (g_b (f_X4_isOver t2 a1 M1) (fun r4 M3 => (if r4 then (f_X6_blindRows_31 a2 a3 (0 : Int32) (0 : Int32) M3) else (f_X6_blindRows_31 a2 a3 (0 : Int32) (1 : Int32) M3)))))))))
set_option maxRecDepth 100000 in
set_option maxHeartbeats 4000000 in
theorem ok_X6_blindRows (a1 : Int32) (a2 : Int32) (a3 : Bool) (M : gM) : g_met Y1 yX6_blindRows jX6_blindRows g_ei (fun Z => [.ref (Z.2.1 57), .int a1, .int a2, .int (b2i a3)]) M (f_X6_blindRows a1 a2 a3 M) := by
  refine g_enter (fun Z => [(0, .ref (Z.2.1 57)), (1, .int a1), (2, .int a2), (3, .int (b2i a3))]) (by decide) rfl (fun Z => Nat.le_of_ble_eq_true rfl) (fun Z => rfl) (fun X => ?_)
  rw [f_X6_blindRows]
  refine G_aload_n 0 dX6_blindRows_0 rfl rfl ?_
  refine G_get 9 clX6 (y1_57) fl_X6_27 dX6_blindRows_1 (by decide) rfl rfl ?_
  refine G_iconst (v := 0) dX6_blindRows_4 (by decide) ?_
  refine G_iload_n 1 dX6_blindRows_5 rfl rfl ?_
  refine G_iast (y1_63) dX6_blindRows_6 ?_
  refine G_m (fun M1 => ?_)
  refine G_aload_n 0 dX6_blindRows_7 rfl rfl ?_
  refine G_get 10 clX6 (y1_57) fl_X6_30 dX6_blindRows_8 (by decide) rfl rfl ?_
  refine G_iconst (v := 0) dX6_blindRows_11 (by decide) ?_
  refine G_aload_n 0 dX6_blindRows_12 rfl rfl ?_
  refine G_get 0 clX6 (y1_57) fl_X6_36 dX6_blindRows_13 (by decide) rfl rfl ?_
  refine G_getO 0 clX0 (y1_27) fl_X6_47 dX6_blindRows_16 (by decide) rfl (by decide) (fun t2 ht2 => ?_)
  refine G_iload_n 1 dX6_blindRows_19 rfl rfl ?_
  refine G_cVb (As := [.int a1]) (rest := [.int 0, .ref (ad X 64)]) (ok_X4_isOver ht2 a1 M1) rfl (ro_0 ht2) rfl mv_X6_53 dX6_blindRows_20 rfl rfl (Nat.le_of_ble_eq_true rfl) (g_fitN (by decide) (by decide)) (fun r4 M3 => ?_)
  refine G_ifB_eq (tgt := 30) dX6_blindRows_23 (by decide) ?_ ?_
  · refine G_iconst (v := 1) dX6_blindRows_30 (by decide) ?_
    exact G_sub [0, 2, 3] rfl (o_X6_blindRows_31 a2 a3 (0 : Int32) (1 : Int32) M3)
  · refine G_iconst (v := 0) dX6_blindRows_26 (by decide) ?_
    refine G_goto (tgt := 31) dX6_blindRows_27 (by decide) ?_
    exact G_sub [0, 2, 3] rfl (o_X6_blindRows_31 a2 a3 (0 : Int32) (0 : Int32) M3)
-- X8_leave
def f_X8_leave (M : gM) : Option (Unit × gM) := (g_m (sI M 66 0 ((-1) : Int32)) (fun M1 => (some ((), M1))))
set_option maxRecDepth 100000 in
set_option maxHeartbeats 4000000 in
theorem ok_X8_leave (M : gM) : g_met Y1 yX8_leave jX8_leave g_ev (fun Z => [.ref (Z.2.1 66)]) M (f_X8_leave M) := by
  refine g_enter (fun Z => [(0, .ref (Z.2.1 66))]) (by decide) rfl (fun Z => Nat.le_of_ble_eq_true rfl) (fun Z => rfl) (fun X => ?_)
  rw [f_X8_leave]
  refine G_aload_n 0 dX8_leave_0 rfl rfl ?_
  refine G_iconst (v := (-1)) dX8_leave_1 (by decide) ?_
  refine G_putI 0 clX8 (y1_66) fl_X8_21 dX8_leave_2 (by decide) rfl rfl rfl ?_
  refine G_m (fun M1 => ?_)
  exact G_vret rfl dX8_leave_5
-- X8_begin
def f_X8_begin (a1 : Int32) (M : gM) : Option (Unit × gM) := (g_m (sI M 66 0 (0 : Int32)) (fun M1 => (g_ck (0 : Int32) 201 (g_m (sI M1 67 (tn (0 : Int32)) a1) (fun M2 => (some ((), M2)))))))
set_option maxRecDepth 100000 in
set_option maxHeartbeats 4000000 in
theorem ok_X8_begin (a1 : Int32) (M : gM) : g_met Y1 yX8_begin jX8_begin g_ev (fun Z => [.ref (Z.2.1 66), .int a1]) M (f_X8_begin a1 M) := by
  refine g_enter (fun Z => [(0, .ref (Z.2.1 66)), (1, .int a1)]) (by decide) rfl (fun Z => Nat.le_of_ble_eq_true rfl) (fun Z => rfl) (fun X => ?_)
  rw [f_X8_begin]
  refine G_aload_n 0 dX8_begin_0 rfl rfl ?_
  refine G_iconst (v := 0) dX8_begin_1 (by decide) ?_
  refine G_putI 0 clX8 (y1_66) fl_X8_21 dX8_begin_2 (by decide) rfl rfl rfl ?_
  refine G_m (fun M1 => ?_)
  refine G_aload_n 0 dX8_begin_5 rfl rfl ?_
  refine G_get 1 clX8 (y1_66) fl_X8_11 dX8_begin_6 (by decide) rfl rfl ?_
  refine G_iconst (v := 0) dX8_begin_9 (by decide) ?_
  refine G_iload_n 1 dX8_begin_10 rfl rfl ?_
  refine G_iast (y1_67) dX8_begin_11 ?_
  refine G_m (fun M2 => ?_)
  exact G_vret rfl dX8_begin_12
-- X8_standsIn
def f_X8_standsIn (M : gM) : Option (Int32 × gM) := (if (M.1 66 0) < 0 then (some (((-1) : Int32), M)) else (if (200 : Int32) < (M.1 66 0) then (some (((-1) : Int32), M)) else (g_ck (M.1 66 0) 201 (some ((M.1 67 (tn (M.1 66 0))), M)))))
set_option maxRecDepth 100000 in
set_option maxHeartbeats 4000000 in
theorem ok_X8_standsIn (M : gM) : g_met Y1 yX8_standsIn jX8_standsIn g_ei (fun Z => [.ref (Z.2.1 66)]) M (f_X8_standsIn M) := by
  refine g_enter (fun Z => [(0, .ref (Z.2.1 66))]) (by decide) rfl (fun Z => Nat.le_of_ble_eq_true rfl) (fun Z => rfl) (fun X => ?_)
  rw [f_X8_standsIn]
  refine G_aload_n 0 dX8_standsIn_0 rfl rfl ?_
  refine G_get 0 clX8 (y1_66) fl_X8_21 dX8_standsIn_1 (by decide) rfl rfl ?_
  refine G_if_lt (tgt := 29) dX8_standsIn_4 (by decide) ?_ ?_
  · refine G_iconst (v := (-1)) dX8_standsIn_29 (by decide) ?_
    exact G_iret rfl dX8_standsIn_30
  · refine G_aload_n 0 dX8_standsIn_7 rfl rfl ?_
    refine G_get 0 clX8 (y1_66) fl_X8_21 dX8_standsIn_8 (by decide) rfl rfl ?_
    refine G_sipush (v := 200) dX8_standsIn_11 (by decide) ?_
    refine G_icmp_gt (tgt := 29) dX8_standsIn_14 (by decide) ?_ ?_
    · refine G_iconst (v := (-1)) dX8_standsIn_29 (by decide) ?_
      exact G_iret rfl dX8_standsIn_30
    · refine G_aload_n 0 dX8_standsIn_17 rfl rfl ?_
      refine G_get 1 clX8 (y1_66) fl_X8_11 dX8_standsIn_18 (by decide) rfl rfl ?_
      refine G_aload_n 0 dX8_standsIn_21 rfl rfl ?_
      refine G_get 0 clX8 (y1_66) fl_X8_21 dX8_standsIn_22 (by decide) rfl rfl ?_
      refine G_iald (y1_67) dX8_standsIn_25 ?_
      refine G_goto (tgt := 30) dX8_standsIn_26 (by decide) ?_
      exact G_iret rfl dX8_standsIn_30
-- X8_go
def f_X8_go (a1 : Int32) (a2 : Int32) (a3 : Int32) (M : gM) : Option (Unit × gM) := (if (M.1 66 0) < 0 then (some ((), M)) else (if (200 : Int32) ≤ (M.1 66 0) then (some ((), M)) else (g_ck (M.1 66 0) 200 (g_m (sI M 68 (tn (M.1 66 0)) a1) (fun M1 => (g_ck (M1.1 66 0) 200 (g_m (sI M1 69 (tn (M1.1 66 0)) a2) (fun M2 => (g_m (sI M2 66 0 ((M2.1 66 0) + (1 : Int32))) (fun M3 => (g_ck (M3.1 66 0) 201 (g_m (sI M3 67 (tn (M3.1 66 0)) a3) (fun M4 => (some ((), M4)))))))))))))))
set_option maxRecDepth 100000 in
set_option maxHeartbeats 4000000 in
theorem ok_X8_go (a1 : Int32) (a2 : Int32) (a3 : Int32) (M : gM) : g_met Y1 yX8_go jX8_go g_ev (fun Z => [.ref (Z.2.1 66), .int a1, .int a2, .int a3]) M (f_X8_go a1 a2 a3 M) := by
  refine g_enter (fun Z => [(0, .ref (Z.2.1 66)), (1, .int a1), (2, .int a2), (3, .int a3)]) (by decide) rfl (fun Z => Nat.le_of_ble_eq_true rfl) (fun Z => rfl) (fun X => ?_)
  rw [f_X8_go]
  refine G_aload_n 0 dX8_go_0 rfl rfl ?_
  refine G_get 0 clX8 (y1_66) fl_X8_21 dX8_go_1 (by decide) rfl rfl ?_
  refine G_if_lt (tgt := 57) dX8_go_4 (by decide) ?_ ?_
  · exact G_vret rfl dX8_go_57
  · refine G_aload_n 0 dX8_go_7 rfl rfl ?_
    refine G_get 0 clX8 (y1_66) fl_X8_21 dX8_go_8 (by decide) rfl rfl ?_
    refine G_sipush (v := 200) dX8_go_11 (by decide) ?_
    refine G_icmp_ge (tgt := 57) dX8_go_14 (by decide) ?_ ?_
    · exact G_vret rfl dX8_go_57
    · refine G_aload_n 0 dX8_go_17 rfl rfl ?_
      refine G_get 2 clX8 (y1_66) fl_X8_15 dX8_go_18 (by decide) rfl rfl ?_
      refine G_aload_n 0 dX8_go_21 rfl rfl ?_
      refine G_get 0 clX8 (y1_66) fl_X8_21 dX8_go_22 (by decide) rfl rfl ?_
      refine G_iload_n 1 dX8_go_25 rfl rfl ?_
      refine G_iast (y1_68) dX8_go_26 ?_
      refine G_m (fun M1 => ?_)
      refine G_aload_n 0 dX8_go_27 rfl rfl ?_
      refine G_get 3 clX8 (y1_66) fl_X8_18 dX8_go_28 (by decide) rfl rfl ?_
      refine G_aload_n 0 dX8_go_31 rfl rfl ?_
      refine G_get 0 clX8 (y1_66) fl_X8_21 dX8_go_32 (by decide) rfl rfl ?_
      refine G_iload_n 2 dX8_go_35 rfl rfl ?_
      refine G_iast (y1_69) dX8_go_36 ?_
      refine G_m (fun M2 => ?_)
      refine G_aload_n 0 dX8_go_37 rfl rfl ?_
      refine G_dup dX8_go_38 rfl ?_
      refine G_get 0 clX8 (y1_66) fl_X8_21 dX8_go_39 (by decide) rfl rfl ?_
      refine G_iconst (v := 1) dX8_go_42 (by decide) ?_
      refine G_iadd dX8_go_43 ?_
      refine G_putI 0 clX8 (y1_66) fl_X8_21 dX8_go_44 (by decide) rfl rfl rfl ?_
      refine G_m (fun M3 => ?_)
      refine G_aload_n 0 dX8_go_47 rfl rfl ?_
      refine G_get 1 clX8 (y1_66) fl_X8_11 dX8_go_48 (by decide) rfl rfl ?_
      refine G_aload_n 0 dX8_go_51 rfl rfl ?_
      refine G_get 0 clX8 (y1_66) fl_X8_21 dX8_go_52 (by decide) rfl rfl ?_
      refine G_iload_n 3 dX8_go_55 rfl rfl ?_
      refine G_iast (y1_67) dX8_go_56 ?_
      refine G_m (fun M4 => ?_)
      exact G_vret rfl dX8_go_57
-- X8_goBack
def f_X8_goBack (M : gM) : Option (Bool × gM) := (if 0 < (M.1 66 0) then (g_m (sI M 66 0 ((M.1 66 0) - (1 : Int32))) (fun M1 => (some (true, M1)))) else (some (false, M)))
set_option maxRecDepth 100000 in
set_option maxHeartbeats 4000000 in
theorem ok_X8_goBack (M : gM) : g_met Y1 yX8_goBack jX8_goBack g_eb (fun Z => [.ref (Z.2.1 66)]) M (f_X8_goBack M) := by
  refine g_enter (fun Z => [(0, .ref (Z.2.1 66))]) (by decide) rfl (fun Z => Nat.le_of_ble_eq_true rfl) (fun Z => rfl) (fun X => ?_)
  rw [f_X8_goBack]
  refine G_aload_n 0 dX8_goBack_0 rfl rfl ?_
  refine G_get 0 clX8 (y1_66) fl_X8_21 dX8_goBack_1 (by decide) rfl rfl ?_
  refine G_if_gt (tgt := 9) dX8_goBack_4 (by decide) ?_ ?_
  · refine G_aload_n 0 dX8_goBack_9 rfl rfl ?_
    refine G_dup dX8_goBack_10 rfl ?_
    refine G_get 0 clX8 (y1_66) fl_X8_21 dX8_goBack_11 (by decide) rfl rfl ?_
    refine G_iconst (v := 1) dX8_goBack_14 (by decide) ?_
    refine G_isub dX8_goBack_15 ?_
    refine G_putI 0 clX8 (y1_66) fl_X8_21 dX8_goBack_16 (by decide) rfl rfl rfl ?_
    refine G_m (fun M1 => ?_)
    refine G_iconst (v := 1) dX8_goBack_19 (by decide) ?_
    exact G_zret (b := true) rfl dX8_goBack_20
  · refine G_iconst (v := 0) dX8_goBack_7 (by decide) ?_
    exact G_zret (b := false) rfl dX8_goBack_8
-- X8_told
def f_X8_told (a1 : Int32) (a2 : Int32) (M : gM) : Option (Int32 × gM) := (if a1 < 0 then (some (((-100) : Int32), M)) else (if (M.1 66 0) ≤ a1 then (some (((-100) : Int32), M)) else (if a1 < (200 : Int32) then (if a2 = 0 then (g_ck a1 201 (some ((M.1 67 (tn a1)), M))) else (if a2 = 1 then (g_ck a1 200 (some ((M.1 68 (tn a1)), M))) else (if a2 = 2 then (g_ck a1 200 (some ((M.1 69 (tn a1)), M))) else (if a2 = 3 then (g_ck (a1 + (1 : Int32)) 201 (some ((M.1 67 (tn (a1 + (1 : Int32)))), M))) else (some (((-100) : Int32), M)))))) else (some (((-100) : Int32), M)))))
set_option maxRecDepth 100000 in
set_option maxHeartbeats 4000000 in
theorem ok_X8_told (a1 : Int32) (a2 : Int32) (M : gM) : g_met Y1 yX8_told jX8_told g_ei (fun Z => [.ref (Z.2.1 66), .int a1, .int a2]) M (f_X8_told a1 a2 M) := by
  refine g_enter (fun Z => [(0, .ref (Z.2.1 66)), (1, .int a1), (2, .int a2)]) (by decide) rfl (fun Z => Nat.le_of_ble_eq_true rfl) (fun Z => rfl) (fun X => ?_)
  rw [f_X8_told]
  refine G_iload_n 1 dX8_told_0 rfl rfl ?_
  refine G_if_lt (tgt := 19) dX8_told_1 (by decide) ?_ ?_
  · refine G_bipush (v := (-100)) dX8_told_19 (by decide) ?_
    exact G_iret rfl dX8_told_21
  · refine G_iload_n 1 dX8_told_4 rfl rfl ?_
    refine G_aload_n 0 dX8_told_5 rfl rfl ?_
    refine G_get 0 clX8 (y1_66) fl_X8_21 dX8_told_6 (by decide) rfl rfl ?_
    refine G_icmp_ge (tgt := 19) dX8_told_9 (by decide) ?_ ?_
    · refine G_bipush (v := (-100)) dX8_told_19 (by decide) ?_
      exact G_iret rfl dX8_told_21
    · refine G_iload_n 1 dX8_told_12 rfl rfl ?_
      refine G_sipush (v := 200) dX8_told_13 (by decide) ?_
      refine G_icmp_lt (tgt := 22) dX8_told_16 (by decide) ?_ ?_
      · refine G_iload_n 2 dX8_told_22 rfl rfl ?_
        refine G_ite (fun h1 => ?_) (fun h1 => ?_)
        · refine G_tabIn (tgt := 52) (off := 29) dX8_told_23 (by rw [h1]; decide) (by rw [h1]; decide) (by rw [h1]; decide) (by decide) ?_
          refine G_aload_n 0 dX8_told_52 rfl rfl ?_
          refine G_get 1 clX8 (y1_66) fl_X8_11 dX8_told_53 (by decide) rfl rfl ?_
          refine G_iload_n 1 dX8_told_56 rfl rfl ?_
          refine G_iald (y1_67) dX8_told_57 ?_
          exact G_iret rfl dX8_told_58
        refine G_ite (fun h2 => ?_) (fun h2 => ?_)
        · refine G_tabIn (tgt := 59) (off := 36) dX8_told_23 (by rw [h2]; decide) (by rw [h2]; decide) (by rw [h2]; decide) (by decide) ?_
          refine G_aload_n 0 dX8_told_59 rfl rfl ?_
          refine G_get 2 clX8 (y1_66) fl_X8_15 dX8_told_60 (by decide) rfl rfl ?_
          refine G_iload_n 1 dX8_told_63 rfl rfl ?_
          refine G_iald (y1_68) dX8_told_64 ?_
          exact G_iret rfl dX8_told_65
        refine G_ite (fun h3 => ?_) (fun h3 => ?_)
        · refine G_tabIn (tgt := 66) (off := 43) dX8_told_23 (by rw [h3]; decide) (by rw [h3]; decide) (by rw [h3]; decide) (by decide) ?_
          refine G_aload_n 0 dX8_told_66 rfl rfl ?_
          refine G_get 3 clX8 (y1_66) fl_X8_18 dX8_told_67 (by decide) rfl rfl ?_
          refine G_iload_n 1 dX8_told_70 rfl rfl ?_
          refine G_iald (y1_69) dX8_told_71 ?_
          exact G_iret rfl dX8_told_72
        refine G_ite (fun h4 => ?_) (fun h4 => ?_)
        · refine G_tabIn (tgt := 73) (off := 50) dX8_told_23 (by rw [h4]; decide) (by rw [h4]; decide) (by rw [h4]; decide) (by decide) ?_
          refine G_aload_n 0 dX8_told_73 rfl rfl ?_
          refine G_get 1 clX8 (y1_66) fl_X8_11 dX8_told_74 (by decide) rfl rfl ?_
          refine G_iload_n 1 dX8_told_77 rfl rfl ?_
          refine G_iconst (v := 1) dX8_told_78 (by decide) ?_
          refine G_iadd dX8_told_79 ?_
          refine G_iald (y1_67) dX8_told_80 ?_
          exact G_iret rfl dX8_told_81
        refine G_tabOut (tgt := 82) dX8_told_23 (by have := g_nk (k := 0) h1 (by decide); have := g_nk (k := 1) h2 (by decide); have := g_nk (k := 2) h3 (by decide); have := g_nk (k := 3) h4 (by decide); omega) (by decide) ?_
        refine G_bipush (v := (-100)) dX8_told_82 (by decide) ?_
        exact G_iret rfl dX8_told_84
      · refine G_bipush (v := (-100)) dX8_told_19 (by decide) ?_
        exact G_iret rfl dX8_told_21
-- X9_tapeWord
def f_X9_tapeWord_3 : Nat → Int32 → Int32 → gM → Option (Unit × gM)
  | 0, _, _, _ => none
  | n + 1, x1, x2, M => (if x2 < 0 then (some ((), M)) else (if (2000 : Int32) ≤ (M.1 0 1) then (some ((), M)) else (g_ck (M.1 0 1) 2000 (g_m (sI M 1 (tn (M.1 0 1)) (((x1.toUInt32 >>> (x2.toUInt32 &&& Int32.toUInt32 31)).toInt32) &&& (255 : Int32))) (fun M1 => (g_m (sI M1 0 1 ((M1.1 0 1) + (1 : Int32))) (fun M2 => (f_X9_tapeWord_3 n x1 (x2 + (-8)) M2))))))))
set_option maxRecDepth 100000 in
set_option maxHeartbeats 4000000 in
theorem o_X9_tapeWord_3 {X : gX} : ∀ (n : Nat) (x1 : Int32) (x2 : Int32) (M : gM), G Y1 jX9_tapeWord X (g_fin g_ev) 3 [(0, .ref (ad X 0)), (1, .int x1), (2, .int x2)] [] M (f_X9_tapeWord_3 n x1 x2 M) := by
  intro n
  induction n with
  | zero => intro x1 x2 M; exact G_none
  | succ n ih =>
    intro x1 x2 M
    rw [f_X9_tapeWord_3]
    refine G_iload_n 2 dX9_tapeWord_3 rfl rfl ?_
    refine G_if_lt (tgt := 49) dX9_tapeWord_4 (by decide) ?_ ?_
    · exact G_vret rfl dX9_tapeWord_49
    · refine G_aload_n 0 dX9_tapeWord_7 rfl rfl ?_
      refine G_get 1 clX9 (y1_0) fl_X9_79 dX9_tapeWord_8 (by decide) rfl rfl ?_
      refine G_sipush (v := 2000) dX9_tapeWord_11 (by decide) ?_
      refine G_icmp_ge (tgt := 49) dX9_tapeWord_14 (by decide) ?_ ?_
      · exact G_vret rfl dX9_tapeWord_49
      · refine G_aload_n 0 dX9_tapeWord_17 rfl rfl ?_
        refine G_get 0 clX9 (y1_0) fl_X9_9 dX9_tapeWord_18 (by decide) rfl rfl ?_
        refine G_aload_n 0 dX9_tapeWord_21 rfl rfl ?_
        refine G_get 1 clX9 (y1_0) fl_X9_79 dX9_tapeWord_22 (by decide) rfl rfl ?_
        refine G_iload_n 1 dX9_tapeWord_25 rfl rfl ?_
        refine G_iload_n 2 dX9_tapeWord_26 rfl rfl ?_
        refine G_iushr dX9_tapeWord_27 ?_
        refine G_sipush (v := 255) dX9_tapeWord_28 (by decide) ?_
        refine G_iand dX9_tapeWord_31 ?_
        refine G_iast (y1_1) dX9_tapeWord_32 ?_
        refine G_m (fun M1 => ?_)
        refine G_aload_n 0 dX9_tapeWord_33 rfl rfl ?_
        refine G_dup dX9_tapeWord_34 rfl ?_
        refine G_get 1 clX9 (y1_0) fl_X9_79 dX9_tapeWord_35 (by decide) rfl rfl ?_
        refine G_iconst (v := 1) dX9_tapeWord_38 (by decide) ?_
        refine G_iadd dX9_tapeWord_39 ?_
        refine G_putI 1 clX9 (y1_0) fl_X9_79 dX9_tapeWord_40 (by decide) rfl rfl rfl ?_
        refine G_m (fun M2 => ?_)
        refine G_iinc (v := x2 + (-8)) (lv' := [(2, .int (x2 + (-8))), (0, .ref (ad X 0)), (1, .int x1)]) 2 dX9_tapeWord_43 rfl rfl (by decide) rfl ?_
        refine G_goto (tgt := 3) dX9_tapeWord_46 (by decide) ?_
        exact G_sub [1, 2, 0] rfl (ih x1 (x2 + (-8)) M2)
def f_X9_tapeWord (a1 : Int32) (M : gM) : Option (Unit × gM) := (f_X9_tapeWord_3 FU a1 (24 : Int32) M)
set_option maxRecDepth 100000 in
set_option maxHeartbeats 4000000 in
theorem ok_X9_tapeWord (a1 : Int32) (M : gM) : g_met Y1 yX9_tapeWord jX9_tapeWord g_ev (fun Z => [.ref (Z.2.1 0), .int a1]) M (f_X9_tapeWord a1 M) := by
  refine g_enter (fun Z => [(0, .ref (Z.2.1 0)), (1, .int a1)]) (by decide) rfl (fun Z => Nat.le_of_ble_eq_true rfl) (fun Z => rfl) (fun X => ?_)
  rw [f_X9_tapeWord]
  refine G_bipush (v := 24) dX9_tapeWord_0 (by decide) ?_
  refine G_istore_n (lv' := [(2, .int 24), (0, .ref (ad X 0)), (1, .int a1)]) dX9_tapeWord_2 rfl (by decide) rfl ?_
  exact G_sub [1, 2, 0] rfl (o_X9_tapeWord_3 FU a1 (24 : Int32) M)
