-- X9_feed
def f_X9_feed (a1 : Int32) (a2 : Int32) (a3 : Int32) (a4 : Int32) (a5 : Int32) (M : gM) : Option (Int32 × gM) := (if ((M.1 0 1) + (20 : Int32)) ≤ (2000 : Int32) then (g_b (f_X9_tapeWord a1 M) (fun r2 M1 => (g_b (f_X9_tapeWord a2 M1) (fun r4 M3 => (g_b (f_X9_tapeWord a3 M3) (fun r6 M5 => (g_b (f_X9_tapeWord a4 M5) (fun r8 M7 => (g_b (f_X9_tapeWord a5 M7) (fun r10 M9 => (some ((M9.1 0 1), M9)))))))))))) else (some (((-1) : Int32), M)))
set_option maxRecDepth 100000 in
set_option maxHeartbeats 4000000 in
theorem ok_X9_feed (a1 : Int32) (a2 : Int32) (a3 : Int32) (a4 : Int32) (a5 : Int32) (M : gM) : g_met Y1 yX9_feed jX9_feed g_ei (fun Z => [.ref (Z.2.1 0), .int a1, .int a2, .int a3, .int a4, .int a5]) M (f_X9_feed a1 a2 a3 a4 a5 M) := by
  refine g_enter (fun Z => [(0, .ref (Z.2.1 0)), (1, .int a1), (2, .int a2), (3, .int a3), (4, .int a4), (5, .int a5)]) (by decide) rfl (fun Z => Nat.le_of_ble_eq_true rfl) (fun Z => rfl) (fun X => ?_)
  rw [f_X9_feed]
  refine G_aload_n 0 dX9_feed_0 rfl rfl ?_
  refine G_get 1 clX9 (y1_0) fl_X9_79 dX9_feed_1 (by decide) rfl rfl ?_
  refine G_bipush (v := 20) dX9_feed_4 (by decide) ?_
  refine G_iadd dX9_feed_6 ?_
  refine G_sipush (v := 2000) dX9_feed_7 (by decide) ?_
  refine G_icmp_le (tgt := 15) dX9_feed_10 (by decide) ?_ ?_
  · refine G_aload_n 0 dX9_feed_15 rfl rfl ?_
    refine G_iload_n 1 dX9_feed_16 rfl rfl ?_
    refine G_cVv (As := [.int a1]) (rest := []) (ok_X9_tapeWord a1 M) rfl (y1_0) rfl mv_X9_82 dX9_feed_17 rfl rfl (Nat.le_of_ble_eq_true rfl) (g_fitN (by decide) (by decide)) (fun r2 M1 => ?_)
    refine G_aload_n 0 dX9_feed_20 rfl rfl ?_
    refine G_iload_n 2 dX9_feed_21 rfl rfl ?_
    refine G_cVv (As := [.int a2]) (rest := []) (ok_X9_tapeWord a2 M1) rfl (y1_0) rfl mv_X9_82 dX9_feed_22 rfl rfl (Nat.le_of_ble_eq_true rfl) (g_fitN (by decide) (by decide)) (fun r4 M3 => ?_)
    refine G_aload_n 0 dX9_feed_25 rfl rfl ?_
    refine G_iload_n 3 dX9_feed_26 rfl rfl ?_
    refine G_cVv (As := [.int a3]) (rest := []) (ok_X9_tapeWord a3 M3) rfl (y1_0) rfl mv_X9_82 dX9_feed_27 rfl rfl (Nat.le_of_ble_eq_true rfl) (g_fitN (by decide) (by decide)) (fun r6 M5 => ?_)
    refine G_aload_n 0 dX9_feed_30 rfl rfl ?_
    refine G_iload 4 dX9_feed_31 rfl ?_
    refine G_cVv (As := [.int a4]) (rest := []) (ok_X9_tapeWord a4 M5) rfl (y1_0) rfl mv_X9_82 dX9_feed_33 rfl rfl (Nat.le_of_ble_eq_true rfl) (g_fitN (by decide) (by decide)) (fun r8 M7 => ?_)
    refine G_aload_n 0 dX9_feed_36 rfl rfl ?_
    refine G_iload 5 dX9_feed_37 rfl ?_
    refine G_cVv (As := [.int a5]) (rest := []) (ok_X9_tapeWord a5 M7) rfl (y1_0) rfl mv_X9_82 dX9_feed_39 rfl rfl (Nat.le_of_ble_eq_true rfl) (g_fitN (by decide) (by decide)) (fun r10 M9 => ?_)
    refine G_aload_n 0 dX9_feed_42 rfl rfl ?_
    refine G_get 1 clX9 (y1_0) fl_X9_79 dX9_feed_43 (by decide) rfl rfl ?_
    exact G_iret rfl dX9_feed_46
  · refine G_iconst (v := (-1)) dX9_feed_13 (by decide) ?_
    exact G_iret rfl dX9_feed_14
-- X9_back
def f_X9_back (a1 : Int32) (M : gM) : Option (Int32 × gM) := (if a1 < 0 then (some (((-1) : Int32), M)) else (if a1 ≤ (M.1 0 1) then (g_m (sI M 0 1 ((M.1 0 1) - a1)) (fun M1 => (some ((M1.1 0 1), M1)))) else (some (((-1) : Int32), M))))
set_option maxRecDepth 100000 in
set_option maxHeartbeats 4000000 in
theorem ok_X9_back (a1 : Int32) (M : gM) : g_met Y1 yX9_back jX9_back g_ei (fun Z => [.ref (Z.2.1 0), .int a1]) M (f_X9_back a1 M) := by
  refine g_enter (fun Z => [(0, .ref (Z.2.1 0)), (1, .int a1)]) (by decide) rfl (fun Z => Nat.le_of_ble_eq_true rfl) (fun Z => rfl) (fun X => ?_)
  rw [f_X9_back]
  refine G_iload_n 1 dX9_back_0 rfl rfl ?_
  refine G_if_lt (tgt := 12) dX9_back_1 (by decide) ?_ ?_
  · refine G_iconst (v := (-1)) dX9_back_12 (by decide) ?_
    exact G_iret rfl dX9_back_13
  · refine G_iload_n 1 dX9_back_4 rfl rfl ?_
    refine G_aload_n 0 dX9_back_5 rfl rfl ?_
    refine G_get 1 clX9 (y1_0) fl_X9_79 dX9_back_6 (by decide) rfl rfl ?_
    refine G_icmp_le (tgt := 14) dX9_back_9 (by decide) ?_ ?_
    · refine G_aload_n 0 dX9_back_14 rfl rfl ?_
      refine G_dup dX9_back_15 rfl ?_
      refine G_get 1 clX9 (y1_0) fl_X9_79 dX9_back_16 (by decide) rfl rfl ?_
      refine G_iload_n 1 dX9_back_19 rfl rfl ?_
      refine G_isub dX9_back_20 ?_
      refine G_putI 1 clX9 (y1_0) fl_X9_79 dX9_back_21 (by decide) rfl rfl rfl ?_
      refine G_m (fun M1 => ?_)
      refine G_aload_n 0 dX9_back_24 rfl rfl ?_
      refine G_get 1 clX9 (y1_0) fl_X9_79 dX9_back_25 (by decide) rfl rfl ?_
      exact G_iret rfl dX9_back_28
    · refine G_iconst (v := (-1)) dX9_back_12 (by decide) ?_
      exact G_iret rfl dX9_back_13
-- X9_settle
def f_X9_settle (a1 : Int32) (M : gM) : Option (Unit × gM) := (g_m (sI M 0 3 a1) (fun M1 => (g_or 3 12 (M1.2.2 0 4) (fun t2 => (g_b (f_X0_settle t2 a1 M1) (fun r4 M3 => (g_b (f_X5_dropPole M3) (fun r6 M5 => (g_b (f_X3_dropLearned M5) (fun r8 M7 => (g_b (f_X6_dropPlan M7) (fun r10 M9 => (g_b (f_X8_leave M9) (fun r12 M11 => (some ((), M11))))))))))))))))
set_option maxRecDepth 100000 in
set_option maxHeartbeats 4000000 in
theorem ok_X9_settle (a1 : Int32) (M : gM) : g_met Y1 yX9_settle jX9_settle g_ev (fun Z => [.ref (Z.2.1 0), .int a1]) M (f_X9_settle a1 M) := by
  refine g_enter (fun Z => [(0, .ref (Z.2.1 0)), (1, .int a1)]) (by decide) rfl (fun Z => Nat.le_of_ble_eq_true rfl) (fun Z => rfl) (fun X => ?_)
  rw [f_X9_settle]
  refine G_aload_n 0 dX9_settle_0 rfl rfl ?_
  refine G_iload_n 1 dX9_settle_1 rfl rfl ?_
  refine G_putI 3 clX9 (y1_0) fl_X9_28 dX9_settle_2 (by decide) rfl rfl rfl ?_
  refine G_m (fun M1 => ?_)
  refine G_aload_n 0 dX9_settle_5 rfl rfl ?_
  refine G_get 7 clX9 (y1_0) fl_X9_45 dX9_settle_6 (by decide) rfl rfl ?_
  refine G_aload_n 0 dX9_settle_9 rfl rfl ?_
  refine G_getO 4 clX9 (y1_0) fl_X9_31 dX9_settle_10 (by decide) rfl (by decide) (fun t2 ht2 => ?_)
  refine G_iload_n 1 dX9_settle_13 rfl rfl ?_
  refine G_cVv (As := [.ref (ad X t2), .int a1]) (rest := []) (ok_X0_settle ht2 a1 M1) rfl (y1_27) rfl mv_X9_102 dX9_settle_14 rfl rfl (Nat.le_of_ble_eq_true rfl) (g_fitN (by decide) (by decide)) (fun r4 M3 => ?_)
  refine G_aload_n 0 dX9_settle_17 rfl rfl ?_
  refine G_get 8 clX9 (y1_0) fl_X9_54 dX9_settle_18 (by decide) rfl rfl ?_
  refine G_cVv (As := []) (rest := []) (ok_X5_dropPole M3) rfl (y1_37) rfl mv_X9_105 dX9_settle_21 rfl rfl (Nat.le_of_ble_eq_true rfl) (g_fitN (by decide) (by decide)) (fun r6 M5 => ?_)
  refine G_aload_n 0 dX9_settle_24 rfl rfl ?_
  refine G_get 9 clX9 (y1_0) fl_X9_61 dX9_settle_25 (by decide) rfl rfl ?_
  refine G_cVi (As := []) (rest := []) (ok_X3_dropLearned M5) rfl (y1_47) rfl mv_X9_108 dX9_settle_28 rfl rfl (Nat.le_of_ble_eq_true rfl) (g_fitN (by decide) (by decide)) (fun r8 M7 => ?_)
  refine G_pop dX9_settle_31 rfl ?_
  refine G_aload_n 0 dX9_settle_32 rfl rfl ?_
  refine G_get 10 clX9 (y1_0) fl_X9_68 dX9_settle_33 (by decide) rfl rfl ?_
  refine G_cVv (As := []) (rest := []) (ok_X6_dropPlan M7) rfl (y1_57) rfl mv_X9_112 dX9_settle_36 rfl rfl (Nat.le_of_ble_eq_true rfl) (g_fitN (by decide) (by decide)) (fun r10 M9 => ?_)
  refine G_aload_n 0 dX9_settle_39 rfl rfl ?_
  refine G_get 11 clX9 (y1_0) fl_X9_75 dX9_settle_40 (by decide) rfl rfl ?_
  refine G_cVv (As := []) (rest := []) (ok_X8_leave M9) rfl (y1_66) rfl mv_X9_115 dX9_settle_43 rfl rfl (Nat.le_of_ble_eq_true rfl) (g_fitN (by decide) (by decide)) (fun r12 M11 => ?_)
  exact G_vret rfl dX9_settle_46
-- X9_read
def f_X9_read (M : gM) : Option (Int32 × gM) := (g_or 3 12 (M.2.2 0 5) (fun t1 => (g_b (f_X1_parse (M.1 0 1) t1 M) (fun r3 M2 => (g_m (sI M2 0 1 (0 : Int32)) (fun M4 => (g_m (sI M4 0 2 (M4.1 21 0)) (fun M5 => (if r3 = 0 then (g_or 3 12 (M5.2.2 0 4) (fun t6 => (g_or 3 12 (M5.2.2 0 5) (fun t7 => (g_m (sR M5 0 4 t7) (fun M8 => (g_m (sR M8 0 5 t6) (fun M9 => (g_b (f_X6_dropForecasts M9) (fun r11 M10 => (g_b (f_X5_dropText M10) (fun r13 M12 => (g_b (f_X9_settle (1 : Int32) M12) (fun r15 M14 => (some ((0 : Int32), M14)))))))))))))))) else (some (r3, M5)))))))))))
set_option maxRecDepth 100000 in
set_option maxHeartbeats 4000000 in
theorem ok_X9_read (M : gM) : g_met Y1 yX9_read jX9_read g_ei (fun Z => [.ref (Z.2.1 0)]) M (f_X9_read M) := by
  refine g_enter (fun Z => [(0, .ref (Z.2.1 0))]) (by decide) rfl (fun Z => Nat.le_of_ble_eq_true rfl) (fun Z => rfl) (fun X => ?_)
  rw [f_X9_read]
  refine G_aload_n 0 dX9_read_0 rfl rfl ?_
  refine G_get 6 clX9 (y1_0) fl_X9_41 dX9_read_1 (by decide) rfl rfl ?_
  refine G_aload_n 0 dX9_read_4 rfl rfl ?_
  refine G_get 0 clX9 (y1_0) fl_X9_9 dX9_read_5 (by decide) rfl rfl ?_
  refine G_aload_n 0 dX9_read_8 rfl rfl ?_
  refine G_get 1 clX9 (y1_0) fl_X9_79 dX9_read_9 (by decide) rfl rfl ?_
  refine G_aload_n 0 dX9_read_12 rfl rfl ?_
  refine G_getO 5 clX9 (y1_0) fl_X9_35 dX9_read_13 (by decide) rfl (by decide) (fun t1 ht1 => ?_)
  refine G_cVi (As := [.ref (ad X 1), .int (M.1 0 1), .ref (ad X t1)]) (rest := []) (ok_X1_parse ht1 (M.1 0 1) M) rfl (y1_21) rfl mv_X9_86 dX9_read_16 rfl rfl (Nat.le_of_ble_eq_true rfl) (g_fitN (by decide) (by decide)) (fun r3 M2 => ?_)
  refine G_istore_n (lv' := [(1, .int r3), (0, .ref (ad X 0))]) dX9_read_19 rfl (by decide) rfl ?_
  refine G_aload_n 1 dX9_read_20 rfl rfl ?_
  refine G_iconst (v := 0) dX9_read_21 (by decide) ?_
  refine G_putI 1 clX9 (y1_0) fl_X9_79 dX9_read_22 (by decide) rfl rfl rfl ?_
  refine G_m (fun M4 => ?_)
  refine G_aload_n 1 dX9_read_25 rfl rfl ?_
  refine G_aload_n 1 dX9_read_26 rfl rfl ?_
  refine G_get 6 clX9 (y1_0) fl_X9_41 dX9_read_27 (by decide) rfl rfl ?_
  refine G_get 0 clX1 (y1_21) fl_X9_90 dX9_read_30 (by decide) rfl rfl ?_
  refine G_putI 2 clX9 (y1_0) fl_X9_24 dX9_read_33 (by decide) rfl rfl rfl ?_
  refine G_m (fun M5 => ?_)
  refine G_iload_n 0 dX9_read_36 rfl rfl ?_
  refine G_if_eq (tgt := 42) dX9_read_37 (by decide) ?_ ?_
  · refine G_aload_n 1 dX9_read_42 rfl rfl ?_
    refine G_getO 4 clX9 (y1_0) fl_X9_31 dX9_read_43 (by decide) rfl (by decide) (fun t6 ht6 => ?_)
    refine G_astore_n (lv' := [(2, .ref (ad X t6)), (1, .int r3), (0, .ref (ad X 0))]) dX9_read_46 rfl (by decide) rfl ?_
    refine G_aload_n 2 dX9_read_47 rfl rfl ?_
    refine G_aload_n 2 dX9_read_48 rfl rfl ?_
    refine G_getO 5 clX9 (y1_0) fl_X9_35 dX9_read_49 (by decide) rfl (by decide) (fun t7 ht7 => ?_)
    refine G_putR 4 clX9 (y1_0) fl_X9_31 dX9_read_52 (by decide) rfl rfl rfl (by rcases ht7 with h | h <;> rw [h] <;> decide) ?_
    refine G_m (fun M8 => ?_)
    refine G_aload_n 2 dX9_read_55 rfl rfl ?_
    refine G_aload_n 0 dX9_read_56 rfl rfl ?_
    refine G_putR 5 clX9 (y1_0) fl_X9_35 dX9_read_57 (by decide) rfl rfl rfl (by rcases ht6 with h | h <;> rw [h] <;> decide) ?_
    refine G_m (fun M9 => ?_)
    refine G_aload_n 2 dX9_read_60 rfl rfl ?_
    refine G_get 10 clX9 (y1_0) fl_X9_68 dX9_read_61 (by decide) rfl rfl ?_
    refine G_cVv (As := []) (rest := []) (ok_X6_dropForecasts M9) rfl (y1_57) rfl mv_X9_93 dX9_read_64 rfl rfl (Nat.le_of_ble_eq_true rfl) (g_fitN (by decide) (by decide)) (fun r11 M10 => ?_)
    refine G_aload_n 2 dX9_read_67 rfl rfl ?_
    refine G_get 8 clX9 (y1_0) fl_X9_54 dX9_read_68 (by decide) rfl rfl ?_
    refine G_cVv (As := []) (rest := []) (ok_X5_dropText M10) rfl (y1_37) rfl mv_X9_96 dX9_read_71 rfl rfl (Nat.le_of_ble_eq_true rfl) (g_fitN (by decide) (by decide)) (fun r13 M12 => ?_)
    refine G_aload_n 2 dX9_read_74 rfl rfl ?_
    refine G_iconst (v := 1) dX9_read_75 (by decide) ?_
    refine G_cVv (As := [.int 1]) (rest := []) (ok_X9_settle (1 : Int32) M12) rfl (y1_0) rfl mv_X9_99 dX9_read_76 rfl rfl (Nat.le_of_ble_eq_true rfl) (g_fitN (by decide) (by decide)) (fun r15 M14 => ?_)
    refine G_iconst (v := 0) dX9_read_79 (by decide) ?_
    exact G_iret rfl dX9_read_80
  · refine G_iload_n 0 dX9_read_40 rfl rfl ?_
    exact G_iret rfl dX9_read_41
-- X9_place
def f_X9_place (M : gM) : Option (Int32 × gM) := (some ((M.1 0 2), M))
set_option maxRecDepth 100000 in
set_option maxHeartbeats 4000000 in
theorem ok_X9_place (M : gM) : g_met Y1 yX9_place jX9_place g_ei (fun Z => [.ref (Z.2.1 0)]) M (f_X9_place M) := by
  refine g_enter (fun Z => [(0, .ref (Z.2.1 0))]) (by decide) rfl (fun Z => Nat.le_of_ble_eq_true rfl) (fun Z => rfl) (fun X => ?_)
  rw [f_X9_place]
  refine G_aload_n 0 dX9_place_0 rfl rfl ?_
  refine G_get 2 clX9 (y1_0) fl_X9_24 dX9_place_1 (by decide) rfl rfl ?_
  exact G_iret rfl dX9_place_4
-- X9_pole
def f_X9_pole (a1 : Int32) (M : gM) : Option (Bool × gM) := (if a1 < (1 : Int32) then (some (false, M)) else (if a1 ≤ (4 : Int32) then (g_b (f_X9_settle a1 M) (fun r2 M1 => (some (true, M1)))) else (some (false, M))))
set_option maxRecDepth 100000 in
set_option maxHeartbeats 4000000 in
theorem ok_X9_pole (a1 : Int32) (M : gM) : g_met Y1 yX9_pole jX9_pole g_eb (fun Z => [.ref (Z.2.1 0), .int a1]) M (f_X9_pole a1 M) := by
  refine g_enter (fun Z => [(0, .ref (Z.2.1 0)), (1, .int a1)]) (by decide) rfl (fun Z => Nat.le_of_ble_eq_true rfl) (fun Z => rfl) (fun X => ?_)
  rw [f_X9_pole]
  refine G_iload_n 1 dX9_pole_0 rfl rfl ?_
  refine G_iconst (v := 1) dX9_pole_1 (by decide) ?_
  refine G_icmp_lt (tgt := 10) dX9_pole_2 (by decide) ?_ ?_
  · refine G_iconst (v := 0) dX9_pole_10 (by decide) ?_
    exact G_zret (b := false) rfl dX9_pole_11
  · refine G_iload_n 1 dX9_pole_5 rfl rfl ?_
    refine G_iconst (v := 4) dX9_pole_6 (by decide) ?_
    refine G_icmp_le (tgt := 12) dX9_pole_7 (by decide) ?_ ?_
    · refine G_aload_n 0 dX9_pole_12 rfl rfl ?_
      refine G_iload_n 1 dX9_pole_13 rfl rfl ?_
      refine G_cVv (As := [.int a1]) (rest := []) (ok_X9_settle a1 M) rfl (y1_0) rfl mv_X9_99 dX9_pole_14 rfl rfl (Nat.le_of_ble_eq_true rfl) (g_fitN (by decide) (by decide)) (fun r2 M1 => ?_)
      refine G_iconst (v := 1) dX9_pole_17 (by decide) ?_
      exact G_zret (b := true) rfl dX9_pole_18
    · refine G_iconst (v := 0) dX9_pole_10 (by decide) ?_
      exact G_zret (b := false) rfl dX9_pole_11
-- X9_state
def f_X9_state (a1 : Int32) (a2 : Int32) (a3 : Int32) (M : gM) : Option (Int32 × gM) := (g_or 3 12 (M.2.2 0 4) (fun t1 => (g_b (f_X4_number t1 a1 a2 a3 M) (fun r3 M2 => (some (r3, M2))))))
set_option maxRecDepth 100000 in
set_option maxHeartbeats 4000000 in
theorem ok_X9_state (a1 : Int32) (a2 : Int32) (a3 : Int32) (M : gM) : g_met Y1 yX9_state jX9_state g_ei (fun Z => [.ref (Z.2.1 0), .int a1, .int a2, .int a3]) M (f_X9_state a1 a2 a3 M) := by
  refine g_enter (fun Z => [(0, .ref (Z.2.1 0)), (1, .int a1), (2, .int a2), (3, .int a3)]) (by decide) rfl (fun Z => Nat.le_of_ble_eq_true rfl) (fun Z => rfl) (fun X => ?_)
  rw [f_X9_state]
  refine G_aload_n 0 dX9_state_0 rfl rfl ?_
  refine G_getO 4 clX9 (y1_0) fl_X9_31 dX9_state_1 (by decide) rfl (by decide) (fun t1 ht1 => ?_)
  refine G_iload_n 1 dX9_state_4 rfl rfl ?_
  refine G_iload_n 2 dX9_state_5 rfl rfl ?_
  refine G_iload_n 3 dX9_state_6 rfl rfl ?_
  refine G_cVi (As := [.int a1, .int a2, .int a3]) (rest := []) (ok_X4_number ht1 a1 a2 a3 M) rfl (ro_0 ht1) rfl mv_X9_118 dX9_state_7 rfl rfl (Nat.le_of_ble_eq_true rfl) (g_fitN (by decide) (by decide)) (fun r3 M2 => ?_)
  exact G_iret rfl dX9_state_10
-- X9_can
def f_X9_can (a1 : Int32) (a2 : Int32) (M : gM) : Option (Int32 × gM) := (g_or 3 12 (M.2.2 0 4) (fun t1 => (g_b (f_X4_has t1 a1 M) (fun r3 M2 => (if r3 then (g_or 3 12 (M2.2.2 0 4) (fun t4 => (g_b (f_X4_hasAct t4 a2 M2) (fun r6 M5 => (if r6 then (g_b (f_X0_allows a1 a2 M5) (fun r8 M7 => (if r8 then (some ((1 : Int32), M7)) else (some ((0 : Int32), M7))))) else (some (((-1) : Int32), M5))))))) else (some (((-1) : Int32), M2)))))))
set_option maxRecDepth 100000 in
set_option maxHeartbeats 4000000 in
theorem ok_X9_can (a1 : Int32) (a2 : Int32) (M : gM) : g_met Y1 yX9_can jX9_can g_ei (fun Z => [.ref (Z.2.1 0), .int a1, .int a2]) M (f_X9_can a1 a2 M) := by
  refine g_enter (fun Z => [(0, .ref (Z.2.1 0)), (1, .int a1), (2, .int a2)]) (by decide) rfl (fun Z => Nat.le_of_ble_eq_true rfl) (fun Z => rfl) (fun X => ?_)
  rw [f_X9_can]
  refine G_aload_n 0 dX9_can_0 rfl rfl ?_
  refine G_getO 4 clX9 (y1_0) fl_X9_31 dX9_can_1 (by decide) rfl (by decide) (fun t1 ht1 => ?_)
  refine G_iload_n 1 dX9_can_4 rfl rfl ?_
  refine G_cVb (As := [.int a1]) (rest := []) (ok_X4_has ht1 a1 M) rfl (ro_0 ht1) rfl mv_X9_122 dX9_can_5 rfl rfl (Nat.le_of_ble_eq_true rfl) (g_fitN (by decide) (by decide)) (fun r3 M2 => ?_)
  refine G_ifB_eq (tgt := 22) dX9_can_8 (by decide) ?_ ?_
  · refine G_iconst (v := (-1)) dX9_can_22 (by decide) ?_
    exact G_iret rfl dX9_can_23
  · refine G_aload_n 0 dX9_can_11 rfl rfl ?_
    refine G_getO 4 clX9 (y1_0) fl_X9_31 dX9_can_12 (by decide) rfl (by decide) (fun t4 ht4 => ?_)
    refine G_iload_n 2 dX9_can_15 rfl rfl ?_
    refine G_cVb (As := [.int a2]) (rest := []) (ok_X4_hasAct ht4 a2 M2) rfl (ro_0 ht4) rfl mv_X9_126 dX9_can_16 rfl rfl (Nat.le_of_ble_eq_true rfl) (g_fitN (by decide) (by decide)) (fun r6 M5 => ?_)
    refine G_ifB_ne (tgt := 24) dX9_can_19 (by decide) ?_ ?_
    · refine G_aload_n 0 dX9_can_24 rfl rfl ?_
      refine G_get 7 clX9 (y1_0) fl_X9_45 dX9_can_25 (by decide) rfl rfl ?_
      refine G_iload_n 1 dX9_can_28 rfl rfl ?_
      refine G_iload_n 2 dX9_can_29 rfl rfl ?_
      refine G_cVb (As := [.int a1, .int a2]) (rest := []) (ok_X0_allows a1 a2 M5) rfl (y1_27) rfl mv_X9_129 dX9_can_30 rfl rfl (Nat.le_of_ble_eq_true rfl) (g_fitN (by decide) (by decide)) (fun r8 M7 => ?_)
      refine G_ifB_eq (tgt := 40) dX9_can_33 (by decide) ?_ ?_
      · refine G_iconst (v := 0) dX9_can_40 (by decide) ?_
        exact G_iret rfl dX9_can_41
      · refine G_iconst (v := 1) dX9_can_36 (by decide) ?_
        refine G_goto (tgt := 41) dX9_can_37 (by decide) ?_
        exact G_iret rfl dX9_can_41
    · refine G_iconst (v := (-1)) dX9_can_22 (by decide) ?_
      exact G_iret rfl dX9_can_23
-- X9_gust
def f_X9_gust (a1 : Int32) (a2 : Bool) (M : gM) : Option (Int32 × gM) := (g_or 3 12 (M.2.2 0 4) (fun t1 => (g_b (f_X4_has t1 a1 M) (fun r3 M2 => (if r3 then (if a2 then (g_b (f_X0_greatest a1 M2) (fun r7 M6 => (some (r7, M6)))) else (g_b (f_X0_least a1 M2) (fun r5 M4 => (some (r5, M4))))) else (some (((-100) : Int32), M2)))))))
set_option maxRecDepth 100000 in
set_option maxHeartbeats 4000000 in
theorem ok_X9_gust (a1 : Int32) (a2 : Bool) (M : gM) : g_met Y1 yX9_gust jX9_gust g_ei (fun Z => [.ref (Z.2.1 0), .int a1, .int (b2i a2)]) M (f_X9_gust a1 a2 M) := by
  refine g_enter (fun Z => [(0, .ref (Z.2.1 0)), (1, .int a1), (2, .int (b2i a2))]) (by decide) rfl (fun Z => Nat.le_of_ble_eq_true rfl) (fun Z => rfl) (fun X => ?_)
  rw [f_X9_gust]
  refine G_aload_n 0 dX9_gust_0 rfl rfl ?_
  refine G_getO 4 clX9 (y1_0) fl_X9_31 dX9_gust_1 (by decide) rfl (by decide) (fun t1 ht1 => ?_)
  refine G_iload_n 1 dX9_gust_4 rfl rfl ?_
  refine G_cVb (As := [.int a1]) (rest := []) (ok_X4_has ht1 a1 M) rfl (ro_0 ht1) rfl mv_X9_122 dX9_gust_5 rfl rfl (Nat.le_of_ble_eq_true rfl) (g_fitN (by decide) (by decide)) (fun r3 M2 => ?_)
  refine G_ifB_ne (tgt := 14) dX9_gust_8 (by decide) ?_ ?_
  · refine G_iload_n 2 dX9_gust_14 rfl rfl ?_
    refine G_ifB_eq (tgt := 29) dX9_gust_15 (by decide) ?_ ?_
    · refine G_aload_n 0 dX9_gust_29 rfl rfl ?_
      refine G_get 7 clX9 (y1_0) fl_X9_45 dX9_gust_30 (by decide) rfl rfl ?_
      refine G_iload_n 1 dX9_gust_33 rfl rfl ?_
      refine G_cVi (As := [.int a1]) (rest := []) (ok_X0_least a1 M2) rfl (y1_27) rfl mv_X9_137 dX9_gust_34 rfl rfl (Nat.le_of_ble_eq_true rfl) (g_fitN (by decide) (by decide)) (fun r5 M4 => ?_)
      exact G_iret rfl dX9_gust_37
    · refine G_aload_n 0 dX9_gust_18 rfl rfl ?_
      refine G_get 7 clX9 (y1_0) fl_X9_45 dX9_gust_19 (by decide) rfl rfl ?_
      refine G_iload_n 1 dX9_gust_22 rfl rfl ?_
      refine G_cVi (As := [.int a1]) (rest := []) (ok_X0_greatest a1 M2) rfl (y1_27) rfl mv_X9_133 dX9_gust_23 rfl rfl (Nat.le_of_ble_eq_true rfl) (g_fitN (by decide) (by decide)) (fun r7 M6 => ?_)
      refine G_goto (tgt := 37) dX9_gust_26 (by decide) ?_
      exact G_iret rfl dX9_gust_37
  · refine G_bipush (v := (-100)) dX9_gust_11 (by decide) ?_
    exact G_iret rfl dX9_gust_13
-- X9_isForecast
def f_X9_isForecast (a0 : Int32) (M : gM) : Option (Bool × gM) := (if a0 < ((-12) : Int32) then (some (false, M)) else (if (12 : Int32) < a0 then (some (false, M)) else (some (true, M))))
set_option maxRecDepth 100000 in
set_option maxHeartbeats 4000000 in
theorem ok_X9_isForecast (a0 : Int32) (M : gM) : g_met Y1 yX9_isForecast jX9_isForecast g_eb (fun Z => [.int a0]) M (f_X9_isForecast a0 M) := by
  refine g_enter (fun Z => [(0, .int a0)]) (by decide) rfl (fun Z => Nat.le_of_ble_eq_true rfl) (fun Z => rfl) (fun X => ?_)
  rw [f_X9_isForecast]
  refine G_iload_n 0 dX9_isForecast_0 rfl rfl ?_
  refine G_bipush (v := (-12)) dX9_isForecast_1 (by decide) ?_
  refine G_icmp_lt (tgt := 16) dX9_isForecast_3 (by decide) ?_ ?_
  · refine G_iconst (v := 0) dX9_isForecast_16 (by decide) ?_
    exact G_zret (b := false) rfl dX9_isForecast_17
  · refine G_iload_n 0 dX9_isForecast_6 rfl rfl ?_
    refine G_bipush (v := 12) dX9_isForecast_7 (by decide) ?_
    refine G_icmp_gt (tgt := 16) dX9_isForecast_9 (by decide) ?_ ?_
    · refine G_iconst (v := 0) dX9_isForecast_16 (by decide) ?_
      exact G_zret (b := false) rfl dX9_isForecast_17
    · refine G_iconst (v := 1) dX9_isForecast_12 (by decide) ?_
      refine G_goto (tgt := 17) dX9_isForecast_13 (by decide) ?_
      exact G_zret (b := true) rfl dX9_isForecast_17
-- X9_next
def f_X9_next (a1 : Int32) (a2 : Int32) (a3 : Int32) (M : gM) : Option (Int32 × gM) := (g_or 3 12 (M.2.2 0 4) (fun t1 => (g_b (f_X4_has t1 a1 M) (fun r3 M2 => (if r3 then (g_or 3 12 (M2.2.2 0 4) (fun t4 => (g_b (f_X4_hasAct t4 a2 M2) (fun r6 M5 => (if r6 then (g_b (f_X9_isForecast a3 M5) (fun r8 M7 => (if r8 then (g_b (f_X0_allows a1 a2 M7) (fun r10 M9 => (if r10 then (g_b (f_X0_after a1 a2 a3 M9) (fun r12 M11 => (some (r12, M11)))) else (some (((-3) : Int32), M9))))) else (some (((-1) : Int32), M7))))) else (some (((-1) : Int32), M5))))))) else (some (((-1) : Int32), M2)))))))
set_option maxRecDepth 100000 in
set_option maxHeartbeats 4000000 in
theorem ok_X9_next (a1 : Int32) (a2 : Int32) (a3 : Int32) (M : gM) : g_met Y1 yX9_next jX9_next g_ei (fun Z => [.ref (Z.2.1 0), .int a1, .int a2, .int a3]) M (f_X9_next a1 a2 a3 M) := by
  refine g_enter (fun Z => [(0, .ref (Z.2.1 0)), (1, .int a1), (2, .int a2), (3, .int a3)]) (by decide) rfl (fun Z => Nat.le_of_ble_eq_true rfl) (fun Z => rfl) (fun X => ?_)
  rw [f_X9_next]
  refine G_aload_n 0 dX9_next_0 rfl rfl ?_
  refine G_getO 4 clX9 (y1_0) fl_X9_31 dX9_next_1 (by decide) rfl (by decide) (fun t1 ht1 => ?_)
  refine G_iload_n 1 dX9_next_4 rfl rfl ?_
  refine G_cVb (As := [.int a1]) (rest := []) (ok_X4_has ht1 a1 M) rfl (ro_0 ht1) rfl mv_X9_122 dX9_next_5 rfl rfl (Nat.le_of_ble_eq_true rfl) (g_fitN (by decide) (by decide)) (fun r3 M2 => ?_)
  refine G_ifB_eq (tgt := 29) dX9_next_8 (by decide) ?_ ?_
  · refine G_iconst (v := (-1)) dX9_next_29 (by decide) ?_
    exact G_iret rfl dX9_next_30
  · refine G_aload_n 0 dX9_next_11 rfl rfl ?_
    refine G_getO 4 clX9 (y1_0) fl_X9_31 dX9_next_12 (by decide) rfl (by decide) (fun t4 ht4 => ?_)
    refine G_iload_n 2 dX9_next_15 rfl rfl ?_
    refine G_cVb (As := [.int a2]) (rest := []) (ok_X4_hasAct ht4 a2 M2) rfl (ro_0 ht4) rfl mv_X9_126 dX9_next_16 rfl rfl (Nat.le_of_ble_eq_true rfl) (g_fitN (by decide) (by decide)) (fun r6 M5 => ?_)
    refine G_ifB_eq (tgt := 29) dX9_next_19 (by decide) ?_ ?_
    · refine G_iconst (v := (-1)) dX9_next_29 (by decide) ?_
      exact G_iret rfl dX9_next_30
    · refine G_iload_n 3 dX9_next_22 rfl rfl ?_
      refine G_cSb (As := [.int a3]) (rest := []) (ok_X9_isForecast a3 M5) rfl ms_X9_140 dX9_next_23 rfl rfl (Nat.le_of_ble_eq_true rfl) (g_fitN (by decide) (by decide)) (fun r8 M7 => ?_)
      refine G_ifB_ne (tgt := 31) dX9_next_26 (by decide) ?_ ?_
      · refine G_aload_n 0 dX9_next_31 rfl rfl ?_
        refine G_get 7 clX9 (y1_0) fl_X9_45 dX9_next_32 (by decide) rfl rfl ?_
        refine G_iload_n 1 dX9_next_35 rfl rfl ?_
        refine G_iload_n 2 dX9_next_36 rfl rfl ?_
        refine G_cVb (As := [.int a1, .int a2]) (rest := []) (ok_X0_allows a1 a2 M7) rfl (y1_27) rfl mv_X9_129 dX9_next_37 rfl rfl (Nat.le_of_ble_eq_true rfl) (g_fitN (by decide) (by decide)) (fun r10 M9 => ?_)
        refine G_ifB_eq (tgt := 56) dX9_next_40 (by decide) ?_ ?_
        · refine G_bipush (v := (-3)) dX9_next_56 (by decide) ?_
          exact G_iret rfl dX9_next_58
        · refine G_aload_n 0 dX9_next_43 rfl rfl ?_
          refine G_get 7 clX9 (y1_0) fl_X9_45 dX9_next_44 (by decide) rfl rfl ?_
          refine G_iload_n 1 dX9_next_47 rfl rfl ?_
          refine G_iload_n 2 dX9_next_48 rfl rfl ?_
          refine G_iload_n 3 dX9_next_49 rfl rfl ?_
          refine G_cVi (As := [.int a1, .int a2, .int a3]) (rest := []) (ok_X0_after a1 a2 a3 M9) rfl (y1_27) rfl mv_X9_143 dX9_next_50 rfl rfl (Nat.le_of_ble_eq_true rfl) (g_fitN (by decide) (by decide)) (fun r12 M11 => ?_)
          refine G_goto (tgt := 58) dX9_next_53 (by decide) ?_
          exact G_iret rfl dX9_next_58
      · refine G_iconst (v := (-1)) dX9_next_29 (by decide) ?_
        exact G_iret rfl dX9_next_30
-- X9_fate
def f_X9_fate (a1 : Int32) (M : gM) : Option (Int32 × gM) := (g_or 3 12 (M.2.2 0 4) (fun t1 => (g_b (f_X4_has t1 a1 M) (fun r3 M2 => (if r3 then (g_b (f_X5_findFates M2) (fun r5 M4 => (g_ck a1 2079 (g_v (M4.1 38 (tn a1)) (fun y6 => (if y6 = (1048576 : Int32) then (some (((-2) : Int32), M4)) else (some (y6, M4)))))))) else (some (((-1) : Int32), M2)))))))
set_option maxRecDepth 100000 in
set_option maxHeartbeats 4000000 in
theorem ok_X9_fate (a1 : Int32) (M : gM) : g_met Y1 yX9_fate jX9_fate g_ei (fun Z => [.ref (Z.2.1 0), .int a1]) M (f_X9_fate a1 M) := by
  refine g_enter (fun Z => [(0, .ref (Z.2.1 0)), (1, .int a1)]) (by decide) rfl (fun Z => Nat.le_of_ble_eq_true rfl) (fun Z => rfl) (fun X => ?_)
  rw [f_X9_fate]
  refine G_aload_n 0 dX9_fate_0 rfl rfl ?_
  refine G_getO 4 clX9 (y1_0) fl_X9_31 dX9_fate_1 (by decide) rfl (by decide) (fun t1 ht1 => ?_)
  refine G_iload_n 1 dX9_fate_4 rfl rfl ?_
  refine G_cVb (As := [.int a1]) (rest := []) (ok_X4_has ht1 a1 M) rfl (ro_0 ht1) rfl mv_X9_122 dX9_fate_5 rfl rfl (Nat.le_of_ble_eq_true rfl) (g_fitN (by decide) (by decide)) (fun r3 M2 => ?_)
  refine G_ifB_ne (tgt := 13) dX9_fate_8 (by decide) ?_ ?_
  · refine G_aload_n 0 dX9_fate_13 rfl rfl ?_
    refine G_get 8 clX9 (y1_0) fl_X9_54 dX9_fate_14 (by decide) rfl rfl ?_
    refine G_cVv (As := []) (rest := []) (ok_X5_findFates M2) rfl (y1_37) rfl mv_X9_146 dX9_fate_17 rfl rfl (Nat.le_of_ble_eq_true rfl) (g_fitN (by decide) (by decide)) (fun r5 M4 => ?_)
    refine G_aload_n 0 dX9_fate_20 rfl rfl ?_
    refine G_get 8 clX9 (y1_0) fl_X9_54 dX9_fate_21 (by decide) rfl rfl ?_
    refine G_get 1 clX5 (y1_37) fl_X9_149 dX9_fate_24 (by decide) rfl rfl ?_
    refine G_iload_n 1 dX9_fate_27 rfl rfl ?_
    refine G_iald (y1_38) dX9_fate_28 ?_
    refine G_vi (fun y6 => ?_)
    refine G_istore_n (lv' := [(2, .int y6), (0, .ref (ad X 0)), (1, .int a1)]) dX9_fate_29 rfl (by decide) rfl ?_
    refine G_iload_n 0 dX9_fate_30 rfl rfl ?_
    refine G_ldc (v := 1048576) ci_X9_152 dX9_fate_31 ?_
    refine G_icmp_ne (tgt := 41) dX9_fate_33 (by decide) ?_ ?_
    · refine G_iload_n 0 dX9_fate_41 rfl rfl ?_
      exact G_iret rfl dX9_fate_42
    · refine G_bipush (v := (-2)) dX9_fate_36 (by decide) ?_
      refine G_goto (tgt := 42) dX9_fate_38 (by decide) ?_
      exact G_iret rfl dX9_fate_42
  · refine G_iconst (v := (-1)) dX9_fate_11 (by decide) ?_
    exact G_iret rfl dX9_fate_12
-- X9_keep
def f_X9_keep (a1 : Int32) (M : gM) : Option (Int32 × gM) := (g_or 3 12 (M.2.2 0 4) (fun t1 => (g_b (f_X4_has t1 a1 M) (fun r3 M2 => (if r3 then (g_b (f_X5_findFates M2) (fun r5 M4 => (g_ck a1 2079 (some ((M4.1 39 (tn a1)), M4))))) else (some (((-1) : Int32), M2)))))))
set_option maxRecDepth 100000 in
set_option maxHeartbeats 4000000 in
theorem ok_X9_keep (a1 : Int32) (M : gM) : g_met Y1 yX9_keep jX9_keep g_ei (fun Z => [.ref (Z.2.1 0), .int a1]) M (f_X9_keep a1 M) := by
  refine g_enter (fun Z => [(0, .ref (Z.2.1 0)), (1, .int a1)]) (by decide) rfl (fun Z => Nat.le_of_ble_eq_true rfl) (fun Z => rfl) (fun X => ?_)
  rw [f_X9_keep]
  refine G_aload_n 0 dX9_keep_0 rfl rfl ?_
  refine G_getO 4 clX9 (y1_0) fl_X9_31 dX9_keep_1 (by decide) rfl (by decide) (fun t1 ht1 => ?_)
  refine G_iload_n 1 dX9_keep_4 rfl rfl ?_
  refine G_cVb (As := [.int a1]) (rest := []) (ok_X4_has ht1 a1 M) rfl (ro_0 ht1) rfl mv_X9_122 dX9_keep_5 rfl rfl (Nat.le_of_ble_eq_true rfl) (g_fitN (by decide) (by decide)) (fun r3 M2 => ?_)
  refine G_ifB_ne (tgt := 13) dX9_keep_8 (by decide) ?_ ?_
  · refine G_aload_n 0 dX9_keep_13 rfl rfl ?_
    refine G_get 8 clX9 (y1_0) fl_X9_54 dX9_keep_14 (by decide) rfl rfl ?_
    refine G_cVv (As := []) (rest := []) (ok_X5_findFates M2) rfl (y1_37) rfl mv_X9_146 dX9_keep_17 rfl rfl (Nat.le_of_ble_eq_true rfl) (g_fitN (by decide) (by decide)) (fun r5 M4 => ?_)
    refine G_aload_n 0 dX9_keep_20 rfl rfl ?_
    refine G_get 8 clX9 (y1_0) fl_X9_54 dX9_keep_21 (by decide) rfl rfl ?_
    refine G_get 2 clX5 (y1_37) fl_X9_153 dX9_keep_24 (by decide) rfl rfl ?_
    refine G_iload_n 1 dX9_keep_27 rfl rfl ?_
    refine G_iald (y1_39) dX9_keep_28 ?_
    exact G_iret rfl dX9_keep_29
  · refine G_iconst (v := (-1)) dX9_keep_11 (by decide) ?_
    exact G_iret rfl dX9_keep_12
-- X9_reach
def f_X9_reach (a1 : Int32) (M : gM) : Option (Int32 × gM) := (g_or 3 12 (M.2.2 0 4) (fun t1 => (g_b (f_X4_has t1 a1 M) (fun r3 M2 => (if r3 then (g_b (f_X5_findReaches M2) (fun r5 M4 => (g_ck a1 2079 (g_v (M4.1 40 (tn a1)) (fun y6 => (if y6 = ((-1048576) : Int32) then (some (((-2) : Int32), M4)) else (some ((-y6), M4)))))))) else (some (((-1) : Int32), M2)))))))
set_option maxRecDepth 100000 in
set_option maxHeartbeats 4000000 in
theorem ok_X9_reach (a1 : Int32) (M : gM) : g_met Y1 yX9_reach jX9_reach g_ei (fun Z => [.ref (Z.2.1 0), .int a1]) M (f_X9_reach a1 M) := by
  refine g_enter (fun Z => [(0, .ref (Z.2.1 0)), (1, .int a1)]) (by decide) rfl (fun Z => Nat.le_of_ble_eq_true rfl) (fun Z => rfl) (fun X => ?_)
  rw [f_X9_reach]
  refine G_aload_n 0 dX9_reach_0 rfl rfl ?_
  refine G_getO 4 clX9 (y1_0) fl_X9_31 dX9_reach_1 (by decide) rfl (by decide) (fun t1 ht1 => ?_)
  refine G_iload_n 1 dX9_reach_4 rfl rfl ?_
  refine G_cVb (As := [.int a1]) (rest := []) (ok_X4_has ht1 a1 M) rfl (ro_0 ht1) rfl mv_X9_122 dX9_reach_5 rfl rfl (Nat.le_of_ble_eq_true rfl) (g_fitN (by decide) (by decide)) (fun r3 M2 => ?_)
  refine G_ifB_ne (tgt := 13) dX9_reach_8 (by decide) ?_ ?_
  · refine G_aload_n 0 dX9_reach_13 rfl rfl ?_
    refine G_get 8 clX9 (y1_0) fl_X9_54 dX9_reach_14 (by decide) rfl rfl ?_
    refine G_cVv (As := []) (rest := []) (ok_X5_findReaches M2) rfl (y1_37) rfl mv_X9_156 dX9_reach_17 rfl rfl (Nat.le_of_ble_eq_true rfl) (g_fitN (by decide) (by decide)) (fun r5 M4 => ?_)
    refine G_aload_n 0 dX9_reach_20 rfl rfl ?_
    refine G_get 8 clX9 (y1_0) fl_X9_54 dX9_reach_21 (by decide) rfl rfl ?_
    refine G_get 3 clX5 (y1_37) fl_X9_159 dX9_reach_24 (by decide) rfl rfl ?_
    refine G_iload_n 1 dX9_reach_27 rfl rfl ?_
    refine G_iald (y1_40) dX9_reach_28 ?_
    refine G_vi (fun y6 => ?_)
    refine G_istore_n (lv' := [(2, .int y6), (0, .ref (ad X 0)), (1, .int a1)]) dX9_reach_29 rfl (by decide) rfl ?_
    refine G_iload_n 0 dX9_reach_30 rfl rfl ?_
    refine G_ldc (v := (-1048576)) ci_X9_162 dX9_reach_31 ?_
    refine G_icmp_ne (tgt := 41) dX9_reach_33 (by decide) ?_ ?_
    · refine G_iload_n 0 dX9_reach_41 rfl rfl ?_
      refine G_ineg dX9_reach_42 ?_
      exact G_iret rfl dX9_reach_43
    · refine G_bipush (v := (-2)) dX9_reach_36 (by decide) ?_
      refine G_goto (tgt := 43) dX9_reach_38 (by decide) ?_
      exact G_iret rfl dX9_reach_43
  · refine G_iconst (v := (-1)) dX9_reach_11 (by decide) ?_
    exact G_iret rfl dX9_reach_12
-- X9_lead
def f_X9_lead (a1 : Int32) (M : gM) : Option (Int32 × gM) := (g_or 3 12 (M.2.2 0 4) (fun t1 => (g_b (f_X4_has t1 a1 M) (fun r3 M2 => (if r3 then (g_b (f_X5_findReaches M2) (fun r5 M4 => (g_ck a1 2079 (some ((M4.1 41 (tn a1)), M4))))) else (some (((-1) : Int32), M2)))))))
set_option maxRecDepth 100000 in
set_option maxHeartbeats 4000000 in
theorem ok_X9_lead (a1 : Int32) (M : gM) : g_met Y1 yX9_lead jX9_lead g_ei (fun Z => [.ref (Z.2.1 0), .int a1]) M (f_X9_lead a1 M) := by
  refine g_enter (fun Z => [(0, .ref (Z.2.1 0)), (1, .int a1)]) (by decide) rfl (fun Z => Nat.le_of_ble_eq_true rfl) (fun Z => rfl) (fun X => ?_)
  rw [f_X9_lead]
  refine G_aload_n 0 dX9_lead_0 rfl rfl ?_
  refine G_getO 4 clX9 (y1_0) fl_X9_31 dX9_lead_1 (by decide) rfl (by decide) (fun t1 ht1 => ?_)
  refine G_iload_n 1 dX9_lead_4 rfl rfl ?_
  refine G_cVb (As := [.int a1]) (rest := []) (ok_X4_has ht1 a1 M) rfl (ro_0 ht1) rfl mv_X9_122 dX9_lead_5 rfl rfl (Nat.le_of_ble_eq_true rfl) (g_fitN (by decide) (by decide)) (fun r3 M2 => ?_)
  refine G_ifB_ne (tgt := 13) dX9_lead_8 (by decide) ?_ ?_
  · refine G_aload_n 0 dX9_lead_13 rfl rfl ?_
    refine G_get 8 clX9 (y1_0) fl_X9_54 dX9_lead_14 (by decide) rfl rfl ?_
    refine G_cVv (As := []) (rest := []) (ok_X5_findReaches M2) rfl (y1_37) rfl mv_X9_156 dX9_lead_17 rfl rfl (Nat.le_of_ble_eq_true rfl) (g_fitN (by decide) (by decide)) (fun r5 M4 => ?_)
    refine G_aload_n 0 dX9_lead_20 rfl rfl ?_
    refine G_get 8 clX9 (y1_0) fl_X9_54 dX9_lead_21 (by decide) rfl rfl ?_
    refine G_get 4 clX5 (y1_37) fl_X9_163 dX9_lead_24 (by decide) rfl rfl ?_
    refine G_iload_n 1 dX9_lead_27 rfl rfl ?_
    refine G_iald (y1_41) dX9_lead_28 ?_
    exact G_iret rfl dX9_lead_29
  · refine G_iconst (v := (-1)) dX9_lead_11 (by decide) ?_
    exact G_iret rfl dX9_lead_12
-- X9_safe
def f_X9_safe (a1 : Int32) (M : gM) : Option (Int32 × gM) := (if a1 < 0 then (some (((-1) : Int32), M)) else (g_or 3 12 (M.2.2 0 4) (fun t1 => (if a1 ≤ (M.1 t1 0) then (g_b (f_X5_findFates M) (fun r3 M2 => (g_b (f_X5_safeAmong (a1 * (231 : Int32)) ((a1 + (1 : Int32)) * (231 : Int32)) M2) (fun r5 M4 => (some (r5, M4)))))) else (some (((-1) : Int32), M))))))
set_option maxRecDepth 100000 in
set_option maxHeartbeats 4000000 in
theorem ok_X9_safe (a1 : Int32) (M : gM) : g_met Y1 yX9_safe jX9_safe g_ei (fun Z => [.ref (Z.2.1 0), .int a1]) M (f_X9_safe a1 M) := by
  refine g_enter (fun Z => [(0, .ref (Z.2.1 0)), (1, .int a1)]) (by decide) rfl (fun Z => Nat.le_of_ble_eq_true rfl) (fun Z => rfl) (fun X => ?_)
  rw [f_X9_safe]
  refine G_iload_n 1 dX9_safe_0 rfl rfl ?_
  refine G_if_lt (tgt := 15) dX9_safe_1 (by decide) ?_ ?_
  · refine G_iconst (v := (-1)) dX9_safe_15 (by decide) ?_
    exact G_iret rfl dX9_safe_16
  · refine G_iload_n 1 dX9_safe_4 rfl rfl ?_
    refine G_aload_n 0 dX9_safe_5 rfl rfl ?_
    refine G_getO 4 clX9 (y1_0) fl_X9_31 dX9_safe_6 (by decide) rfl (by decide) (fun t1 ht1 => ?_)
    refine G_get 0 clX4 (ro_0 ht1) fl_X9_166 dX9_safe_9 (by decide) rfl rfl ?_
    refine G_icmp_le (tgt := 17) dX9_safe_12 (by decide) ?_ ?_
    · refine G_aload_n 0 dX9_safe_17 rfl rfl ?_
      refine G_get 8 clX9 (y1_0) fl_X9_54 dX9_safe_18 (by decide) rfl rfl ?_
      refine G_cVv (As := []) (rest := []) (ok_X5_findFates M) rfl (y1_37) rfl mv_X9_146 dX9_safe_21 rfl rfl (Nat.le_of_ble_eq_true rfl) (g_fitN (by decide) (by decide)) (fun r3 M2 => ?_)
      refine G_aload_n 0 dX9_safe_24 rfl rfl ?_
      refine G_get 8 clX9 (y1_0) fl_X9_54 dX9_safe_25 (by decide) rfl rfl ?_
      refine G_iload_n 1 dX9_safe_28 rfl rfl ?_
      refine G_sipush (v := 231) dX9_safe_29 (by decide) ?_
      refine G_imul dX9_safe_32 ?_
      refine G_iload_n 1 dX9_safe_33 rfl rfl ?_
      refine G_iconst (v := 1) dX9_safe_34 (by decide) ?_
      refine G_iadd dX9_safe_35 ?_
      refine G_sipush (v := 231) dX9_safe_36 (by decide) ?_
      refine G_imul dX9_safe_39 ?_
      refine G_cVi (As := [.int (a1 * (231 : Int32)), .int ((a1 + (1 : Int32)) * (231 : Int32))]) (rest := []) (ok_X5_safeAmong (a1 * (231 : Int32)) ((a1 + (1 : Int32)) * (231 : Int32)) M2) rfl (y1_37) rfl mv_X9_169 dX9_safe_40 rfl rfl (Nat.le_of_ble_eq_true rfl) (g_fitN (by decide) (by decide)) (fun r5 M4 => ?_)
      exact G_iret rfl dX9_safe_43
    · refine G_iconst (v := (-1)) dX9_safe_15 (by decide) ?_
      exact G_iret rfl dX9_safe_16
-- X9_edge
def f_X9_edge_58 (k34 : Int32 → Int32 → Bool → Int32 → gM → Option (Int32 × gM)) (x1 : Int32) (x2 : Int32) (x3 : Bool) (x4 : Int32) (s0 : Int32) (M : gM) : Option (Int32 × gM) := (g_or 3 12 (M.2.2 0 4) (fun t9 => (g_b (f_X4_number t9 x1 s0 x2 M) (fun r11 M10 => (g_b (f_X5_isSafe r11 M10) (fun r13 M12 => (if r13 then (some (s0, M12)) else (k34 x1 x2 x3 (x4 + 1) M12))))))))
set_option maxRecDepth 100000 in
set_option maxHeartbeats 4000000 in
theorem o_X9_edge_58 {X : gX} {k34 : Int32 → Int32 → Bool → Int32 → gM → Option (Int32 × gM)} (hk34 : ∀ (x1 : Int32) (x2 : Int32) (x3 : Bool) (x4 : Int32) (M : gM), G Y1 jX9_edge X (g_fin g_ei) 34 [(0, .ref (ad X 0)), (1, .int x1), (2, .int x2), (3, .int (b2i x3)), (4, .int x4)] [] M (k34 x1 x2 x3 x4 M)) (x1 : Int32) (x2 : Int32) (x3 : Bool) (x4 : Int32) (s0 : Int32) (M : gM) : G Y1 jX9_edge X (g_fin g_ei) 58 [(0, .ref (ad X 0)), (1, .int x1), (2, .int x2), (3, .int (b2i x3)), (4, .int x4)] [.int s0] M (f_X9_edge_58 k34 x1 x2 x3 x4 s0 M) := by
  rw [f_X9_edge_58]
  refine G_istore (lv' := [(5, .int s0), (0, .ref (ad X 0)), (1, .int x1), (2, .int x2), (3, .int (b2i x3)), (4, .int x4)]) dX9_edge_58 (by decide) rfl ?_
  refine G_aload_n 1 dX9_edge_60 rfl rfl ?_
  refine G_get 8 clX9 (y1_0) fl_X9_54 dX9_edge_61 (by decide) rfl rfl ?_
  refine G_aload_n 1 dX9_edge_64 rfl rfl ?_
  refine G_getO 4 clX9 (y1_0) fl_X9_31 dX9_edge_65 (by decide) rfl (by decide) (fun t9 ht9 => ?_)
  refine G_iload_n 2 dX9_edge_68 rfl rfl ?_
  refine G_iload 0 dX9_edge_69 rfl ?_
  refine G_iload_n 3 dX9_edge_71 rfl rfl ?_
  refine G_cVi (As := [.int x1, .int s0, .int x2]) (rest := [.ref (ad X 37)]) (ok_X4_number ht9 x1 s0 x2 M) rfl (ro_0 ht9) rfl mv_X9_118 dX9_edge_72 rfl rfl (Nat.le_of_ble_eq_true rfl) (g_fitN (by decide) (by decide)) (fun r11 M10 => ?_)
  refine G_cVb (As := [.int r11]) (rest := []) (ok_X5_isSafe r11 M10) rfl (y1_37) rfl mv_X9_176 dX9_edge_75 rfl rfl (Nat.le_of_ble_eq_true rfl) (g_fitN (by decide) (by decide)) (fun r13 M12 => ?_)
  refine G_ifB_eq (tgt := 84) dX9_edge_78 (by decide) ?_ ?_
  · refine G_iinc (v := x4 + 1) (lv' := [(4, .int (x4 + 1)), (5, .int s0), (0, .ref (ad X 0)), (1, .int x1), (2, .int x2), (3, .int (b2i x3))]) 5 dX9_edge_84 rfl rfl (by decide) rfl ?_
    refine G_goto (tgt := 34) dX9_edge_87 (by decide) ?_
    exact G_sub [2, 3, 4, 5, 0] rfl (hk34 x1 x2 x3 (x4 + 1) M12)
  · refine G_iload 0 dX9_edge_81 rfl ?_
    exact G_iret rfl dX9_edge_83
def f_X9_edge_34 : Nat → Int32 → Int32 → Bool → Int32 → gM → Option (Int32 × gM)
  | 0, _, _, _, _, _ => none
  | n + 1, x1, x2, x3, x4, M => (g_or 3 12 (M.2.2 0 4) (fun t8 => (if (M.1 t8 1) < x4 then (some (((-100) : Int32), M)) else (if x3 then (f_X9_edge_58 (f_X9_edge_34 n) x1 x2 x3 x4 (-x4) M) else (f_X9_edge_58 (f_X9_edge_34 n) x1 x2 x3 x4 x4 M)))))
set_option maxRecDepth 100000 in
set_option maxHeartbeats 4000000 in
theorem o_X9_edge_34 {X : gX} : ∀ (n : Nat) (x1 : Int32) (x2 : Int32) (x3 : Bool) (x4 : Int32) (M : gM), G Y1 jX9_edge X (g_fin g_ei) 34 [(0, .ref (ad X 0)), (1, .int x1), (2, .int x2), (3, .int (b2i x3)), (4, .int x4)] [] M (f_X9_edge_34 n x1 x2 x3 x4 M) := by
  intro n
  induction n with
  | zero => intro x1 x2 x3 x4 M; exact G_none
  | succ n ih =>
    intro x1 x2 x3 x4 M
    rw [f_X9_edge_34]
    refine G_iload 4 dX9_edge_34 rfl ?_
    refine G_aload_n 0 dX9_edge_36 rfl rfl ?_
    refine G_getO 4 clX9 (y1_0) fl_X9_31 dX9_edge_37 (by decide) rfl (by decide) (fun t8 ht8 => ?_)
    refine G_get 1 clX4 (ro_0 ht8) fl_X9_173 dX9_edge_40 (by decide) rfl rfl ?_
    refine G_icmp_gt (tgt := 90) dX9_edge_43 (by decide) ?_ ?_
    · refine G_bipush (v := (-100)) dX9_edge_90 (by decide) ?_
      exact G_iret rfl dX9_edge_92
    · refine G_iload_n 3 dX9_edge_46 rfl rfl ?_
      refine G_ifB_eq (tgt := 56) dX9_edge_47 (by decide) ?_ ?_
      · refine G_iload 4 dX9_edge_56 rfl ?_
        exact G_sub [0, 1, 2, 3, 4] rfl (o_X9_edge_58 ih x1 x2 x3 x4 x4 M)
      · refine G_iload 4 dX9_edge_50 rfl ?_
        refine G_ineg dX9_edge_52 ?_
        refine G_goto (tgt := 58) dX9_edge_53 (by decide) ?_
        exact G_sub [0, 1, 2, 3, 4] rfl (o_X9_edge_58 ih x1 x2 x3 x4 (-x4) M)
def f_X9_edge (a1 : Int32) (a2 : Int32) (a3 : Bool) (M : gM) : Option (Int32 × gM) := (g_or 3 12 (M.2.2 0 4) (fun t1 => (g_b (f_X4_number t1 a1 (0 : Int32) a2 M) (fun r3 M2 => (if r3 = ((-1) : Int32) then (some (((-100) : Int32), M2)) else (g_b (f_X5_findFates M2) (fun r5 M4 => (g_or 3 12 (M4.2.2 0 4) (fun t6 => (g_v (-(M4.1 t6 1)) (fun y7 => (f_X9_edge_34 FU a1 a2 a3 y7 M4))))))))))))
set_option maxRecDepth 100000 in
set_option maxHeartbeats 4000000 in
theorem ok_X9_edge (a1 : Int32) (a2 : Int32) (a3 : Bool) (M : gM) : g_met Y1 yX9_edge jX9_edge g_ei (fun Z => [.ref (Z.2.1 0), .int a1, .int a2, .int (b2i a3)]) M (f_X9_edge a1 a2 a3 M) := by
  refine g_enter (fun Z => [(0, .ref (Z.2.1 0)), (1, .int a1), (2, .int a2), (3, .int (b2i a3))]) (by decide) rfl (fun Z => Nat.le_of_ble_eq_true rfl) (fun Z => rfl) (fun X => ?_)
  rw [f_X9_edge]
  refine G_aload_n 0 dX9_edge_0 rfl rfl ?_
  refine G_getO 4 clX9 (y1_0) fl_X9_31 dX9_edge_1 (by decide) rfl (by decide) (fun t1 ht1 => ?_)
  refine G_iload_n 1 dX9_edge_4 rfl rfl ?_
  refine G_iconst (v := 0) dX9_edge_5 (by decide) ?_
  refine G_iload_n 2 dX9_edge_6 rfl rfl ?_
  refine G_cVi (As := [.int a1, .int 0, .int a2]) (rest := []) (ok_X4_number ht1 a1 (0 : Int32) a2 M) rfl (ro_0 ht1) rfl mv_X9_118 dX9_edge_7 rfl rfl (Nat.le_of_ble_eq_true rfl) (g_fitN (by decide) (by decide)) (fun r3 M2 => ?_)
  refine G_iconst (v := (-1)) dX9_edge_10 (by decide) ?_
  refine G_icmp_ne (tgt := 17) dX9_edge_11 (by decide) ?_ ?_
  · refine G_aload_n 0 dX9_edge_17 rfl rfl ?_
    refine G_get 8 clX9 (y1_0) fl_X9_54 dX9_edge_18 (by decide) rfl rfl ?_
    refine G_cVv (As := []) (rest := []) (ok_X5_findFates M2) rfl (y1_37) rfl mv_X9_146 dX9_edge_21 rfl rfl (Nat.le_of_ble_eq_true rfl) (g_fitN (by decide) (by decide)) (fun r5 M4 => ?_)
    refine G_aload_n 0 dX9_edge_24 rfl rfl ?_
    refine G_getO 4 clX9 (y1_0) fl_X9_31 dX9_edge_25 (by decide) rfl (by decide) (fun t6 ht6 => ?_)
    refine G_get 1 clX4 (ro_0 ht6) fl_X9_173 dX9_edge_28 (by decide) rfl rfl ?_
    refine G_ineg dX9_edge_31 ?_
    refine G_vi (fun y7 => ?_)
    refine G_istore (lv' := [(4, .int y7), (0, .ref (ad X 0)), (1, .int a1), (2, .int a2), (3, .int (b2i a3))]) dX9_edge_32 (by decide) rfl ?_
    exact G_sub [1, 2, 3, 4, 0] rfl (o_X9_edge_34 FU a1 a2 a3 y7 M4)
  · refine G_bipush (v := (-100)) dX9_edge_14 (by decide) ?_
    exact G_iret rfl dX9_edge_16
-- X9_doom
def f_X9_doom (M : gM) : Option (Int32 × gM) := (g_b (f_X5_findFates M) (fun r2 M1 => (g_b (f_X5_greatestDoom M1) (fun r4 M3 => (some (r4, M3))))))
set_option maxRecDepth 100000 in
set_option maxHeartbeats 4000000 in
theorem ok_X9_doom (M : gM) : g_met Y1 yX9_doom jX9_doom g_ei (fun Z => [.ref (Z.2.1 0)]) M (f_X9_doom M) := by
  refine g_enter (fun Z => [(0, .ref (Z.2.1 0))]) (by decide) rfl (fun Z => Nat.le_of_ble_eq_true rfl) (fun Z => rfl) (fun X => ?_)
  rw [f_X9_doom]
  refine G_aload_n 0 dX9_doom_0 rfl rfl ?_
  refine G_get 8 clX9 (y1_0) fl_X9_54 dX9_doom_1 (by decide) rfl rfl ?_
  refine G_cVv (As := []) (rest := []) (ok_X5_findFates M) rfl (y1_37) rfl mv_X9_146 dX9_doom_4 rfl rfl (Nat.le_of_ble_eq_true rfl) (g_fitN (by decide) (by decide)) (fun r2 M1 => ?_)
  refine G_aload_n 0 dX9_doom_7 rfl rfl ?_
  refine G_get 8 clX9 (y1_0) fl_X9_54 dX9_doom_8 (by decide) rfl rfl ?_
  refine G_cVi (As := []) (rest := []) (ok_X5_greatestDoom M1) rfl (y1_37) rfl mv_X9_179 dX9_doom_11 rfl rfl (Nat.le_of_ble_eq_true rfl) (g_fitN (by decide) (by decide)) (fun r4 M3 => ?_)
  exact G_iret rfl dX9_doom_14
-- X9_borne
def f_X9_borne (a1 : Int32) (M : gM) : Option (Int32 × gM) := (g_or 3 12 (M.2.2 0 4) (fun t1 => (g_b (f_X4_has t1 a1 M) (fun r3 M2 => (if r3 then (g_b (f_X5_findFates M2) (fun r5 M4 => (g_b (f_X5_bearing a1 M4) (fun r7 M6 => (some (r7, M6)))))) else (some (((-1) : Int32), M2)))))))
set_option maxRecDepth 100000 in
set_option maxHeartbeats 4000000 in
theorem ok_X9_borne (a1 : Int32) (M : gM) : g_met Y1 yX9_borne jX9_borne g_ei (fun Z => [.ref (Z.2.1 0), .int a1]) M (f_X9_borne a1 M) := by
  refine g_enter (fun Z => [(0, .ref (Z.2.1 0)), (1, .int a1)]) (by decide) rfl (fun Z => Nat.le_of_ble_eq_true rfl) (fun Z => rfl) (fun X => ?_)
  rw [f_X9_borne]
  refine G_aload_n 0 dX9_borne_0 rfl rfl ?_
  refine G_getO 4 clX9 (y1_0) fl_X9_31 dX9_borne_1 (by decide) rfl (by decide) (fun t1 ht1 => ?_)
  refine G_iload_n 1 dX9_borne_4 rfl rfl ?_
  refine G_cVb (As := [.int a1]) (rest := []) (ok_X4_has ht1 a1 M) rfl (ro_0 ht1) rfl mv_X9_122 dX9_borne_5 rfl rfl (Nat.le_of_ble_eq_true rfl) (g_fitN (by decide) (by decide)) (fun r3 M2 => ?_)
  refine G_ifB_ne (tgt := 13) dX9_borne_8 (by decide) ?_ ?_
  · refine G_aload_n 0 dX9_borne_13 rfl rfl ?_
    refine G_get 8 clX9 (y1_0) fl_X9_54 dX9_borne_14 (by decide) rfl rfl ?_
    refine G_cVv (As := []) (rest := []) (ok_X5_findFates M2) rfl (y1_37) rfl mv_X9_146 dX9_borne_17 rfl rfl (Nat.le_of_ble_eq_true rfl) (g_fitN (by decide) (by decide)) (fun r5 M4 => ?_)
    refine G_aload_n 0 dX9_borne_20 rfl rfl ?_
    refine G_get 8 clX9 (y1_0) fl_X9_54 dX9_borne_21 (by decide) rfl rfl ?_
    refine G_iload_n 1 dX9_borne_24 rfl rfl ?_
    refine G_cVi (As := [.int a1]) (rest := []) (ok_X5_bearing a1 M4) rfl (y1_37) rfl mv_X9_182 dX9_borne_25 rfl rfl (Nat.le_of_ble_eq_true rfl) (g_fitN (by decide) (by decide)) (fun r7 M6 => ?_)
    exact G_iret rfl dX9_borne_28
  · refine G_iconst (v := (-1)) dX9_borne_11 (by decide) ?_
    exact G_iret rfl dX9_borne_12
-- X9_poles
def f_X9_poles (a1 : Int32) (M : gM) : Option (Int32 × gM) := (g_or 3 12 (M.2.2 0 4) (fun t1 => (g_b (f_X4_has t1 a1 M) (fun r3 M2 => (if r3 then (g_b (f_X5_leastPole a1 M2) (fun r5 M4 => (some (r5, M4)))) else (some (((-1) : Int32), M2)))))))
set_option maxRecDepth 100000 in
set_option maxHeartbeats 4000000 in
theorem ok_X9_poles (a1 : Int32) (M : gM) : g_met Y1 yX9_poles jX9_poles g_ei (fun Z => [.ref (Z.2.1 0), .int a1]) M (f_X9_poles a1 M) := by
  refine g_enter (fun Z => [(0, .ref (Z.2.1 0)), (1, .int a1)]) (by decide) rfl (fun Z => Nat.le_of_ble_eq_true rfl) (fun Z => rfl) (fun X => ?_)
  rw [f_X9_poles]
  refine G_aload_n 0 dX9_poles_0 rfl rfl ?_
  refine G_getO 4 clX9 (y1_0) fl_X9_31 dX9_poles_1 (by decide) rfl (by decide) (fun t1 ht1 => ?_)
  refine G_iload_n 1 dX9_poles_4 rfl rfl ?_
  refine G_cVb (As := [.int a1]) (rest := []) (ok_X4_has ht1 a1 M) rfl (ro_0 ht1) rfl mv_X9_122 dX9_poles_5 rfl rfl (Nat.le_of_ble_eq_true rfl) (g_fitN (by decide) (by decide)) (fun r3 M2 => ?_)
  refine G_ifB_eq (tgt := 22) dX9_poles_8 (by decide) ?_ ?_
  · refine G_iconst (v := (-1)) dX9_poles_22 (by decide) ?_
    exact G_iret rfl dX9_poles_23
  · refine G_aload_n 0 dX9_poles_11 rfl rfl ?_
    refine G_get 8 clX9 (y1_0) fl_X9_54 dX9_poles_12 (by decide) rfl rfl ?_
    refine G_iload_n 1 dX9_poles_15 rfl rfl ?_
    refine G_cVi (As := [.int a1]) (rest := []) (ok_X5_leastPole a1 M2) rfl (y1_37) rfl mv_X9_185 dX9_poles_16 rfl rfl (Nat.le_of_ble_eq_true rfl) (g_fitN (by decide) (by decide)) (fun r5 M4 => ?_)
    refine G_goto (tgt := 23) dX9_poles_19 (by decide) ?_
    exact G_iret rfl dX9_poles_23
-- X9_forecast
def f_X9_forecast (a1 : Int32) (M : gM) : Option (Int32 × gM) := (g_b (f_X9_isForecast a1 M) (fun r2 M1 => (if r2 then (g_b (f_X6_addForecast a1 M1) (fun r4 M3 => (some (r4, M3)))) else (some (((-1) : Int32), M1)))))
set_option maxRecDepth 100000 in
set_option maxHeartbeats 4000000 in
theorem ok_X9_forecast (a1 : Int32) (M : gM) : g_met Y1 yX9_forecast jX9_forecast g_ei (fun Z => [.ref (Z.2.1 0), .int a1]) M (f_X9_forecast a1 M) := by
  refine g_enter (fun Z => [(0, .ref (Z.2.1 0)), (1, .int a1)]) (by decide) rfl (fun Z => Nat.le_of_ble_eq_true rfl) (fun Z => rfl) (fun X => ?_)
  rw [f_X9_forecast]
  refine G_iload_n 1 dX9_forecast_0 rfl rfl ?_
  refine G_cSb (As := [.int a1]) (rest := []) (ok_X9_isForecast a1 M) rfl ms_X9_140 dX9_forecast_1 rfl rfl (Nat.le_of_ble_eq_true rfl) (g_fitN (by decide) (by decide)) (fun r2 M1 => ?_)
  refine G_ifB_eq (tgt := 18) dX9_forecast_4 (by decide) ?_ ?_
  · refine G_iconst (v := (-1)) dX9_forecast_18 (by decide) ?_
    exact G_iret rfl dX9_forecast_19
  · refine G_aload_n 0 dX9_forecast_7 rfl rfl ?_
    refine G_get 10 clX9 (y1_0) fl_X9_68 dX9_forecast_8 (by decide) rfl rfl ?_
    refine G_iload_n 1 dX9_forecast_11 rfl rfl ?_
    refine G_cVi (As := [.int a1]) (rest := []) (ok_X6_addForecast a1 M1) rfl (y1_57) rfl mv_X9_188 dX9_forecast_12 rfl rfl (Nat.le_of_ble_eq_true rfl) (g_fitN (by decide) (by decide)) (fun r4 M3 => ?_)
    refine G_goto (tgt := 19) dX9_forecast_15 (by decide) ?_
    exact G_iret rfl dX9_forecast_19
-- X9_clear
def f_X9_clear (M : gM) : Option (Unit × gM) := (g_b (f_X6_dropForecasts M) (fun r2 M1 => (some ((), M1))))
set_option maxRecDepth 100000 in
set_option maxHeartbeats 4000000 in
theorem ok_X9_clear (M : gM) : g_met Y1 yX9_clear jX9_clear g_ev (fun Z => [.ref (Z.2.1 0)]) M (f_X9_clear M) := by
  refine g_enter (fun Z => [(0, .ref (Z.2.1 0))]) (by decide) rfl (fun Z => Nat.le_of_ble_eq_true rfl) (fun Z => rfl) (fun X => ?_)
  rw [f_X9_clear]
  refine G_aload_n 0 dX9_clear_0 rfl rfl ?_
  refine G_get 10 clX9 (y1_0) fl_X9_68 dX9_clear_1 (by decide) rfl rfl ?_
  refine G_cVv (As := []) (rest := []) (ok_X6_dropForecasts M) rfl (y1_57) rfl mv_X9_93 dX9_clear_4 rfl rfl (Nat.le_of_ble_eq_true rfl) (g_fitN (by decide) (by decide)) (fun r2 M1 => ?_)
  exact G_vret rfl dX9_clear_7
-- X9_known
def f_X9_known (a1 : Int32) (M : gM) : Option (Int32 × gM) := (g_or 3 12 (M.2.2 0 4) (fun t1 => (g_b (f_X4_has t1 a1 M) (fun r3 M2 => (if r3 then (g_b (f_X6_plan a1 M2) (fun r5 M4 => (some ((M4.1 57 3), M4)))) else (some (((-1) : Int32), M2)))))))
set_option maxRecDepth 100000 in
set_option maxHeartbeats 4000000 in
theorem ok_X9_known (a1 : Int32) (M : gM) : g_met Y1 yX9_known jX9_known g_ei (fun Z => [.ref (Z.2.1 0), .int a1]) M (f_X9_known a1 M) := by
  refine g_enter (fun Z => [(0, .ref (Z.2.1 0)), (1, .int a1)]) (by decide) rfl (fun Z => Nat.le_of_ble_eq_true rfl) (fun Z => rfl) (fun X => ?_)
  rw [f_X9_known]
  refine G_aload_n 0 dX9_known_0 rfl rfl ?_
  refine G_getO 4 clX9 (y1_0) fl_X9_31 dX9_known_1 (by decide) rfl (by decide) (fun t1 ht1 => ?_)
  refine G_iload_n 1 dX9_known_4 rfl rfl ?_
  refine G_cVb (As := [.int a1]) (rest := []) (ok_X4_has ht1 a1 M) rfl (ro_0 ht1) rfl mv_X9_122 dX9_known_5 rfl rfl (Nat.le_of_ble_eq_true rfl) (g_fitN (by decide) (by decide)) (fun r3 M2 => ?_)
  refine G_ifB_ne (tgt := 13) dX9_known_8 (by decide) ?_ ?_
  · refine G_aload_n 0 dX9_known_13 rfl rfl ?_
    refine G_get 10 clX9 (y1_0) fl_X9_68 dX9_known_14 (by decide) rfl rfl ?_
    refine G_iload_n 1 dX9_known_17 rfl rfl ?_
    refine G_cVv (As := [.int a1]) (rest := []) (ok_X6_plan a1 M2) rfl (y1_57) rfl mv_X9_191 dX9_known_18 rfl rfl (Nat.le_of_ble_eq_true rfl) (g_fitN (by decide) (by decide)) (fun r5 M4 => ?_)
    refine G_aload_n 0 dX9_known_21 rfl rfl ?_
    refine G_get 10 clX9 (y1_0) fl_X9_68 dX9_known_22 (by decide) rfl rfl ?_
    refine G_get 3 clX6 (y1_57) fl_X9_194 dX9_known_25 (by decide) rfl rfl ?_
    exact G_iret rfl dX9_known_28
  · refine G_iconst (v := (-1)) dX9_known_11 (by decide) ?_
    exact G_iret rfl dX9_known_12
-- X9_knownAct
def f_X9_knownAct (a1 : Int32) (a2 : Int32) (M : gM) : Option (Int32 × gM) := (g_or 3 12 (M.2.2 0 4) (fun t1 => (g_b (f_X4_has t1 a1 M) (fun r3 M2 => (if r3 then (g_b (f_X6_plan a1 M2) (fun r5 M4 => (g_b (f_X6_plannedAct a2 M4) (fun r7 M6 => (some (r7, M6)))))) else (some (((-1) : Int32), M2)))))))
set_option maxRecDepth 100000 in
set_option maxHeartbeats 4000000 in
theorem ok_X9_knownAct (a1 : Int32) (a2 : Int32) (M : gM) : g_met Y1 yX9_knownAct jX9_knownAct g_ei (fun Z => [.ref (Z.2.1 0), .int a1, .int a2]) M (f_X9_knownAct a1 a2 M) := by
  refine g_enter (fun Z => [(0, .ref (Z.2.1 0)), (1, .int a1), (2, .int a2)]) (by decide) rfl (fun Z => Nat.le_of_ble_eq_true rfl) (fun Z => rfl) (fun X => ?_)
  rw [f_X9_knownAct]
  refine G_aload_n 0 dX9_knownAct_0 rfl rfl ?_
  refine G_getO 4 clX9 (y1_0) fl_X9_31 dX9_knownAct_1 (by decide) rfl (by decide) (fun t1 ht1 => ?_)
  refine G_iload_n 1 dX9_knownAct_4 rfl rfl ?_
  refine G_cVb (As := [.int a1]) (rest := []) (ok_X4_has ht1 a1 M) rfl (ro_0 ht1) rfl mv_X9_122 dX9_knownAct_5 rfl rfl (Nat.le_of_ble_eq_true rfl) (g_fitN (by decide) (by decide)) (fun r3 M2 => ?_)
  refine G_ifB_ne (tgt := 13) dX9_knownAct_8 (by decide) ?_ ?_
  · refine G_aload_n 0 dX9_knownAct_13 rfl rfl ?_
    refine G_get 10 clX9 (y1_0) fl_X9_68 dX9_knownAct_14 (by decide) rfl rfl ?_
    refine G_iload_n 1 dX9_knownAct_17 rfl rfl ?_
    refine G_cVv (As := [.int a1]) (rest := []) (ok_X6_plan a1 M2) rfl (y1_57) rfl mv_X9_191 dX9_knownAct_18 rfl rfl (Nat.le_of_ble_eq_true rfl) (g_fitN (by decide) (by decide)) (fun r5 M4 => ?_)
    refine G_aload_n 0 dX9_knownAct_21 rfl rfl ?_
    refine G_get 10 clX9 (y1_0) fl_X9_68 dX9_knownAct_22 (by decide) rfl rfl ?_
    refine G_iload_n 2 dX9_knownAct_25 rfl rfl ?_
    refine G_cVi (As := [.int a2]) (rest := []) (ok_X6_plannedAct a2 M4) rfl (y1_57) rfl mv_X9_197 dX9_knownAct_26 rfl rfl (Nat.le_of_ble_eq_true rfl) (g_fitN (by decide) (by decide)) (fun r7 M6 => ?_)
    exact G_iret rfl dX9_knownAct_29
  · refine G_iconst (v := (-1)) dX9_knownAct_11 (by decide) ?_
    exact G_iret rfl dX9_knownAct_12
-- X9_blind
def f_X9_blind (a1 : Int32) (a2 : Int32) (M : gM) : Option (Int32 × gM) := (g_or 3 12 (M.2.2 0 4) (fun t1 => (g_b (f_X4_has t1 a1 M) (fun r3 M2 => (if r3 then (if a2 < (1 : Int32) then (some (((-1) : Int32), M2)) else (if a2 ≤ (4 : Int32) then (g_b (f_X6_blindRows a1 a2 false M2) (fun r5 M4 => (some (r5, M4)))) else (some (((-1) : Int32), M2)))) else (some (((-1) : Int32), M2)))))))
set_option maxRecDepth 100000 in
set_option maxHeartbeats 4000000 in
theorem ok_X9_blind (a1 : Int32) (a2 : Int32) (M : gM) : g_met Y1 yX9_blind jX9_blind g_ei (fun Z => [.ref (Z.2.1 0), .int a1, .int a2]) M (f_X9_blind a1 a2 M) := by
  refine g_enter (fun Z => [(0, .ref (Z.2.1 0)), (1, .int a1), (2, .int a2)]) (by decide) rfl (fun Z => Nat.le_of_ble_eq_true rfl) (fun Z => rfl) (fun X => ?_)
  rw [f_X9_blind]
  refine G_aload_n 0 dX9_blind_0 rfl rfl ?_
  refine G_getO 4 clX9 (y1_0) fl_X9_31 dX9_blind_1 (by decide) rfl (by decide) (fun t1 ht1 => ?_)
  refine G_iload_n 1 dX9_blind_4 rfl rfl ?_
  refine G_cVb (As := [.int a1]) (rest := []) (ok_X4_has ht1 a1 M) rfl (ro_0 ht1) rfl mv_X9_122 dX9_blind_5 rfl rfl (Nat.le_of_ble_eq_true rfl) (g_fitN (by decide) (by decide)) (fun r3 M2 => ?_)
  refine G_ifB_eq (tgt := 21) dX9_blind_8 (by decide) ?_ ?_
  · refine G_iconst (v := (-1)) dX9_blind_21 (by decide) ?_
    exact G_iret rfl dX9_blind_22
  · refine G_iload_n 2 dX9_blind_11 rfl rfl ?_
    refine G_iconst (v := 1) dX9_blind_12 (by decide) ?_
    refine G_icmp_lt (tgt := 21) dX9_blind_13 (by decide) ?_ ?_
    · refine G_iconst (v := (-1)) dX9_blind_21 (by decide) ?_
      exact G_iret rfl dX9_blind_22
    · refine G_iload_n 2 dX9_blind_16 rfl rfl ?_
      refine G_iconst (v := 4) dX9_blind_17 (by decide) ?_
      refine G_icmp_le (tgt := 23) dX9_blind_18 (by decide) ?_ ?_
      · refine G_aload_n 0 dX9_blind_23 rfl rfl ?_
        refine G_get 10 clX9 (y1_0) fl_X9_68 dX9_blind_24 (by decide) rfl rfl ?_
        refine G_iload_n 1 dX9_blind_27 rfl rfl ?_
        refine G_iload_n 2 dX9_blind_28 rfl rfl ?_
        refine G_iconst (v := 0) dX9_blind_29 (by decide) ?_
        refine G_cVi (As := [.int a1, .int a2, .int 0]) (rest := []) (ok_X6_blindRows a1 a2 false M2) rfl (y1_57) rfl mv_X9_200 dX9_blind_30 rfl rfl (Nat.le_of_ble_eq_true rfl) (g_fitN (by decide) (by decide)) (fun r5 M4 => ?_)
        exact G_iret rfl dX9_blind_33
      · refine G_iconst (v := (-1)) dX9_blind_21 (by decide) ?_
        exact G_iret rfl dX9_blind_22
-- X9_blindAct
def f_X9_blindAct (a1 : Int32) (a2 : Int32) (a3 : Int32) (M : gM) : Option (Int32 × gM) := (g_or 3 12 (M.2.2 0 4) (fun t1 => (g_b (f_X4_has t1 a1 M) (fun r3 M2 => (if r3 then (if a2 < (1 : Int32) then (some (((-1) : Int32), M2)) else (if (4 : Int32) < a2 then (some (((-1) : Int32), M2)) else (if a3 < 0 then (some (((-1) : Int32), M2)) else (if a3 < a2 then (g_b (f_X6_blindRows a1 a2 true M2) (fun r5 M4 => (if r5 ≤ 0 then (some (((-1) : Int32), M4)) else (g_ck a3 4 (some ((M4.1 62 (tn a3)), M4)))))) else (some (((-1) : Int32), M2)))))) else (some (((-1) : Int32), M2)))))))
set_option maxRecDepth 100000 in
set_option maxHeartbeats 4000000 in
theorem ok_X9_blindAct (a1 : Int32) (a2 : Int32) (a3 : Int32) (M : gM) : g_met Y1 yX9_blindAct jX9_blindAct g_ei (fun Z => [.ref (Z.2.1 0), .int a1, .int a2, .int a3]) M (f_X9_blindAct a1 a2 a3 M) := by
  refine g_enter (fun Z => [(0, .ref (Z.2.1 0)), (1, .int a1), (2, .int a2), (3, .int a3)]) (by decide) rfl (fun Z => Nat.le_of_ble_eq_true rfl) (fun Z => rfl) (fun X => ?_)
  rw [f_X9_blindAct]
  refine G_aload_n 0 dX9_blindAct_0 rfl rfl ?_
  refine G_getO 4 clX9 (y1_0) fl_X9_31 dX9_blindAct_1 (by decide) rfl (by decide) (fun t1 ht1 => ?_)
  refine G_iload_n 1 dX9_blindAct_4 rfl rfl ?_
  refine G_cVb (As := [.int a1]) (rest := []) (ok_X4_has ht1 a1 M) rfl (ro_0 ht1) rfl mv_X9_122 dX9_blindAct_5 rfl rfl (Nat.le_of_ble_eq_true rfl) (g_fitN (by decide) (by decide)) (fun r3 M2 => ?_)
  refine G_ifB_eq (tgt := 30) dX9_blindAct_8 (by decide) ?_ ?_
  · refine G_iconst (v := (-1)) dX9_blindAct_30 (by decide) ?_
    exact G_iret rfl dX9_blindAct_31
  · refine G_iload_n 2 dX9_blindAct_11 rfl rfl ?_
    refine G_iconst (v := 1) dX9_blindAct_12 (by decide) ?_
    refine G_icmp_lt (tgt := 30) dX9_blindAct_13 (by decide) ?_ ?_
    · refine G_iconst (v := (-1)) dX9_blindAct_30 (by decide) ?_
      exact G_iret rfl dX9_blindAct_31
    · refine G_iload_n 2 dX9_blindAct_16 rfl rfl ?_
      refine G_iconst (v := 4) dX9_blindAct_17 (by decide) ?_
      refine G_icmp_gt (tgt := 30) dX9_blindAct_18 (by decide) ?_ ?_
      · refine G_iconst (v := (-1)) dX9_blindAct_30 (by decide) ?_
        exact G_iret rfl dX9_blindAct_31
      · refine G_iload_n 3 dX9_blindAct_21 rfl rfl ?_
        refine G_if_lt (tgt := 30) dX9_blindAct_22 (by decide) ?_ ?_
        · refine G_iconst (v := (-1)) dX9_blindAct_30 (by decide) ?_
          exact G_iret rfl dX9_blindAct_31
        · refine G_iload_n 3 dX9_blindAct_25 rfl rfl ?_
          refine G_iload_n 2 dX9_blindAct_26 rfl rfl ?_
          refine G_icmp_lt (tgt := 32) dX9_blindAct_27 (by decide) ?_ ?_
          · refine G_aload_n 0 dX9_blindAct_32 rfl rfl ?_
            refine G_get 10 clX9 (y1_0) fl_X9_68 dX9_blindAct_33 (by decide) rfl rfl ?_
            refine G_iload_n 1 dX9_blindAct_36 rfl rfl ?_
            refine G_iload_n 2 dX9_blindAct_37 rfl rfl ?_
            refine G_iconst (v := 1) dX9_blindAct_38 (by decide) ?_
            refine G_cVi (As := [.int a1, .int a2, .int 1]) (rest := []) (ok_X6_blindRows a1 a2 true M2) rfl (y1_57) rfl mv_X9_200 dX9_blindAct_39 rfl rfl (Nat.le_of_ble_eq_true rfl) (g_fitN (by decide) (by decide)) (fun r5 M4 => ?_)
            refine G_if_le (tgt := 57) dX9_blindAct_42 (by decide) ?_ ?_
            · refine G_iconst (v := (-1)) dX9_blindAct_57 (by decide) ?_
              exact G_iret rfl dX9_blindAct_58
            · refine G_aload_n 0 dX9_blindAct_45 rfl rfl ?_
              refine G_get 10 clX9 (y1_0) fl_X9_68 dX9_blindAct_46 (by decide) rfl rfl ?_
              refine G_get 8 clX6 (y1_57) fl_X9_204 dX9_blindAct_49 (by decide) rfl rfl ?_
              refine G_iload_n 3 dX9_blindAct_52 rfl rfl ?_
              refine G_iald (y1_62) dX9_blindAct_53 ?_
              refine G_goto (tgt := 58) dX9_blindAct_54 (by decide) ?_
              exact G_iret rfl dX9_blindAct_58
          · refine G_iconst (v := (-1)) dX9_blindAct_30 (by decide) ?_
            exact G_iret rfl dX9_blindAct_31
-- X9_reflex
def f_X9_reflex (a1 : Int32) (M : gM) : Option (Int32 × gM) := (g_or 3 12 (M.2.2 0 4) (fun t1 => (g_b (f_X4_has t1 a1 M) (fun r3 M2 => (if r3 then (g_b (f_X3_actIn a1 M2) (fun r5 M4 => (some (r5, M4)))) else (some (((-1) : Int32), M2)))))))
set_option maxRecDepth 100000 in
set_option maxHeartbeats 4000000 in
theorem ok_X9_reflex (a1 : Int32) (M : gM) : g_met Y1 yX9_reflex jX9_reflex g_ei (fun Z => [.ref (Z.2.1 0), .int a1]) M (f_X9_reflex a1 M) := by
  refine g_enter (fun Z => [(0, .ref (Z.2.1 0)), (1, .int a1)]) (by decide) rfl (fun Z => Nat.le_of_ble_eq_true rfl) (fun Z => rfl) (fun X => ?_)
  rw [f_X9_reflex]
  refine G_aload_n 0 dX9_reflex_0 rfl rfl ?_
  refine G_getO 4 clX9 (y1_0) fl_X9_31 dX9_reflex_1 (by decide) rfl (by decide) (fun t1 ht1 => ?_)
  refine G_iload_n 1 dX9_reflex_4 rfl rfl ?_
  refine G_cVb (As := [.int a1]) (rest := []) (ok_X4_has ht1 a1 M) rfl (ro_0 ht1) rfl mv_X9_122 dX9_reflex_5 rfl rfl (Nat.le_of_ble_eq_true rfl) (g_fitN (by decide) (by decide)) (fun r3 M2 => ?_)
  refine G_ifB_eq (tgt := 22) dX9_reflex_8 (by decide) ?_ ?_
  · refine G_iconst (v := (-1)) dX9_reflex_22 (by decide) ?_
    exact G_iret rfl dX9_reflex_23
  · refine G_aload_n 0 dX9_reflex_11 rfl rfl ?_
    refine G_get 9 clX9 (y1_0) fl_X9_61 dX9_reflex_12 (by decide) rfl rfl ?_
    refine G_iload_n 1 dX9_reflex_15 rfl rfl ?_
    refine G_cVi (As := [.int a1]) (rest := []) (ok_X3_actIn a1 M2) rfl (y1_47) rfl mv_X9_207 dX9_reflex_16 rfl rfl (Nat.le_of_ble_eq_true rfl) (g_fitN (by decide) (by decide)) (fun r5 M4 => ?_)
    refine G_goto (tgt := 23) dX9_reflex_19 (by decide) ?_
    exact G_iret rfl dX9_reflex_23
-- X9_proof
def f_X9_proof (a1 : Int32) (M : gM) : Option (Int32 × gM) := (g_or 3 12 (M.2.2 0 4) (fun t1 => (g_b (f_X4_has t1 a1 M) (fun r3 M2 => (if r3 then (g_b (f_X3_explore a1 M2) (fun r5 M4 => (g_b (f_X3_beatsToFall M4) (fun r7 M6 => (some (r7, M6)))))) else (some (((-1) : Int32), M2)))))))
set_option maxRecDepth 100000 in
set_option maxHeartbeats 4000000 in
theorem ok_X9_proof (a1 : Int32) (M : gM) : g_met Y1 yX9_proof jX9_proof g_ei (fun Z => [.ref (Z.2.1 0), .int a1]) M (f_X9_proof a1 M) := by
  refine g_enter (fun Z => [(0, .ref (Z.2.1 0)), (1, .int a1)]) (by decide) rfl (fun Z => Nat.le_of_ble_eq_true rfl) (fun Z => rfl) (fun X => ?_)
  rw [f_X9_proof]
  refine G_aload_n 0 dX9_proof_0 rfl rfl ?_
  refine G_getO 4 clX9 (y1_0) fl_X9_31 dX9_proof_1 (by decide) rfl (by decide) (fun t1 ht1 => ?_)
  refine G_iload_n 1 dX9_proof_4 rfl rfl ?_
  refine G_cVb (As := [.int a1]) (rest := []) (ok_X4_has ht1 a1 M) rfl (ro_0 ht1) rfl mv_X9_122 dX9_proof_5 rfl rfl (Nat.le_of_ble_eq_true rfl) (g_fitN (by decide) (by decide)) (fun r3 M2 => ?_)
  refine G_ifB_ne (tgt := 13) dX9_proof_8 (by decide) ?_ ?_
  · refine G_aload_n 0 dX9_proof_13 rfl rfl ?_
    refine G_get 9 clX9 (y1_0) fl_X9_61 dX9_proof_14 (by decide) rfl rfl ?_
    refine G_iload_n 1 dX9_proof_17 rfl rfl ?_
    refine G_cVv (As := [.int a1]) (rest := []) (ok_X3_explore a1 M2) rfl (y1_47) rfl mv_X9_210 dX9_proof_18 rfl rfl (Nat.le_of_ble_eq_true rfl) (g_fitN (by decide) (by decide)) (fun r5 M4 => ?_)
    refine G_aload_n 0 dX9_proof_21 rfl rfl ?_
    refine G_get 9 clX9 (y1_0) fl_X9_61 dX9_proof_22 (by decide) rfl rfl ?_
    refine G_cVi (As := []) (rest := []) (ok_X3_beatsToFall M4) rfl (y1_47) rfl mv_X9_213 dX9_proof_25 rfl rfl (Nat.le_of_ble_eq_true rfl) (g_fitN (by decide) (by decide)) (fun r7 M6 => ?_)
    exact G_iret rfl dX9_proof_28
  · refine G_iconst (v := (-1)) dX9_proof_11 (by decide) ?_
    exact G_iret rfl dX9_proof_12
-- X9_witness
def f_X9_witness (a1 : Int32) (a2 : Int32) (M : gM) : Option (Int32 × gM) := (g_or 3 12 (M.2.2 0 4) (fun t1 => (g_b (f_X4_has t1 a1 M) (fun r3 M2 => (if r3 then (g_b (f_X3_explore a1 M2) (fun r5 M4 => (g_b (f_X3_witnessGust a2 M4) (fun r7 M6 => (some (r7, M6)))))) else (some (((-100) : Int32), M2)))))))
set_option maxRecDepth 100000 in
set_option maxHeartbeats 4000000 in
theorem ok_X9_witness (a1 : Int32) (a2 : Int32) (M : gM) : g_met Y1 yX9_witness jX9_witness g_ei (fun Z => [.ref (Z.2.1 0), .int a1, .int a2]) M (f_X9_witness a1 a2 M) := by
  refine g_enter (fun Z => [(0, .ref (Z.2.1 0)), (1, .int a1), (2, .int a2)]) (by decide) rfl (fun Z => Nat.le_of_ble_eq_true rfl) (fun Z => rfl) (fun X => ?_)
  rw [f_X9_witness]
  refine G_aload_n 0 dX9_witness_0 rfl rfl ?_
  refine G_getO 4 clX9 (y1_0) fl_X9_31 dX9_witness_1 (by decide) rfl (by decide) (fun t1 ht1 => ?_)
  refine G_iload_n 1 dX9_witness_4 rfl rfl ?_
  refine G_cVb (As := [.int a1]) (rest := []) (ok_X4_has ht1 a1 M) rfl (ro_0 ht1) rfl mv_X9_122 dX9_witness_5 rfl rfl (Nat.le_of_ble_eq_true rfl) (g_fitN (by decide) (by decide)) (fun r3 M2 => ?_)
  refine G_ifB_ne (tgt := 14) dX9_witness_8 (by decide) ?_ ?_
  · refine G_aload_n 0 dX9_witness_14 rfl rfl ?_
    refine G_get 9 clX9 (y1_0) fl_X9_61 dX9_witness_15 (by decide) rfl rfl ?_
    refine G_iload_n 1 dX9_witness_18 rfl rfl ?_
    refine G_cVv (As := [.int a1]) (rest := []) (ok_X3_explore a1 M2) rfl (y1_47) rfl mv_X9_210 dX9_witness_19 rfl rfl (Nat.le_of_ble_eq_true rfl) (g_fitN (by decide) (by decide)) (fun r5 M4 => ?_)
    refine G_aload_n 0 dX9_witness_22 rfl rfl ?_
    refine G_get 9 clX9 (y1_0) fl_X9_61 dX9_witness_23 (by decide) rfl rfl ?_
    refine G_iload_n 2 dX9_witness_26 rfl rfl ?_
    refine G_cVi (As := [.int a2]) (rest := []) (ok_X3_witnessGust a2 M4) rfl (y1_47) rfl mv_X9_216 dX9_witness_27 rfl rfl (Nat.le_of_ble_eq_true rfl) (g_fitN (by decide) (by decide)) (fun r7 M6 => ?_)
    exact G_iret rfl dX9_witness_30
  · refine G_bipush (v := (-100)) dX9_witness_11 (by decide) ?_
    exact G_iret rfl dX9_witness_13
-- X9_arrives
def f_X9_arrives (a1 : Int32) (M : gM) : Option (Int32 × gM) := (g_or 3 12 (M.2.2 0 4) (fun t1 => (g_b (f_X4_has t1 a1 M) (fun r3 M2 => (if r3 then (g_b (f_X3_explore a1 M2) (fun r5 M4 => (g_b (f_X3_longestWay a1 M4) (fun r7 M6 => (some (r7, M6)))))) else (some (((-1) : Int32), M2)))))))
set_option maxRecDepth 100000 in
set_option maxHeartbeats 4000000 in
theorem ok_X9_arrives (a1 : Int32) (M : gM) : g_met Y1 yX9_arrives jX9_arrives g_ei (fun Z => [.ref (Z.2.1 0), .int a1]) M (f_X9_arrives a1 M) := by
  refine g_enter (fun Z => [(0, .ref (Z.2.1 0)), (1, .int a1)]) (by decide) rfl (fun Z => Nat.le_of_ble_eq_true rfl) (fun Z => rfl) (fun X => ?_)
  rw [f_X9_arrives]
  refine G_aload_n 0 dX9_arrives_0 rfl rfl ?_
  refine G_getO 4 clX9 (y1_0) fl_X9_31 dX9_arrives_1 (by decide) rfl (by decide) (fun t1 ht1 => ?_)
  refine G_iload_n 1 dX9_arrives_4 rfl rfl ?_
  refine G_cVb (As := [.int a1]) (rest := []) (ok_X4_has ht1 a1 M) rfl (ro_0 ht1) rfl mv_X9_122 dX9_arrives_5 rfl rfl (Nat.le_of_ble_eq_true rfl) (g_fitN (by decide) (by decide)) (fun r3 M2 => ?_)
  refine G_ifB_ne (tgt := 13) dX9_arrives_8 (by decide) ?_ ?_
  · refine G_aload_n 0 dX9_arrives_13 rfl rfl ?_
    refine G_get 9 clX9 (y1_0) fl_X9_61 dX9_arrives_14 (by decide) rfl rfl ?_
    refine G_iload_n 1 dX9_arrives_17 rfl rfl ?_
    refine G_cVv (As := [.int a1]) (rest := []) (ok_X3_explore a1 M2) rfl (y1_47) rfl mv_X9_210 dX9_arrives_18 rfl rfl (Nat.le_of_ble_eq_true rfl) (g_fitN (by decide) (by decide)) (fun r5 M4 => ?_)
    refine G_aload_n 0 dX9_arrives_21 rfl rfl ?_
    refine G_get 9 clX9 (y1_0) fl_X9_61 dX9_arrives_22 (by decide) rfl rfl ?_
    refine G_iload_n 1 dX9_arrives_25 rfl rfl ?_
    refine G_cVi (As := [.int a1]) (rest := []) (ok_X3_longestWay a1 M4) rfl (y1_47) rfl mv_X9_219 dX9_arrives_26 rfl rfl (Nat.le_of_ble_eq_true rfl) (g_fitN (by decide) (by decide)) (fun r7 M6 => ?_)
    exact G_iret rfl dX9_arrives_29
  · refine G_iconst (v := (-1)) dX9_arrives_11 (by decide) ?_
    exact G_iret rfl dX9_arrives_12
-- X9_odds
def f_X9_odds (a1 : Int32) (a2 : Int32) (a3 : Int32) (M : gM) : Option (Int64 × gM) := (g_or 3 12 (M.2.2 0 4) (fun t1 => (g_b (f_X4_has t1 a1 M) (fun r3 M2 => (if r3 then (if a2 < 0 then (some (((-1) : Int64), M2)) else (if (12 : Int32) < a2 then (some (((-1) : Int64), M2)) else (if a3 < 0 then (some (((-1) : Int64), M2)) else (if a3 ≤ (2 : Int32) then (g_b (f_X3_countRows a1 a2 a3 M2) (fun r5 M4 => (some (r5, M4)))) else (some (((-1) : Int64), M2)))))) else (some (((-1) : Int64), M2)))))))
set_option maxRecDepth 100000 in
set_option maxHeartbeats 4000000 in
theorem ok_X9_odds (a1 : Int32) (a2 : Int32) (a3 : Int32) (M : gM) : g_met Y1 yX9_odds jX9_odds g_el (fun Z => [.ref (Z.2.1 0), .int a1, .int a2, .int a3]) M (f_X9_odds a1 a2 a3 M) := by
  refine g_enter (fun Z => [(0, .ref (Z.2.1 0)), (1, .int a1), (2, .int a2), (3, .int a3)]) (by decide) rfl (fun Z => Nat.le_of_ble_eq_true rfl) (fun Z => rfl) (fun X => ?_)
  rw [f_X9_odds]
  refine G_aload_n 0 dX9_odds_0 rfl rfl ?_
  refine G_getO 4 clX9 (y1_0) fl_X9_31 dX9_odds_1 (by decide) rfl (by decide) (fun t1 ht1 => ?_)
  refine G_iload_n 1 dX9_odds_4 rfl rfl ?_
  refine G_cVb (As := [.int a1]) (rest := []) (ok_X4_has ht1 a1 M) rfl (ro_0 ht1) rfl mv_X9_122 dX9_odds_5 rfl rfl (Nat.le_of_ble_eq_true rfl) (g_fitN (by decide) (by decide)) (fun r3 M2 => ?_)
  refine G_ifB_eq (tgt := 30) dX9_odds_8 (by decide) ?_ ?_
  · refine G_ldc2 (v := (-1)) cl_X9_222 dX9_odds_30 ?_
    exact G_lret rfl dX9_odds_33
  · refine G_iload_n 2 dX9_odds_11 rfl rfl ?_
    refine G_if_lt (tgt := 30) dX9_odds_12 (by decide) ?_ ?_
    · refine G_ldc2 (v := (-1)) cl_X9_222 dX9_odds_30 ?_
      exact G_lret rfl dX9_odds_33
    · refine G_iload_n 2 dX9_odds_15 rfl rfl ?_
      refine G_bipush (v := 12) dX9_odds_16 (by decide) ?_
      refine G_icmp_gt (tgt := 30) dX9_odds_18 (by decide) ?_ ?_
      · refine G_ldc2 (v := (-1)) cl_X9_222 dX9_odds_30 ?_
        exact G_lret rfl dX9_odds_33
      · refine G_iload_n 3 dX9_odds_21 rfl rfl ?_
        refine G_if_lt (tgt := 30) dX9_odds_22 (by decide) ?_ ?_
        · refine G_ldc2 (v := (-1)) cl_X9_222 dX9_odds_30 ?_
          exact G_lret rfl dX9_odds_33
        · refine G_iload_n 3 dX9_odds_25 rfl rfl ?_
          refine G_iconst (v := 2) dX9_odds_26 (by decide) ?_
          refine G_icmp_le (tgt := 34) dX9_odds_27 (by decide) ?_ ?_
          · refine G_aload_n 0 dX9_odds_34 rfl rfl ?_
            refine G_get 9 clX9 (y1_0) fl_X9_61 dX9_odds_35 (by decide) rfl rfl ?_
            refine G_iload_n 1 dX9_odds_38 rfl rfl ?_
            refine G_iload_n 2 dX9_odds_39 rfl rfl ?_
            refine G_iload_n 3 dX9_odds_40 rfl rfl ?_
            refine G_cVl (As := [.int a1, .int a2, .int a3]) (rest := []) (ok_X3_countRows a1 a2 a3 M2) rfl (y1_47) rfl mv_X9_224 dX9_odds_41 rfl rfl (Nat.le_of_ble_eq_true rfl) (g_fitN (by decide) (by decide)) (fun r5 M4 => ?_)
            exact G_lret rfl dX9_odds_44
          · refine G_ldc2 (v := (-1)) cl_X9_222 dX9_odds_30 ?_
            exact G_lret rfl dX9_odds_33
-- X9_learn
def f_X9_learn (a1 : Int32) (M : gM) : Option (Int32 × gM) := (g_or 3 12 (M.2.2 0 4) (fun t1 => (g_b (f_X4_has t1 a1 M) (fun r3 M2 => (if r3 then (g_b (f_X5_findFates M2) (fun r5 M4 => (g_b (f_X3_learnFrom a1 M4) (fun r7 M6 => (some (r7, M6)))))) else (some (((-1) : Int32), M2)))))))
set_option maxRecDepth 100000 in
set_option maxHeartbeats 4000000 in
theorem ok_X9_learn (a1 : Int32) (M : gM) : g_met Y1 yX9_learn jX9_learn g_ei (fun Z => [.ref (Z.2.1 0), .int a1]) M (f_X9_learn a1 M) := by
  refine g_enter (fun Z => [(0, .ref (Z.2.1 0)), (1, .int a1)]) (by decide) rfl (fun Z => Nat.le_of_ble_eq_true rfl) (fun Z => rfl) (fun X => ?_)
  rw [f_X9_learn]
  refine G_aload_n 0 dX9_learn_0 rfl rfl ?_
  refine G_getO 4 clX9 (y1_0) fl_X9_31 dX9_learn_1 (by decide) rfl (by decide) (fun t1 ht1 => ?_)
  refine G_iload_n 1 dX9_learn_4 rfl rfl ?_
  refine G_cVb (As := [.int a1]) (rest := []) (ok_X4_has ht1 a1 M) rfl (ro_0 ht1) rfl mv_X9_122 dX9_learn_5 rfl rfl (Nat.le_of_ble_eq_true rfl) (g_fitN (by decide) (by decide)) (fun r3 M2 => ?_)
  refine G_ifB_ne (tgt := 13) dX9_learn_8 (by decide) ?_ ?_
  · refine G_aload_n 0 dX9_learn_13 rfl rfl ?_
    refine G_get 8 clX9 (y1_0) fl_X9_54 dX9_learn_14 (by decide) rfl rfl ?_
    refine G_cVv (As := []) (rest := []) (ok_X5_findFates M2) rfl (y1_37) rfl mv_X9_146 dX9_learn_17 rfl rfl (Nat.le_of_ble_eq_true rfl) (g_fitN (by decide) (by decide)) (fun r5 M4 => ?_)
    refine G_aload_n 0 dX9_learn_20 rfl rfl ?_
    refine G_get 9 clX9 (y1_0) fl_X9_61 dX9_learn_21 (by decide) rfl rfl ?_
    refine G_iload_n 1 dX9_learn_24 rfl rfl ?_
    refine G_aload_n 0 dX9_learn_25 rfl rfl ?_
    refine G_get 8 clX9 (y1_0) fl_X9_54 dX9_learn_26 (by decide) rfl rfl ?_
    refine G_cVi (As := [.int a1, .ref (ad X 37)]) (rest := []) (ok_X3_learnFrom a1 M4) rfl (y1_47) rfl mv_X9_228 dX9_learn_29 rfl rfl (Nat.le_of_ble_eq_true rfl) (g_fitN (by decide) (by decide)) (fun r7 M6 => ?_)
    exact G_iret rfl dX9_learn_32
  · refine G_iconst (v := (-1)) dX9_learn_11 (by decide) ?_
    exact G_iret rfl dX9_learn_12
-- X9_learned
def f_X9_learned (a1 : Int32) (M : gM) : Option (Int32 × gM) := (if a1 < 0 then (some (((-1) : Int32), M)) else (if (M.1 47 2) ≤ a1 then (some (((-1) : Int32), M)) else (g_ck a1 40 (some ((M.1 48 (tn a1)), M)))))
set_option maxRecDepth 100000 in
set_option maxHeartbeats 4000000 in
theorem ok_X9_learned (a1 : Int32) (M : gM) : g_met Y1 yX9_learned jX9_learned g_ei (fun Z => [.ref (Z.2.1 0), .int a1]) M (f_X9_learned a1 M) := by
  refine g_enter (fun Z => [(0, .ref (Z.2.1 0)), (1, .int a1)]) (by decide) rfl (fun Z => Nat.le_of_ble_eq_true rfl) (fun Z => rfl) (fun X => ?_)
  rw [f_X9_learned]
  refine G_iload_n 1 dX9_learned_0 rfl rfl ?_
  refine G_if_lt (tgt := 27) dX9_learned_1 (by decide) ?_ ?_
  · refine G_iconst (v := (-1)) dX9_learned_27 (by decide) ?_
    exact G_iret rfl dX9_learned_28
  · refine G_iload_n 1 dX9_learned_4 rfl rfl ?_
    refine G_aload_n 0 dX9_learned_5 rfl rfl ?_
    refine G_get 9 clX9 (y1_0) fl_X9_61 dX9_learned_6 (by decide) rfl rfl ?_
    refine G_get 2 clX3 (y1_47) fl_X9_232 dX9_learned_9 (by decide) rfl rfl ?_
    refine G_icmp_ge (tgt := 27) dX9_learned_12 (by decide) ?_ ?_
    · refine G_iconst (v := (-1)) dX9_learned_27 (by decide) ?_
      exact G_iret rfl dX9_learned_28
    · refine G_aload_n 0 dX9_learned_15 rfl rfl ?_
      refine G_get 9 clX9 (y1_0) fl_X9_61 dX9_learned_16 (by decide) rfl rfl ?_
      refine G_get 1 clX3 (y1_47) fl_X9_235 dX9_learned_19 (by decide) rfl rfl ?_
      refine G_iload_n 1 dX9_learned_22 rfl rfl ?_
      refine G_iald (y1_48) dX9_learned_23 ?_
      refine G_goto (tgt := 28) dX9_learned_24 (by decide) ?_
      exact G_iret rfl dX9_learned_28
-- X9_forget
def f_X9_forget (M : gM) : Option (Int32 × gM) := (g_b (f_X3_dropLearned M) (fun r2 M1 => (some (r2, M1))))
set_option maxRecDepth 100000 in
set_option maxHeartbeats 4000000 in
theorem ok_X9_forget (M : gM) : g_met Y1 yX9_forget jX9_forget g_ei (fun Z => [.ref (Z.2.1 0)]) M (f_X9_forget M) := by
  refine g_enter (fun Z => [(0, .ref (Z.2.1 0))]) (by decide) rfl (fun Z => Nat.le_of_ble_eq_true rfl) (fun Z => rfl) (fun X => ?_)
  rw [f_X9_forget]
  refine G_aload_n 0 dX9_forget_0 rfl rfl ?_
  refine G_get 9 clX9 (y1_0) fl_X9_61 dX9_forget_1 (by decide) rfl rfl ?_
  refine G_cVi (As := []) (rest := []) (ok_X3_dropLearned M) rfl (y1_47) rfl mv_X9_108 dX9_forget_4 rfl rfl (Nat.le_of_ble_eq_true rfl) (g_fitN (by decide) (by decide)) (fun r2 M1 => ?_)
  exact G_iret rfl dX9_forget_7
-- X9_stand
def f_X9_stand (a1 : Int32) (M : gM) : Option (Bool × gM) := (g_or 3 12 (M.2.2 0 4) (fun t1 => (g_b (f_X4_has t1 a1 M) (fun r3 M2 => (if r3 then (g_b (f_X8_begin a1 M2) (fun r5 M4 => (some (true, M4)))) else (some (false, M2)))))))
set_option maxRecDepth 100000 in
set_option maxHeartbeats 4000000 in
theorem ok_X9_stand (a1 : Int32) (M : gM) : g_met Y1 yX9_stand jX9_stand g_eb (fun Z => [.ref (Z.2.1 0), .int a1]) M (f_X9_stand a1 M) := by
  refine g_enter (fun Z => [(0, .ref (Z.2.1 0)), (1, .int a1)]) (by decide) rfl (fun Z => Nat.le_of_ble_eq_true rfl) (fun Z => rfl) (fun X => ?_)
  rw [f_X9_stand]
  refine G_aload_n 0 dX9_stand_0 rfl rfl ?_
  refine G_getO 4 clX9 (y1_0) fl_X9_31 dX9_stand_1 (by decide) rfl (by decide) (fun t1 ht1 => ?_)
  refine G_iload_n 1 dX9_stand_4 rfl rfl ?_
  refine G_cVb (As := [.int a1]) (rest := []) (ok_X4_has ht1 a1 M) rfl (ro_0 ht1) rfl mv_X9_122 dX9_stand_5 rfl rfl (Nat.le_of_ble_eq_true rfl) (g_fitN (by decide) (by decide)) (fun r3 M2 => ?_)
  refine G_ifB_ne (tgt := 13) dX9_stand_8 (by decide) ?_ ?_
  · refine G_aload_n 0 dX9_stand_13 rfl rfl ?_
    refine G_get 11 clX9 (y1_0) fl_X9_75 dX9_stand_14 (by decide) rfl rfl ?_
    refine G_iload_n 1 dX9_stand_17 rfl rfl ?_
    refine G_cVv (As := [.int a1]) (rest := []) (ok_X8_begin a1 M2) rfl (y1_66) rfl mv_X9_238 dX9_stand_18 rfl rfl (Nat.le_of_ble_eq_true rfl) (g_fitN (by decide) (by decide)) (fun r5 M4 => ?_)
    refine G_iconst (v := 1) dX9_stand_21 (by decide) ?_
    exact G_zret (b := true) rfl dX9_stand_22
  · refine G_iconst (v := 0) dX9_stand_11 (by decide) ?_
    exact G_zret (b := false) rfl dX9_stand_12
-- X9_undo
def f_X9_undo (M : gM) : Option (Bool × gM) := (g_b (f_X8_goBack M) (fun r2 M1 => (some (r2, M1))))
set_option maxRecDepth 100000 in
set_option maxHeartbeats 4000000 in
theorem ok_X9_undo (M : gM) : g_met Y1 yX9_undo jX9_undo g_eb (fun Z => [.ref (Z.2.1 0)]) M (f_X9_undo M) := by
  refine g_enter (fun Z => [(0, .ref (Z.2.1 0))]) (by decide) rfl (fun Z => Nat.le_of_ble_eq_true rfl) (fun Z => rfl) (fun X => ?_)
  rw [f_X9_undo]
  refine G_aload_n 0 dX9_undo_0 rfl rfl ?_
  refine G_get 11 clX9 (y1_0) fl_X9_75 dX9_undo_1 (by decide) rfl rfl ?_
  refine G_cVb (As := []) (rest := []) (ok_X8_goBack M) rfl (y1_66) rfl mv_X9_268 dX9_undo_4 rfl rfl (Nat.le_of_ble_eq_true rfl) (g_fitN (by decide) (by decide)) (fun r2 M1 => ?_)
  exact G_zret rfl dX9_undo_7
-- X9_walked
def f_X9_walked (a1 : Int32) (a2 : Int32) (M : gM) : Option (Int32 × gM) := (g_b (f_X8_told a1 a2 M) (fun r2 M1 => (some (r2, M1))))
set_option maxRecDepth 100000 in
set_option maxHeartbeats 4000000 in
theorem ok_X9_walked (a1 : Int32) (a2 : Int32) (M : gM) : g_met Y1 yX9_walked jX9_walked g_ei (fun Z => [.ref (Z.2.1 0), .int a1, .int a2]) M (f_X9_walked a1 a2 M) := by
  refine g_enter (fun Z => [(0, .ref (Z.2.1 0)), (1, .int a1), (2, .int a2)]) (by decide) rfl (fun Z => Nat.le_of_ble_eq_true rfl) (fun Z => rfl) (fun X => ?_)
  rw [f_X9_walked]
  refine G_aload_n 0 dX9_walked_0 rfl rfl ?_
  refine G_get 11 clX9 (y1_0) fl_X9_75 dX9_walked_1 (by decide) rfl rfl ?_
  refine G_iload_n 1 dX9_walked_4 rfl rfl ?_
  refine G_iload_n 2 dX9_walked_5 rfl rfl ?_
  refine G_cVi (As := [.int a1, .int a2]) (rest := []) (ok_X8_told a1 a2 M) rfl (y1_66) rfl mv_X9_272 dX9_walked_6 rfl rfl (Nat.le_of_ble_eq_true rfl) (g_fitN (by decide) (by decide)) (fun r2 M1 => ?_)
  exact G_iret rfl dX9_walked_9
-- X9_blame
def f_X9_blame_21 : Nat → Int32 → gM → Option (Int32 × gM)
  | 0, _, _ => none
  | n + 1, x1, M => (if (M.1 66 0) ≤ x1 then (some (((-2) : Int32), M)) else (g_b (f_X8_told x1 (0 : Int32) M) (fun r4 M3 => (g_b (f_X5_isSafe r4 M3) (fun r6 M5 => (if r6 then (g_b (f_X8_told x1 (1 : Int32) M5) (fun r8 M7 => (g_b (f_X5_isSafeAct r4 r8 M7) (fun r10 M9 => (if r10 then (f_X9_blame_21 n (x1 + 1) M9) else (some (x1, M9))))))) else (f_X9_blame_21 n (x1 + 1) M5)))))))
set_option maxRecDepth 100000 in
set_option maxHeartbeats 4000000 in
theorem o_X9_blame_21 {X : gX} : ∀ (n : Nat) (x1 : Int32) (M : gM), G Y1 jX9_blame X (g_fin g_ei) 21 [(0, .ref (ad X 0)), (1, .int x1)] [] M (f_X9_blame_21 n x1 M) := by
  intro n
  induction n with
  | zero => intro x1 M; exact G_none
  | succ n ih =>
    intro x1 M
    rw [f_X9_blame_21]
    refine G_iload_n 1 dX9_blame_21 rfl rfl ?_
    refine G_aload_n 0 dX9_blame_22 rfl rfl ?_
    refine G_get 11 clX9 (y1_0) fl_X9_75 dX9_blame_23 (by decide) rfl rfl ?_
    refine G_get 0 clX8 (y1_66) fl_X9_247 dX9_blame_26 (by decide) rfl rfl ?_
    refine G_icmp_ge (tgt := 81) dX9_blame_29 (by decide) ?_ ?_
    · refine G_bipush (v := (-2)) dX9_blame_81 (by decide) ?_
      exact G_iret rfl dX9_blame_83
    · refine G_aload_n 0 dX9_blame_32 rfl rfl ?_
      refine G_get 11 clX9 (y1_0) fl_X9_75 dX9_blame_33 (by decide) rfl rfl ?_
      refine G_iload_n 1 dX9_blame_36 rfl rfl ?_
      refine G_iconst (v := 0) dX9_blame_37 (by decide) ?_
      refine G_cVi (As := [.int x1, .int 0]) (rest := []) (ok_X8_told x1 (0 : Int32) M) rfl (y1_66) rfl mv_X9_272 dX9_blame_38 rfl rfl (Nat.le_of_ble_eq_true rfl) (g_fitN (by decide) (by decide)) (fun r4 M3 => ?_)
      refine G_istore_n (lv' := [(2, .int r4), (0, .ref (ad X 0)), (1, .int x1)]) dX9_blame_41 rfl (by decide) rfl ?_
      refine G_aload_n 1 dX9_blame_42 rfl rfl ?_
      refine G_get 8 clX9 (y1_0) fl_X9_54 dX9_blame_43 (by decide) rfl rfl ?_
      refine G_iload_n 0 dX9_blame_46 rfl rfl ?_
      refine G_cVb (As := [.int r4]) (rest := []) (ok_X5_isSafe r4 M3) rfl (y1_37) rfl mv_X9_176 dX9_blame_47 rfl rfl (Nat.le_of_ble_eq_true rfl) (g_fitN (by decide) (by decide)) (fun r6 M5 => ?_)
      refine G_ifB_eq (tgt := 75) dX9_blame_50 (by decide) ?_ ?_
      · refine G_iinc (v := x1 + 1) (lv' := [(1, .int (x1 + 1)), (2, .int r4), (0, .ref (ad X 0))]) 2 dX9_blame_75 rfl rfl (by decide) rfl ?_
        refine G_goto (tgt := 21) dX9_blame_78 (by decide) ?_
        exact G_sub [2, 0] rfl (ih (x1 + 1) M5)
      · refine G_aload_n 1 dX9_blame_53 rfl rfl ?_
        refine G_get 8 clX9 (y1_0) fl_X9_54 dX9_blame_54 (by decide) rfl rfl ?_
        refine G_iload_n 0 dX9_blame_57 rfl rfl ?_
        refine G_aload_n 1 dX9_blame_58 rfl rfl ?_
        refine G_get 11 clX9 (y1_0) fl_X9_75 dX9_blame_59 (by decide) rfl rfl ?_
        refine G_iload_n 2 dX9_blame_62 rfl rfl ?_
        refine G_iconst (v := 1) dX9_blame_63 (by decide) ?_
        refine G_cVi (As := [.int x1, .int 1]) (rest := [.int r4, .ref (ad X 37)]) (ok_X8_told x1 (1 : Int32) M5) rfl (y1_66) rfl mv_X9_272 dX9_blame_64 rfl rfl (Nat.le_of_ble_eq_true rfl) (g_fitN (by decide) (by decide)) (fun r8 M7 => ?_)
        refine G_cVb (As := [.int r4, .int r8]) (rest := []) (ok_X5_isSafeAct r4 r8 M7) rfl (y1_37) rfl mv_X9_275 dX9_blame_67 rfl rfl (Nat.le_of_ble_eq_true rfl) (g_fitN (by decide) (by decide)) (fun r10 M9 => ?_)
        refine G_ifB_ne (tgt := 75) dX9_blame_70 (by decide) ?_ ?_
        · refine G_iinc (v := x1 + 1) (lv' := [(1, .int (x1 + 1)), (2, .int r4), (0, .ref (ad X 0))]) 2 dX9_blame_75 rfl rfl (by decide) rfl ?_
          refine G_goto (tgt := 21) dX9_blame_78 (by decide) ?_
          exact G_sub [2, 0] rfl (ih (x1 + 1) M9)
        · refine G_iload_n 2 dX9_blame_73 rfl rfl ?_
          exact G_iret rfl dX9_blame_74
def f_X9_blame (M : gM) : Option (Int32 × gM) := (if 0 ≤ (M.1 66 0) then (g_b (f_X5_findFates M) (fun r2 M1 => (f_X9_blame_21 FU (0 : Int32) M1))) else (some (((-1) : Int32), M)))
set_option maxRecDepth 100000 in
set_option maxHeartbeats 4000000 in
theorem ok_X9_blame (M : gM) : g_met Y1 yX9_blame jX9_blame g_ei (fun Z => [.ref (Z.2.1 0)]) M (f_X9_blame M) := by
  refine g_enter (fun Z => [(0, .ref (Z.2.1 0))]) (by decide) rfl (fun Z => Nat.le_of_ble_eq_true rfl) (fun Z => rfl) (fun X => ?_)
  rw [f_X9_blame]
  refine G_aload_n 0 dX9_blame_0 rfl rfl ?_
  refine G_get 11 clX9 (y1_0) fl_X9_75 dX9_blame_1 (by decide) rfl rfl ?_
  refine G_get 0 clX8 (y1_66) fl_X9_247 dX9_blame_4 (by decide) rfl rfl ?_
  refine G_if_ge (tgt := 12) dX9_blame_7 (by decide) ?_ ?_
  · refine G_aload_n 0 dX9_blame_12 rfl rfl ?_
    refine G_get 8 clX9 (y1_0) fl_X9_54 dX9_blame_13 (by decide) rfl rfl ?_
    refine G_cVv (As := []) (rest := []) (ok_X5_findFates M) rfl (y1_37) rfl mv_X9_146 dX9_blame_16 rfl rfl (Nat.le_of_ble_eq_true rfl) (g_fitN (by decide) (by decide)) (fun r2 M1 => ?_)
    refine G_iconst (v := 0) dX9_blame_19 (by decide) ?_
    refine G_istore_n (lv' := [(1, .int 0), (0, .ref (ad X 0))]) dX9_blame_20 rfl (by decide) rfl ?_
    exact G_sub [1, 0] rfl (o_X9_blame_21 FU (0 : Int32) M1)
  · refine G_iconst (v := (-1)) dX9_blame_10 (by decide) ?_
    exact G_iret rfl dX9_blame_11
-- X9_drill
def f_X9_drill_53 : Nat → Int32 → Int32 → Int32 → Int32 → Int32 → Int32 → Int32 → gM → Option (Int32 × gM)
  | 0, _, _, _, _, _, _, _, _ => none
  | n + 1, x1, x2, x3, x4, x5, x6, x7, M => (if x3 ≤ x7 then (some (x6, M)) else (g_b (f_X3_drillEnd x1 (x2 + x7) x4 M) (fun r5 M4 => (if x5 = 0 then (if r5 = ((-2) : Int32) then (f_X9_drill_53 n x1 x2 x3 x4 x5 (x6 + 1) (x7 + 1) M4) else (f_X9_drill_53 n x1 x2 x3 x4 x5 x6 (x7 + 1) M4)) else (if r5 < 0 then (f_X9_drill_53 n x1 x2 x3 x4 x5 x6 (x7 + 1) M4) else (g_or 3 12 (M4.2.2 0 4) (fun t6 => (g_b (f_X4_isOver t6 r5 M4) (fun r8 M7 => (if r8 then (f_X9_drill_53 n x1 x2 x3 x4 x5 (x6 + 1) (x7 + 1) M7) else (f_X9_drill_53 n x1 x2 x3 x4 x5 x6 (x7 + 1) M7)))))))))))
set_option maxRecDepth 100000 in
set_option maxHeartbeats 4000000 in
theorem o_X9_drill_53 {X : gX} : ∀ (n : Nat) (x1 : Int32) (x2 : Int32) (x3 : Int32) (x4 : Int32) (x5 : Int32) (x6 : Int32) (x7 : Int32) (M : gM), G Y1 jX9_drill X (g_fin g_ei) 53 [(0, .ref (ad X 0)), (1, .int x1), (2, .int x2), (3, .int x3), (4, .int x4), (5, .int x5), (6, .int x6), (7, .int x7)] [] M (f_X9_drill_53 n x1 x2 x3 x4 x5 x6 x7 M) := by
  intro n
  induction n with
  | zero => intro x1 x2 x3 x4 x5 x6 x7 M; exact G_none
  | succ n ih =>
    intro x1 x2 x3 x4 x5 x6 x7 M
    rw [f_X9_drill_53]
    refine G_iload 7 dX9_drill_53 rfl ?_
    refine G_iload_n 3 dX9_drill_55 rfl rfl ?_
    refine G_icmp_ge (tgt := 116) dX9_drill_56 (by decide) ?_ ?_
    · refine G_iload 6 dX9_drill_116 rfl ?_
      exact G_iret rfl dX9_drill_118
    · refine G_aload_n 0 dX9_drill_59 rfl rfl ?_
      refine G_get 9 clX9 (y1_0) fl_X9_61 dX9_drill_60 (by decide) rfl rfl ?_
      refine G_iload_n 1 dX9_drill_63 rfl rfl ?_
      refine G_iload_n 2 dX9_drill_64 rfl rfl ?_
      refine G_iload 7 dX9_drill_65 rfl ?_
      refine G_iadd dX9_drill_67 ?_
      refine G_iload 4 dX9_drill_68 rfl ?_
      refine G_cVi (As := [.int x1, .int (x2 + x7), .int x4]) (rest := []) (ok_X3_drillEnd x1 (x2 + x7) x4 M) rfl (y1_47) rfl mv_X9_278 dX9_drill_70 rfl rfl (Nat.le_of_ble_eq_true rfl) (g_fitN (by decide) (by decide)) (fun r5 M4 => ?_)
      refine G_istore (lv' := [(8, .int r5), (0, .ref (ad X 0)), (1, .int x1), (2, .int x2), (3, .int x3), (4, .int x4), (5, .int x5), (6, .int x6), (7, .int x7)]) dX9_drill_73 (by decide) rfl ?_
      refine G_iload 6 dX9_drill_75 rfl ?_
      refine G_if_ne (tgt := 90) dX9_drill_77 (by decide) ?_ ?_
      · refine G_iload 0 dX9_drill_90 rfl ?_
        refine G_if_lt (tgt := 110) dX9_drill_92 (by decide) ?_ ?_
        · refine G_iinc (v := x7 + 1) (lv' := [(7, .int (x7 + 1)), (8, .int r5), (0, .ref (ad X 0)), (1, .int x1), (2, .int x2), (3, .int x3), (4, .int x4), (5, .int x5), (6, .int x6)]) 8 dX9_drill_110 rfl rfl (by decide) rfl ?_
          refine G_goto (tgt := 53) dX9_drill_113 (by decide) ?_
          exact G_sub [2, 3, 4, 5, 6, 7, 8, 0] rfl (ih x1 x2 x3 x4 x5 x6 (x7 + 1) M4)
        · refine G_aload_n 1 dX9_drill_95 rfl rfl ?_
          refine G_getO 4 clX9 (y1_0) fl_X9_31 dX9_drill_96 (by decide) rfl (by decide) (fun t6 ht6 => ?_)
          refine G_iload 0 dX9_drill_99 rfl ?_
          refine G_cVb (As := [.int r5]) (rest := []) (ok_X4_isOver ht6 r5 M4) rfl (ro_0 ht6) rfl mv_X9_244 dX9_drill_101 rfl rfl (Nat.le_of_ble_eq_true rfl) (g_fitN (by decide) (by decide)) (fun r8 M7 => ?_)
          refine G_ifB_eq (tgt := 110) dX9_drill_104 (by decide) ?_ ?_
          · refine G_iinc (v := x7 + 1) (lv' := [(7, .int (x7 + 1)), (8, .int r5), (0, .ref (ad X 0)), (1, .int x1), (2, .int x2), (3, .int x3), (4, .int x4), (5, .int x5), (6, .int x6)]) 8 dX9_drill_110 rfl rfl (by decide) rfl ?_
            refine G_goto (tgt := 53) dX9_drill_113 (by decide) ?_
            exact G_sub [2, 3, 4, 5, 6, 7, 8, 0] rfl (ih x1 x2 x3 x4 x5 x6 (x7 + 1) M7)
          · refine G_iinc (v := x6 + 1) (lv' := [(6, .int (x6 + 1)), (8, .int r5), (0, .ref (ad X 0)), (1, .int x1), (2, .int x2), (3, .int x3), (4, .int x4), (5, .int x5), (7, .int x7)]) 7 dX9_drill_107 rfl rfl (by decide) rfl ?_
            refine G_iinc (v := x7 + 1) (lv' := [(7, .int (x7 + 1)), (6, .int (x6 + 1)), (8, .int r5), (0, .ref (ad X 0)), (1, .int x1), (2, .int x2), (3, .int x3), (4, .int x4), (5, .int x5)]) 8 dX9_drill_110 rfl rfl (by decide) rfl ?_
            refine G_goto (tgt := 53) dX9_drill_113 (by decide) ?_
            exact G_sub [3, 4, 5, 6, 7, 8, 1, 0] rfl (ih x1 x2 x3 x4 x5 (x6 + 1) (x7 + 1) M7)
      · refine G_iload 0 dX9_drill_80 rfl ?_
        refine G_bipush (v := (-2)) dX9_drill_82 (by decide) ?_
        refine G_icmp_ne (tgt := 110) dX9_drill_84 (by decide) ?_ ?_
        · refine G_iinc (v := x7 + 1) (lv' := [(7, .int (x7 + 1)), (8, .int r5), (0, .ref (ad X 0)), (1, .int x1), (2, .int x2), (3, .int x3), (4, .int x4), (5, .int x5), (6, .int x6)]) 8 dX9_drill_110 rfl rfl (by decide) rfl ?_
          refine G_goto (tgt := 53) dX9_drill_113 (by decide) ?_
          exact G_sub [2, 3, 4, 5, 6, 7, 8, 0] rfl (ih x1 x2 x3 x4 x5 x6 (x7 + 1) M4)
        · refine G_goto (tgt := 107) dX9_drill_87 (by decide) ?_
          refine G_iinc (v := x6 + 1) (lv' := [(6, .int (x6 + 1)), (8, .int r5), (0, .ref (ad X 0)), (1, .int x1), (2, .int x2), (3, .int x3), (4, .int x4), (5, .int x5), (7, .int x7)]) 7 dX9_drill_107 rfl rfl (by decide) rfl ?_
          refine G_iinc (v := x7 + 1) (lv' := [(7, .int (x7 + 1)), (6, .int (x6 + 1)), (8, .int r5), (0, .ref (ad X 0)), (1, .int x1), (2, .int x2), (3, .int x3), (4, .int x4), (5, .int x5)]) 8 dX9_drill_110 rfl rfl (by decide) rfl ?_
          refine G_goto (tgt := 53) dX9_drill_113 (by decide) ?_
          exact G_sub [3, 4, 5, 6, 7, 8, 1, 0] rfl (ih x1 x2 x3 x4 x5 (x6 + 1) (x7 + 1) M4)
def f_X9_drill (a1 : Int32) (a2 : Int32) (a3 : Int32) (a4 : Int32) (a5 : Int32) (M : gM) : Option (Int32 × gM) := (g_or 3 12 (M.2.2 0 4) (fun t1 => (g_b (f_X4_has t1 a1 M) (fun r3 M2 => (if r3 then (if a3 < (1 : Int32) then (some (((-1) : Int32), M2)) else (if (100 : Int32) < a3 then (some (((-1) : Int32), M2)) else (if a4 < 0 then (some (((-1) : Int32), M2)) else (if (60 : Int32) < a4 then (some (((-1) : Int32), M2)) else (if a5 < 0 then (some (((-1) : Int32), M2)) else (if a5 ≤ (1 : Int32) then (f_X9_drill_53 FU a1 a2 a3 a4 a5 (0 : Int32) (0 : Int32) M2) else (some (((-1) : Int32), M2)))))))) else (some (((-1) : Int32), M2)))))))
set_option maxRecDepth 100000 in
set_option maxHeartbeats 4000000 in
theorem ok_X9_drill (a1 : Int32) (a2 : Int32) (a3 : Int32) (a4 : Int32) (a5 : Int32) (M : gM) : g_met Y1 yX9_drill jX9_drill g_ei (fun Z => [.ref (Z.2.1 0), .int a1, .int a2, .int a3, .int a4, .int a5]) M (f_X9_drill a1 a2 a3 a4 a5 M) := by
  refine g_enter (fun Z => [(0, .ref (Z.2.1 0)), (1, .int a1), (2, .int a2), (3, .int a3), (4, .int a4), (5, .int a5)]) (by decide) rfl (fun Z => Nat.le_of_ble_eq_true rfl) (fun Z => rfl) (fun X => ?_)
  rw [f_X9_drill]
  refine G_aload_n 0 dX9_drill_0 rfl rfl ?_
  refine G_getO 4 clX9 (y1_0) fl_X9_31 dX9_drill_1 (by decide) rfl (by decide) (fun t1 ht1 => ?_)
  refine G_iload_n 1 dX9_drill_4 rfl rfl ?_
  refine G_cVb (As := [.int a1]) (rest := []) (ok_X4_has ht1 a1 M) rfl (ro_0 ht1) rfl mv_X9_122 dX9_drill_5 rfl rfl (Nat.le_of_ble_eq_true rfl) (g_fitN (by decide) (by decide)) (fun r3 M2 => ?_)
  refine G_ifB_eq (tgt := 45) dX9_drill_8 (by decide) ?_ ?_
  · refine G_iconst (v := (-1)) dX9_drill_45 (by decide) ?_
    exact G_iret rfl dX9_drill_46
  · refine G_iload_n 3 dX9_drill_11 rfl rfl ?_
    refine G_iconst (v := 1) dX9_drill_12 (by decide) ?_
    refine G_icmp_lt (tgt := 45) dX9_drill_13 (by decide) ?_ ?_
    · refine G_iconst (v := (-1)) dX9_drill_45 (by decide) ?_
      exact G_iret rfl dX9_drill_46
    · refine G_iload_n 3 dX9_drill_16 rfl rfl ?_
      refine G_bipush (v := 100) dX9_drill_17 (by decide) ?_
      refine G_icmp_gt (tgt := 45) dX9_drill_19 (by decide) ?_ ?_
      · refine G_iconst (v := (-1)) dX9_drill_45 (by decide) ?_
        exact G_iret rfl dX9_drill_46
      · refine G_iload 4 dX9_drill_22 rfl ?_
        refine G_if_lt (tgt := 45) dX9_drill_24 (by decide) ?_ ?_
        · refine G_iconst (v := (-1)) dX9_drill_45 (by decide) ?_
          exact G_iret rfl dX9_drill_46
        · refine G_iload 4 dX9_drill_27 rfl ?_
          refine G_bipush (v := 60) dX9_drill_29 (by decide) ?_
          refine G_icmp_gt (tgt := 45) dX9_drill_31 (by decide) ?_ ?_
          · refine G_iconst (v := (-1)) dX9_drill_45 (by decide) ?_
            exact G_iret rfl dX9_drill_46
          · refine G_iload 5 dX9_drill_34 rfl ?_
            refine G_if_lt (tgt := 45) dX9_drill_36 (by decide) ?_ ?_
            · refine G_iconst (v := (-1)) dX9_drill_45 (by decide) ?_
              exact G_iret rfl dX9_drill_46
            · refine G_iload 5 dX9_drill_39 rfl ?_
              refine G_iconst (v := 1) dX9_drill_41 (by decide) ?_
              refine G_icmp_le (tgt := 47) dX9_drill_42 (by decide) ?_ ?_
              · refine G_iconst (v := 0) dX9_drill_47 (by decide) ?_
                refine G_istore (lv' := [(6, .int 0), (0, .ref (ad X 0)), (1, .int a1), (2, .int a2), (3, .int a3), (4, .int a4), (5, .int a5)]) dX9_drill_48 (by decide) rfl ?_
                refine G_iconst (v := 0) dX9_drill_50 (by decide) ?_
                refine G_istore (lv' := [(7, .int 0), (6, .int 0), (0, .ref (ad X 0)), (1, .int a1), (2, .int a2), (3, .int a3), (4, .int a4), (5, .int a5)]) dX9_drill_51 (by decide) rfl ?_
                exact G_sub [2, 3, 4, 5, 6, 7, 1, 0] rfl (o_X9_drill_53 FU a1 a2 a3 a4 a5 (0 : Int32) (0 : Int32) M2)
              · refine G_iconst (v := (-1)) dX9_drill_45 (by decide) ?_
                exact G_iret rfl dX9_drill_46
-- X9_hold
def f_X9_hold_45 (k22 : Int32 → Int32 → Int32 → gM → Option (Int32 × gM)) (x1 : Int32) (x2 : Int32) (x3 : Int32) (s0 : Int32) (M : gM) : Option (Int32 × gM) := (g_ck x3 2079 (g_ck x3 2079 (g_m (sI M 2 (tn x3) (((M.1 2 (tn x3)) &&& (((1 : Int32) <<< (x1 &&& 31)) ^^^ ((-1) : Int32))) ||| (s0 <<< (x1 &&& 31)))) (fun M5 => (g_v (x2 + s0) (fun y6 => (k22 x1 y6 (x3 + 1) M5)))))))
set_option maxRecDepth 100000 in
set_option maxHeartbeats 4000000 in
theorem o_X9_hold_45 {X : gX} {k22 : Int32 → Int32 → Int32 → gM → Option (Int32 × gM)} (hk22 : ∀ (x1 : Int32) (x2 : Int32) (x3 : Int32) (M : gM), G Y1 jX9_hold X (g_fin g_ei) 22 [(0, .ref (ad X 0)), (1, .int x1), (2, .int x2), (3, .int x3)] [] M (k22 x1 x2 x3 M)) (x1 : Int32) (x2 : Int32) (x3 : Int32) (s0 : Int32) (M : gM) : G Y1 jX9_hold X (g_fin g_ei) 45 [(0, .ref (ad X 0)), (1, .int x1), (2, .int x2), (3, .int x3)] [.int s0] M (f_X9_hold_45 k22 x1 x2 x3 s0 M) := by
  rw [f_X9_hold_45]
  refine G_istore (lv' := [(4, .int s0), (0, .ref (ad X 0)), (1, .int x1), (2, .int x2), (3, .int x3)]) dX9_hold_45 (by decide) rfl ?_
  refine G_aload_n 1 dX9_hold_47 rfl rfl ?_
  refine G_get 12 clX9 (y1_0) fl_X9_13 dX9_hold_48 (by decide) rfl rfl ?_
  refine G_iload_n 4 dX9_hold_51 rfl rfl ?_
  refine G_aload_n 1 dX9_hold_52 rfl rfl ?_
  refine G_get 12 clX9 (y1_0) fl_X9_13 dX9_hold_53 (by decide) rfl rfl ?_
  refine G_iload_n 4 dX9_hold_56 rfl rfl ?_
  refine G_iald (y1_2) dX9_hold_57 ?_
  refine G_iconst (v := 1) dX9_hold_58 (by decide) ?_
  refine G_iload_n 2 dX9_hold_59 rfl rfl ?_
  refine G_ishl dX9_hold_60 ?_
  refine G_iconst (v := (-1)) dX9_hold_61 (by decide) ?_
  refine G_ixor dX9_hold_62 ?_
  refine G_iand dX9_hold_63 ?_
  refine G_iload 0 dX9_hold_64 rfl ?_
  refine G_iload_n 2 dX9_hold_66 rfl rfl ?_
  refine G_ishl dX9_hold_67 ?_
  refine G_ior dX9_hold_68 ?_
  refine G_iast (y1_2) dX9_hold_69 ?_
  refine G_m (fun M5 => ?_)
  refine G_iload_n 3 dX9_hold_70 rfl rfl ?_
  refine G_iload 0 dX9_hold_71 rfl ?_
  refine G_iadd dX9_hold_73 ?_
  refine G_vi (fun y6 => ?_)
  refine G_istore_n (lv' := [(2, .int y6), (4, .int s0), (0, .ref (ad X 0)), (1, .int x1), (3, .int x3)]) dX9_hold_74 rfl (by decide) rfl ?_
  refine G_iinc (v := x3 + 1) (lv' := [(3, .int (x3 + 1)), (2, .int y6), (4, .int s0), (0, .ref (ad X 0)), (1, .int x1)]) 4 dX9_hold_75 rfl rfl (by decide) rfl ?_
  refine G_goto (tgt := 22) dX9_hold_78 (by decide) ?_
  exact G_sub [3, 4, 1, 0] rfl (hk22 x1 y6 (x3 + 1) M5)
def f_X9_hold_22 : Nat → Int32 → Int32 → Int32 → gM → Option (Int32 × gM)
  | 0, _, _, _, _ => none
  | n + 1, x1, x2, x3, M => (if (2079 : Int32) ≤ x3 then (some (x2, M)) else (g_b (f_X5_isSafe x3 M) (fun r4 M3 => (if r4 then (f_X9_hold_45 (f_X9_hold_22 n) x1 x2 x3 (1 : Int32) M3) else (f_X9_hold_45 (f_X9_hold_22 n) x1 x2 x3 (0 : Int32) M3)))))
set_option maxRecDepth 100000 in
set_option maxHeartbeats 4000000 in
theorem o_X9_hold_22 {X : gX} : ∀ (n : Nat) (x1 : Int32) (x2 : Int32) (x3 : Int32) (M : gM), G Y1 jX9_hold X (g_fin g_ei) 22 [(0, .ref (ad X 0)), (1, .int x1), (2, .int x2), (3, .int x3)] [] M (f_X9_hold_22 n x1 x2 x3 M) := by
  intro n
  induction n with
  | zero => intro x1 x2 x3 M; exact G_none
  | succ n ih =>
    intro x1 x2 x3 M
    rw [f_X9_hold_22]
    refine G_iload_n 3 dX9_hold_22 rfl rfl ?_
    refine G_sipush (v := 2079) dX9_hold_23 (by decide) ?_
    refine G_icmp_ge (tgt := 81) dX9_hold_26 (by decide) ?_ ?_
    · refine G_iload_n 2 dX9_hold_81 rfl rfl ?_
      exact G_iret rfl dX9_hold_82
    · refine G_aload_n 0 dX9_hold_29 rfl rfl ?_
      refine G_get 8 clX9 (y1_0) fl_X9_54 dX9_hold_30 (by decide) rfl rfl ?_
      refine G_iload_n 3 dX9_hold_33 rfl rfl ?_
      refine G_cVb (As := [.int x3]) (rest := []) (ok_X5_isSafe x3 M) rfl (y1_37) rfl mv_X9_176 dX9_hold_34 rfl rfl (Nat.le_of_ble_eq_true rfl) (g_fitN (by decide) (by decide)) (fun r4 M3 => ?_)
      refine G_ifB_eq (tgt := 44) dX9_hold_37 (by decide) ?_ ?_
      · refine G_iconst (v := 0) dX9_hold_44 (by decide) ?_
        exact G_sub [0, 1, 2, 3] rfl (o_X9_hold_45 ih x1 x2 x3 (0 : Int32) M3)
      · refine G_iconst (v := 1) dX9_hold_40 (by decide) ?_
        refine G_goto (tgt := 45) dX9_hold_41 (by decide) ?_
        exact G_sub [0, 1, 2, 3] rfl (o_X9_hold_45 ih x1 x2 x3 (1 : Int32) M3)
def f_X9_hold (a1 : Int32) (M : gM) : Option (Int32 × gM) := (if a1 < 0 then (some (((-1) : Int32), M)) else (if a1 < (3 : Int32) then (g_b (f_X5_findFates M) (fun r2 M1 => (f_X9_hold_22 FU a1 (0 : Int32) (0 : Int32) M1))) else (some (((-1) : Int32), M))))
set_option maxRecDepth 100000 in
set_option maxHeartbeats 4000000 in
theorem ok_X9_hold (a1 : Int32) (M : gM) : g_met Y1 yX9_hold jX9_hold g_ei (fun Z => [.ref (Z.2.1 0), .int a1]) M (f_X9_hold a1 M) := by
  refine g_enter (fun Z => [(0, .ref (Z.2.1 0)), (1, .int a1)]) (by decide) rfl (fun Z => Nat.le_of_ble_eq_true rfl) (fun Z => rfl) (fun X => ?_)
  rw [f_X9_hold]
  refine G_iload_n 1 dX9_hold_0 rfl rfl ?_
  refine G_if_lt (tgt := 9) dX9_hold_1 (by decide) ?_ ?_
  · refine G_iconst (v := (-1)) dX9_hold_9 (by decide) ?_
    exact G_iret rfl dX9_hold_10
  · refine G_iload_n 1 dX9_hold_4 rfl rfl ?_
    refine G_iconst (v := 3) dX9_hold_5 (by decide) ?_
    refine G_icmp_lt (tgt := 11) dX9_hold_6 (by decide) ?_ ?_
    · refine G_aload_n 0 dX9_hold_11 rfl rfl ?_
      refine G_get 8 clX9 (y1_0) fl_X9_54 dX9_hold_12 (by decide) rfl rfl ?_
      refine G_cVv (As := []) (rest := []) (ok_X5_findFates M) rfl (y1_37) rfl mv_X9_146 dX9_hold_15 rfl rfl (Nat.le_of_ble_eq_true rfl) (g_fitN (by decide) (by decide)) (fun r2 M1 => ?_)
      refine G_iconst (v := 0) dX9_hold_18 (by decide) ?_
      refine G_istore_n (lv' := [(2, .int 0), (0, .ref (ad X 0)), (1, .int a1)]) dX9_hold_19 rfl (by decide) rfl ?_
      refine G_iconst (v := 0) dX9_hold_20 (by decide) ?_
      refine G_istore_n (lv' := [(3, .int 0), (2, .int 0), (0, .ref (ad X 0)), (1, .int a1)]) dX9_hold_21 rfl (by decide) rfl ?_
      exact G_sub [2, 3, 1, 0] rfl (o_X9_hold_22 FU a1 (0 : Int32) (0 : Int32) M1)
    · refine G_iconst (v := (-1)) dX9_hold_9 (by decide) ?_
      exact G_iret rfl dX9_hold_10
-- X9_compare
def f_X9_compare_100 (k32 : Int32 → Int32 → Int32 → Int32 → gM → Option (Int32 × gM)) (x1 : Int32) (x2 : Int32) (x3 : Int32) (x4 : Int32) (s0 : Int32) (s1 : Int32) (M : gM) : Option (Int32 × gM) := (if s0 = s1 then (k32 x1 x2 (x3 + 1) (x4 + 1) M) else (k32 x1 x2 x3 (x4 + 1) M))
set_option maxRecDepth 100000 in
set_option maxHeartbeats 4000000 in
theorem o_X9_compare_100 {X : gX} {k32 : Int32 → Int32 → Int32 → Int32 → gM → Option (Int32 × gM)} (hk32 : ∀ (x1 : Int32) (x2 : Int32) (x3 : Int32) (x4 : Int32) (M : gM), G Y1 jX9_compare X (g_fin g_ei) 32 [(0, .ref (ad X 0)), (1, .int x1), (2, .int x2), (3, .int x3), (4, .int x4)] [] M (k32 x1 x2 x3 x4 M)) (x1 : Int32) (x2 : Int32) (x3 : Int32) (x4 : Int32) (s0 : Int32) (s1 : Int32) (M : gM) : G Y1 jX9_compare X (g_fin g_ei) 100 [(0, .ref (ad X 0)), (1, .int x1), (2, .int x2), (3, .int x3), (4, .int x4)] [.int s1, .int s0] M (f_X9_compare_100 k32 x1 x2 x3 x4 s0 s1 M) := by
  rw [f_X9_compare_100]
  refine G_icmp_ne (tgt := 106) dX9_compare_100 (by decide) ?_ ?_
  · refine G_iinc (v := x4 + 1) (lv' := [(4, .int (x4 + 1)), (0, .ref (ad X 0)), (1, .int x1), (2, .int x2), (3, .int x3)]) 4 dX9_compare_106 rfl rfl (by decide) rfl ?_
    refine G_goto (tgt := 32) dX9_compare_109 (by decide) ?_
    exact G_sub [1, 2, 3, 4, 0] rfl (hk32 x1 x2 x3 (x4 + 1) M)
  · refine G_iinc (v := x3 + 1) (lv' := [(3, .int (x3 + 1)), (0, .ref (ad X 0)), (1, .int x1), (2, .int x2), (4, .int x4)]) 3 dX9_compare_103 rfl rfl (by decide) rfl ?_
    refine G_iinc (v := x4 + 1) (lv' := [(4, .int (x4 + 1)), (3, .int (x3 + 1)), (0, .ref (ad X 0)), (1, .int x1), (2, .int x2)]) 4 dX9_compare_106 rfl rfl (by decide) rfl ?_
    refine G_goto (tgt := 32) dX9_compare_109 (by decide) ?_
    exact G_sub [2, 3, 4, 1, 0] rfl (hk32 x1 x2 (x3 + 1) (x4 + 1) M)
def f_X9_compare_85 (k32 : Int32 → Int32 → Int32 → Int32 → gM → Option (Int32 × gM)) (x1 : Int32) (x2 : Int32) (x3 : Int32) (x4 : Int32) (x6 : Int32) (s0 : Int32) (s1 : Int32) (M : gM) : Option (Int32 × gM) := (if s0 = s1 then (if x2 = (1 : Int32) then (f_X9_compare_100 k32 x1 x2 x3 x4 x6 (0 : Int32) M) else (f_X9_compare_100 k32 x1 x2 x3 x4 x6 (1 : Int32) M)) else (k32 x1 x2 x3 (x4 + 1) M))
set_option maxRecDepth 100000 in
set_option maxHeartbeats 4000000 in
theorem o_X9_compare_85 {X : gX} {k32 : Int32 → Int32 → Int32 → Int32 → gM → Option (Int32 × gM)} (hk32 : ∀ (x1 : Int32) (x2 : Int32) (x3 : Int32) (x4 : Int32) (M : gM), G Y1 jX9_compare X (g_fin g_ei) 32 [(0, .ref (ad X 0)), (1, .int x1), (2, .int x2), (3, .int x3), (4, .int x4)] [] M (k32 x1 x2 x3 x4 M)) (x1 : Int32) (x2 : Int32) (x3 : Int32) (x4 : Int32) (x6 : Int32) (s0 : Int32) (s1 : Int32) (M : gM) : G Y1 jX9_compare X (g_fin g_ei) 85 [(0, .ref (ad X 0)), (1, .int x1), (2, .int x2), (3, .int x3), (4, .int x4), (6, .int x6)] [.int s1, .int s0] M (f_X9_compare_85 k32 x1 x2 x3 x4 x6 s0 s1 M) := by
  rw [f_X9_compare_85]
  refine G_icmp_ne (tgt := 106) dX9_compare_85 (by decide) ?_ ?_
  · refine G_iinc (v := x4 + 1) (lv' := [(4, .int (x4 + 1)), (0, .ref (ad X 0)), (1, .int x1), (2, .int x2), (3, .int x3), (6, .int x6)]) 4 dX9_compare_106 rfl rfl (by decide) rfl ?_
    refine G_goto (tgt := 32) dX9_compare_109 (by decide) ?_
    exact G_sub [1, 2, 3, 4, 0] rfl (hk32 x1 x2 x3 (x4 + 1) M)
  · refine G_iload 5 dX9_compare_88 rfl ?_
    refine G_iload_n 2 dX9_compare_90 rfl rfl ?_
    refine G_iconst (v := 1) dX9_compare_91 (by decide) ?_
    refine G_icmp_eq (tgt := 99) dX9_compare_92 (by decide) ?_ ?_
    · refine G_iconst (v := 0) dX9_compare_99 (by decide) ?_
      exact G_sub [0, 1, 2, 3, 4] rfl (o_X9_compare_100 hk32 x1 x2 x3 x4 x6 (0 : Int32) M)
    · refine G_iconst (v := 1) dX9_compare_95 (by decide) ?_
      refine G_goto (tgt := 100) dX9_compare_96 (by decide) ?_
      exact G_sub [0, 1, 2, 3, 4] rfl (o_X9_compare_100 hk32 x1 x2 x3 x4 x6 (1 : Int32) M)
def f_X9_compare_71 (k32 : Int32 → Int32 → Int32 → Int32 → gM → Option (Int32 × gM)) (x1 : Int32) (x2 : Int32) (x3 : Int32) (x4 : Int32) (x5 : Int32) (s0 : Int32) (M : gM) : Option (Int32 × gM) := (if x2 = (2 : Int32) then (f_X9_compare_85 k32 x1 x2 x3 x4 s0 x5 (0 : Int32) M) else (f_X9_compare_85 k32 x1 x2 x3 x4 s0 x5 (1 : Int32) M))
set_option maxRecDepth 100000 in
set_option maxHeartbeats 4000000 in
theorem o_X9_compare_71 {X : gX} {k32 : Int32 → Int32 → Int32 → Int32 → gM → Option (Int32 × gM)} (hk32 : ∀ (x1 : Int32) (x2 : Int32) (x3 : Int32) (x4 : Int32) (M : gM), G Y1 jX9_compare X (g_fin g_ei) 32 [(0, .ref (ad X 0)), (1, .int x1), (2, .int x2), (3, .int x3), (4, .int x4)] [] M (k32 x1 x2 x3 x4 M)) (x1 : Int32) (x2 : Int32) (x3 : Int32) (x4 : Int32) (x5 : Int32) (s0 : Int32) (M : gM) : G Y1 jX9_compare X (g_fin g_ei) 71 [(0, .ref (ad X 0)), (1, .int x1), (2, .int x2), (3, .int x3), (4, .int x4), (5, .int x5)] [.int s0] M (f_X9_compare_71 k32 x1 x2 x3 x4 x5 s0 M) := by
  rw [f_X9_compare_71]
  refine G_istore (lv' := [(6, .int s0), (0, .ref (ad X 0)), (1, .int x1), (2, .int x2), (3, .int x3), (4, .int x4), (5, .int x5)]) dX9_compare_71 (by decide) rfl ?_
  refine G_iload 6 dX9_compare_73 rfl ?_
  refine G_iload_n 3 dX9_compare_75 rfl rfl ?_
  refine G_iconst (v := 2) dX9_compare_76 (by decide) ?_
  refine G_icmp_eq (tgt := 84) dX9_compare_77 (by decide) ?_ ?_
  · refine G_iconst (v := 0) dX9_compare_84 (by decide) ?_
    exact G_sub [1, 2, 3, 4, 5, 0] rfl (o_X9_compare_85 hk32 x1 x2 x3 x4 s0 x5 (0 : Int32) M)
  · refine G_iconst (v := 1) dX9_compare_80 (by decide) ?_
    refine G_goto (tgt := 85) dX9_compare_81 (by decide) ?_
    exact G_sub [1, 2, 3, 4, 5, 0] rfl (o_X9_compare_85 hk32 x1 x2 x3 x4 s0 x5 (1 : Int32) M)
def f_X9_compare_32 : Nat → Int32 → Int32 → Int32 → Int32 → gM → Option (Int32 × gM)
  | 0, _, _, _, _, _ => none
  | n + 1, x1, x2, x3, x4, M => (if (2079 : Int32) ≤ x4 then (some (x3, M)) else (g_b (f_X5_isSafe x4 M) (fun r4 M3 => (g_v (b2i r4) (fun y5 => (g_ck x4 2079 (if (((M3.1 2 (tn x4)) >>> (x1 &&& 31)) &&& (1 : Int32)) = (1 : Int32) then (f_X9_compare_71 (f_X9_compare_32 n) x1 x2 x3 x4 y5 (1 : Int32) M3) else (f_X9_compare_71 (f_X9_compare_32 n) x1 x2 x3 x4 y5 (0 : Int32) M3))))))))
set_option maxRecDepth 100000 in
set_option maxHeartbeats 4000000 in
theorem o_X9_compare_32 {X : gX} : ∀ (n : Nat) (x1 : Int32) (x2 : Int32) (x3 : Int32) (x4 : Int32) (M : gM), G Y1 jX9_compare X (g_fin g_ei) 32 [(0, .ref (ad X 0)), (1, .int x1), (2, .int x2), (3, .int x3), (4, .int x4)] [] M (f_X9_compare_32 n x1 x2 x3 x4 M) := by
  intro n
  induction n with
  | zero => intro x1 x2 x3 x4 M; exact G_none
  | succ n ih =>
    intro x1 x2 x3 x4 M
    rw [f_X9_compare_32]
    refine G_iload 4 dX9_compare_32 rfl ?_
    refine G_sipush (v := 2079) dX9_compare_34 (by decide) ?_
    refine G_icmp_ge (tgt := 112) dX9_compare_37 (by decide) ?_ ?_
    · refine G_iload_n 3 dX9_compare_112 rfl rfl ?_
      exact G_iret rfl dX9_compare_113
    · refine G_aload_n 0 dX9_compare_40 rfl rfl ?_
      refine G_get 8 clX9 (y1_0) fl_X9_54 dX9_compare_41 (by decide) rfl rfl ?_
      refine G_iload 4 dX9_compare_44 rfl ?_
      refine G_cVb (As := [.int x4]) (rest := []) (ok_X5_isSafe x4 M) rfl (y1_37) rfl mv_X9_176 dX9_compare_46 rfl rfl (Nat.le_of_ble_eq_true rfl) (g_fitN (by decide) (by decide)) (fun r4 M3 => ?_)
      refine G_vi (fun y5 => ?_)
      refine G_istore (lv' := [(5, .int y5), (0, .ref (ad X 0)), (1, .int x1), (2, .int x2), (3, .int x3), (4, .int x4)]) dX9_compare_49 (by decide) rfl ?_
      refine G_aload_n 1 dX9_compare_51 rfl rfl ?_
      refine G_get 12 clX9 (y1_0) fl_X9_13 dX9_compare_52 (by decide) rfl rfl ?_
      refine G_iload 5 dX9_compare_55 rfl ?_
      refine G_iald (y1_2) dX9_compare_57 ?_
      refine G_iload_n 2 dX9_compare_58 rfl rfl ?_
      refine G_ishr dX9_compare_59 ?_
      refine G_iconst (v := 1) dX9_compare_60 (by decide) ?_
      refine G_iand dX9_compare_61 ?_
      refine G_iconst (v := 1) dX9_compare_62 (by decide) ?_
      refine G_icmp_ne (tgt := 70) dX9_compare_63 (by decide) ?_ ?_
      · refine G_iconst (v := 0) dX9_compare_70 (by decide) ?_
        exact G_sub [1, 2, 3, 4, 5, 0] rfl (o_X9_compare_71 ih x1 x2 x3 x4 y5 (0 : Int32) M3)
      · refine G_iconst (v := 1) dX9_compare_66 (by decide) ?_
        refine G_goto (tgt := 71) dX9_compare_67 (by decide) ?_
        exact G_sub [1, 2, 3, 4, 5, 0] rfl (o_X9_compare_71 ih x1 x2 x3 x4 y5 (1 : Int32) M3)
def f_X9_compare (a1 : Int32) (a2 : Int32) (M : gM) : Option (Int32 × gM) := (if a1 < 0 then (some (((-1) : Int32), M)) else (if (3 : Int32) ≤ a1 then (some (((-1) : Int32), M)) else (if a2 < 0 then (some (((-1) : Int32), M)) else (if a2 ≤ (2 : Int32) then (g_b (f_X5_findFates M) (fun r2 M1 => (f_X9_compare_32 FU a1 a2 (0 : Int32) (0 : Int32) M1))) else (some (((-1) : Int32), M))))))
set_option maxRecDepth 100000 in
set_option maxHeartbeats 4000000 in
theorem ok_X9_compare (a1 : Int32) (a2 : Int32) (M : gM) : g_met Y1 yX9_compare jX9_compare g_ei (fun Z => [.ref (Z.2.1 0), .int a1, .int a2]) M (f_X9_compare a1 a2 M) := by
  refine g_enter (fun Z => [(0, .ref (Z.2.1 0)), (1, .int a1), (2, .int a2)]) (by decide) rfl (fun Z => Nat.le_of_ble_eq_true rfl) (fun Z => rfl) (fun X => ?_)
  rw [f_X9_compare]
  refine G_iload_n 1 dX9_compare_0 rfl rfl ?_
  refine G_if_lt (tgt := 18) dX9_compare_1 (by decide) ?_ ?_
  · refine G_iconst (v := (-1)) dX9_compare_18 (by decide) ?_
    exact G_iret rfl dX9_compare_19
  · refine G_iload_n 1 dX9_compare_4 rfl rfl ?_
    refine G_iconst (v := 3) dX9_compare_5 (by decide) ?_
    refine G_icmp_ge (tgt := 18) dX9_compare_6 (by decide) ?_ ?_
    · refine G_iconst (v := (-1)) dX9_compare_18 (by decide) ?_
      exact G_iret rfl dX9_compare_19
    · refine G_iload_n 2 dX9_compare_9 rfl rfl ?_
      refine G_if_lt (tgt := 18) dX9_compare_10 (by decide) ?_ ?_
      · refine G_iconst (v := (-1)) dX9_compare_18 (by decide) ?_
        exact G_iret rfl dX9_compare_19
      · refine G_iload_n 2 dX9_compare_13 rfl rfl ?_
        refine G_iconst (v := 2) dX9_compare_14 (by decide) ?_
        refine G_icmp_le (tgt := 20) dX9_compare_15 (by decide) ?_ ?_
        · refine G_aload_n 0 dX9_compare_20 rfl rfl ?_
          refine G_get 8 clX9 (y1_0) fl_X9_54 dX9_compare_21 (by decide) rfl rfl ?_
          refine G_cVv (As := []) (rest := []) (ok_X5_findFates M) rfl (y1_37) rfl mv_X9_146 dX9_compare_24 rfl rfl (Nat.le_of_ble_eq_true rfl) (g_fitN (by decide) (by decide)) (fun r2 M1 => ?_)
          refine G_iconst (v := 0) dX9_compare_27 (by decide) ?_
          refine G_istore_n (lv' := [(3, .int 0), (0, .ref (ad X 0)), (1, .int a1), (2, .int a2)]) dX9_compare_28 rfl (by decide) rfl ?_
          refine G_iconst (v := 0) dX9_compare_29 (by decide) ?_
          refine G_istore (lv' := [(4, .int 0), (3, .int 0), (0, .ref (ad X 0)), (1, .int a1), (2, .int a2)]) dX9_compare_30 (by decide) rfl ?_
          exact G_sub [2, 3, 4, 1, 0] rfl (o_X9_compare_32 FU a1 a2 (0 : Int32) (0 : Int32) M1)
        · refine G_iconst (v := (-1)) dX9_compare_18 (by decide) ?_
          exact G_iret rfl dX9_compare_19
-- X9_count
def f_X9_count (a1 : Int32) (M : gM) : Option (Int32 × gM) := (if a1 = 0 then (g_or 3 12 (M.2.2 0 4) (fun t1 => (some ((M.1 t1 0), M)))) else (if a1 = 1 then (g_or 3 12 (M.2.2 0 4) (fun t3 => (some ((M.1 t3 1), M)))) else (if a1 = 2 then (g_or 3 12 (M.2.2 0 4) (fun t5 => (some ((M.1 t5 2), M)))) else (if a1 = 3 then (g_or 3 12 (M.2.2 0 4) (fun t7 => (some ((M.1 t7 5), M)))) else (if a1 = 4 then (g_or 3 12 (M.2.2 0 4) (fun t9 => (some ((M.1 t9 6), M)))) else (if a1 = 5 then (g_or 3 12 (M.2.2 0 4) (fun t11 => (some ((M.1 t11 7), M)))) else (if a1 = 6 then (some ((M.1 0 3), M)) else (if a1 = 7 then (some ((M.1 57 1), M)) else (if a1 = 8 then (some ((M.1 47 2), M)) else (if a1 = 9 then (some ((M.1 66 0), M)) else (if a1 = 10 then (some ((M.1 0 1), M)) else (if a1 = 11 then (g_or 3 12 (M.2.2 0 4) (fun t18 => (g_or 3 12 (M.2.2 0 4) (fun t19 => (g_or 3 12 (M.2.2 0 4) (fun t20 => (some (((((M.1 t18 0) + (1 : Int32)) * (((2 : Int32) * (M.1 t19 1)) + (1 : Int32))) * (((2 : Int32) * (M.1 t20 2)) + (1 : Int32))), M)))))))) else (if a1 = 12 then (g_b (f_X5_findFates M) (fun r23 M22 => (g_b (f_X5_safeAmong (0 : Int32) (2079 : Int32) M22) (fun r25 M24 => (some (r25, M24)))))) else (if a1 = 13 then (g_b (f_X8_standsIn M) (fun r28 M27 => (some (r28, M27)))) else (some (((-1) : Int32), M))))))))))))))))
set_option maxRecDepth 100000 in
set_option maxHeartbeats 4000000 in
theorem ok_X9_count (a1 : Int32) (M : gM) : g_met Y1 yX9_count jX9_count g_ei (fun Z => [.ref (Z.2.1 0), .int a1]) M (f_X9_count a1 M) := by
  refine g_enter (fun Z => [(0, .ref (Z.2.1 0)), (1, .int a1)]) (by decide) rfl (fun Z => Nat.le_of_ble_eq_true rfl) (fun Z => rfl) (fun X => ?_)
  rw [f_X9_count]
  refine G_iload_n 1 dX9_count_0 rfl rfl ?_
  refine G_ite (fun h2 => ?_) (fun h2 => ?_)
  · refine G_tabIn (tgt := 72) (off := 71) dX9_count_1 (by rw [h2]; decide) (by rw [h2]; decide) (by rw [h2]; decide) (by decide) ?_
    refine G_aload_n 0 dX9_count_72 rfl rfl ?_
    refine G_getO 4 clX9 (y1_0) fl_X9_31 dX9_count_73 (by decide) rfl (by decide) (fun t1 ht1 => ?_)
    refine G_get 0 clX4 (ro_0 ht1) fl_X9_166 dX9_count_76 (by decide) rfl rfl ?_
    exact G_iret rfl dX9_count_79
  refine G_ite (fun h4 => ?_) (fun h4 => ?_)
  · refine G_tabIn (tgt := 80) (off := 79) dX9_count_1 (by rw [h4]; decide) (by rw [h4]; decide) (by rw [h4]; decide) (by decide) ?_
    refine G_aload_n 0 dX9_count_80 rfl rfl ?_
    refine G_getO 4 clX9 (y1_0) fl_X9_31 dX9_count_81 (by decide) rfl (by decide) (fun t3 ht3 => ?_)
    refine G_get 1 clX4 (ro_0 ht3) fl_X9_173 dX9_count_84 (by decide) rfl rfl ?_
    exact G_iret rfl dX9_count_87
  refine G_ite (fun h6 => ?_) (fun h6 => ?_)
  · refine G_tabIn (tgt := 88) (off := 87) dX9_count_1 (by rw [h6]; decide) (by rw [h6]; decide) (by rw [h6]; decide) (by decide) ?_
    refine G_aload_n 0 dX9_count_88 rfl rfl ?_
    refine G_getO 4 clX9 (y1_0) fl_X9_31 dX9_count_89 (by decide) rfl (by decide) (fun t5 ht5 => ?_)
    refine G_get 2 clX4 (ro_0 ht5) fl_X9_281 dX9_count_92 (by decide) rfl rfl ?_
    exact G_iret rfl dX9_count_95
  refine G_ite (fun h8 => ?_) (fun h8 => ?_)
  · refine G_tabIn (tgt := 96) (off := 95) dX9_count_1 (by rw [h8]; decide) (by rw [h8]; decide) (by rw [h8]; decide) (by decide) ?_
    refine G_aload_n 0 dX9_count_96 rfl rfl ?_
    refine G_getO 4 clX9 (y1_0) fl_X9_31 dX9_count_97 (by decide) rfl (by decide) (fun t7 ht7 => ?_)
    refine G_get 5 clX4 (ro_0 ht7) fl_X9_284 dX9_count_100 (by decide) rfl rfl ?_
    exact G_iret rfl dX9_count_103
  refine G_ite (fun h10 => ?_) (fun h10 => ?_)
  · refine G_tabIn (tgt := 104) (off := 103) dX9_count_1 (by rw [h10]; decide) (by rw [h10]; decide) (by rw [h10]; decide) (by decide) ?_
    refine G_aload_n 0 dX9_count_104 rfl rfl ?_
    refine G_getO 4 clX9 (y1_0) fl_X9_31 dX9_count_105 (by decide) rfl (by decide) (fun t9 ht9 => ?_)
    refine G_get 6 clX4 (ro_0 ht9) fl_X9_287 dX9_count_108 (by decide) rfl rfl ?_
    exact G_iret rfl dX9_count_111
  refine G_ite (fun h12 => ?_) (fun h12 => ?_)
  · refine G_tabIn (tgt := 112) (off := 111) dX9_count_1 (by rw [h12]; decide) (by rw [h12]; decide) (by rw [h12]; decide) (by decide) ?_
    refine G_aload_n 0 dX9_count_112 rfl rfl ?_
    refine G_getO 4 clX9 (y1_0) fl_X9_31 dX9_count_113 (by decide) rfl (by decide) (fun t11 ht11 => ?_)
    refine G_get 7 clX4 (ro_0 ht11) fl_X9_290 dX9_count_116 (by decide) rfl rfl ?_
    exact G_iret rfl dX9_count_119
  refine G_ite (fun h13 => ?_) (fun h13 => ?_)
  · refine G_tabIn (tgt := 120) (off := 119) dX9_count_1 (by rw [h13]; decide) (by rw [h13]; decide) (by rw [h13]; decide) (by decide) ?_
    refine G_aload_n 0 dX9_count_120 rfl rfl ?_
    refine G_get 3 clX9 (y1_0) fl_X9_28 dX9_count_121 (by decide) rfl rfl ?_
    exact G_iret rfl dX9_count_124
  refine G_ite (fun h14 => ?_) (fun h14 => ?_)
  · refine G_tabIn (tgt := 125) (off := 124) dX9_count_1 (by rw [h14]; decide) (by rw [h14]; decide) (by rw [h14]; decide) (by decide) ?_
    refine G_aload_n 0 dX9_count_125 rfl rfl ?_
    refine G_get 10 clX9 (y1_0) fl_X9_68 dX9_count_126 (by decide) rfl rfl ?_
    refine G_get 1 clX6 (y1_57) fl_X9_292 dX9_count_129 (by decide) rfl rfl ?_
    exact G_iret rfl dX9_count_132
  refine G_ite (fun h15 => ?_) (fun h15 => ?_)
  · refine G_tabIn (tgt := 133) (off := 132) dX9_count_1 (by rw [h15]; decide) (by rw [h15]; decide) (by rw [h15]; decide) (by decide) ?_
    refine G_aload_n 0 dX9_count_133 rfl rfl ?_
    refine G_get 9 clX9 (y1_0) fl_X9_61 dX9_count_134 (by decide) rfl rfl ?_
    refine G_get 2 clX3 (y1_47) fl_X9_232 dX9_count_137 (by decide) rfl rfl ?_
    exact G_iret rfl dX9_count_140
  refine G_ite (fun h16 => ?_) (fun h16 => ?_)
  · refine G_tabIn (tgt := 141) (off := 140) dX9_count_1 (by rw [h16]; decide) (by rw [h16]; decide) (by rw [h16]; decide) (by decide) ?_
    refine G_aload_n 0 dX9_count_141 rfl rfl ?_
    refine G_get 11 clX9 (y1_0) fl_X9_75 dX9_count_142 (by decide) rfl rfl ?_
    refine G_get 0 clX8 (y1_66) fl_X9_247 dX9_count_145 (by decide) rfl rfl ?_
    exact G_iret rfl dX9_count_148
  refine G_ite (fun h17 => ?_) (fun h17 => ?_)
  · refine G_tabIn (tgt := 149) (off := 148) dX9_count_1 (by rw [h17]; decide) (by rw [h17]; decide) (by rw [h17]; decide) (by decide) ?_
    refine G_aload_n 0 dX9_count_149 rfl rfl ?_
    refine G_get 1 clX9 (y1_0) fl_X9_79 dX9_count_150 (by decide) rfl rfl ?_
    exact G_iret rfl dX9_count_153
  refine G_ite (fun h21 => ?_) (fun h21 => ?_)
  · refine G_tabIn (tgt := 154) (off := 153) dX9_count_1 (by rw [h21]; decide) (by rw [h21]; decide) (by rw [h21]; decide) (by decide) ?_
    refine G_aload_n 0 dX9_count_154 rfl rfl ?_
    refine G_getO 4 clX9 (y1_0) fl_X9_31 dX9_count_155 (by decide) rfl (by decide) (fun t18 ht18 => ?_)
    refine G_get 0 clX4 (ro_0 ht18) fl_X9_166 dX9_count_158 (by decide) rfl rfl ?_
    refine G_iconst (v := 1) dX9_count_161 (by decide) ?_
    refine G_iadd dX9_count_162 ?_
    refine G_iconst (v := 2) dX9_count_163 (by decide) ?_
    refine G_aload_n 0 dX9_count_164 rfl rfl ?_
    refine G_getO 4 clX9 (y1_0) fl_X9_31 dX9_count_165 (by decide) rfl (by decide) (fun t19 ht19 => ?_)
    refine G_get 1 clX4 (ro_0 ht19) fl_X9_173 dX9_count_168 (by decide) rfl rfl ?_
    refine G_imul dX9_count_171 ?_
    refine G_iconst (v := 1) dX9_count_172 (by decide) ?_
    refine G_iadd dX9_count_173 ?_
    refine G_imul dX9_count_174 ?_
    refine G_iconst (v := 2) dX9_count_175 (by decide) ?_
    refine G_aload_n 0 dX9_count_176 rfl rfl ?_
    refine G_getO 4 clX9 (y1_0) fl_X9_31 dX9_count_177 (by decide) rfl (by decide) (fun t20 ht20 => ?_)
    refine G_get 2 clX4 (ro_0 ht20) fl_X9_281 dX9_count_180 (by decide) rfl rfl ?_
    refine G_imul dX9_count_183 ?_
    refine G_iconst (v := 1) dX9_count_184 (by decide) ?_
    refine G_iadd dX9_count_185 ?_
    refine G_imul dX9_count_186 ?_
    exact G_iret rfl dX9_count_187
  refine G_ite (fun h26 => ?_) (fun h26 => ?_)
  · refine G_tabIn (tgt := 188) (off := 187) dX9_count_1 (by rw [h26]; decide) (by rw [h26]; decide) (by rw [h26]; decide) (by decide) ?_
    refine G_aload_n 0 dX9_count_188 rfl rfl ?_
    refine G_get 8 clX9 (y1_0) fl_X9_54 dX9_count_189 (by decide) rfl rfl ?_
    refine G_cVv (As := []) (rest := []) (ok_X5_findFates M) rfl (y1_37) rfl mv_X9_146 dX9_count_192 rfl rfl (Nat.le_of_ble_eq_true rfl) (g_fitN (by decide) (by decide)) (fun r23 M22 => ?_)
    refine G_aload_n 0 dX9_count_195 rfl rfl ?_
    refine G_get 8 clX9 (y1_0) fl_X9_54 dX9_count_196 (by decide) rfl rfl ?_
    refine G_iconst (v := 0) dX9_count_199 (by decide) ?_
    refine G_sipush (v := 2079) dX9_count_200 (by decide) ?_
    refine G_cVi (As := [.int 0, .int 2079]) (rest := []) (ok_X5_safeAmong (0 : Int32) (2079 : Int32) M22) rfl (y1_37) rfl mv_X9_169 dX9_count_203 rfl rfl (Nat.le_of_ble_eq_true rfl) (g_fitN (by decide) (by decide)) (fun r25 M24 => ?_)
    exact G_iret rfl dX9_count_206
  refine G_ite (fun h29 => ?_) (fun h29 => ?_)
  · refine G_tabIn (tgt := 207) (off := 206) dX9_count_1 (by rw [h29]; decide) (by rw [h29]; decide) (by rw [h29]; decide) (by decide) ?_
    refine G_aload_n 0 dX9_count_207 rfl rfl ?_
    refine G_get 11 clX9 (y1_0) fl_X9_75 dX9_count_208 (by decide) rfl rfl ?_
    refine G_cVi (As := []) (rest := []) (ok_X8_standsIn M) rfl (y1_66) rfl mv_X9_241 dX9_count_211 rfl rfl (Nat.le_of_ble_eq_true rfl) (g_fitN (by decide) (by decide)) (fun r28 M27 => ?_)
    exact G_iret rfl dX9_count_214
  refine G_tabOut (tgt := 215) dX9_count_1 (by have := g_nk (k := 0) h2 (by decide); have := g_nk (k := 1) h4 (by decide); have := g_nk (k := 2) h6 (by decide); have := g_nk (k := 3) h8 (by decide); have := g_nk (k := 4) h10 (by decide); have := g_nk (k := 5) h12 (by decide); have := g_nk (k := 6) h13 (by decide); have := g_nk (k := 7) h14 (by decide); have := g_nk (k := 8) h15 (by decide); have := g_nk (k := 9) h16 (by decide); have := g_nk (k := 10) h17 (by decide); have := g_nk (k := 11) h21 (by decide); have := g_nk (k := 12) h26 (by decide); have := g_nk (k := 13) h29 (by decide); omega) (by decide) ?_
  refine G_iconst (v := (-1)) dX9_count_215 (by decide) ?_
  exact G_iret rfl dX9_count_216
-- X10_thrown
def f_X10_thrown (M : gM) : Option (Int32 × gM) := (some ((M.1 0 0), M))
set_option maxRecDepth 100000 in
set_option maxHeartbeats 4000000 in
theorem ok_X10_thrown (M : gM) : g_met Y2 yX10_thrown jX10_thrown g_ei (fun Z => [.ref (Z.2.1 0)]) M (f_X10_thrown M) := by
  refine g_enter (fun Z => [(0, .ref (Z.2.1 0))]) (by decide) rfl (fun Z => Nat.le_of_ble_eq_true rfl) (fun Z => rfl) (fun X => ?_)
  rw [f_X10_thrown]
  refine G_aload_n 0 dX10_thrown_0 rfl rfl ?_
  refine G_get 0 clX10 (y2_0) fl_X10_211 dX10_thrown_1 (by decide) rfl rfl ?_
  exact G_iret rfl dX10_thrown_4
-- X10_raise
def f_X10_raise (a1 : Int32) (M : gM) : Option (Int32 × gM) := (g_m (sI M 0 0 a1) (fun M1 => (some ((0 : Int32), M1))))
set_option maxRecDepth 100000 in
set_option maxHeartbeats 4000000 in
theorem ok_X10_raise (a1 : Int32) (M : gM) : g_met Y2 yX10_raise jX10_raise g_ei (fun Z => [.ref (Z.2.1 0), .int a1]) M (f_X10_raise a1 M) := by
  refine g_enter (fun Z => [(0, .ref (Z.2.1 0)), (1, .int a1)]) (by decide) rfl (fun Z => Nat.le_of_ble_eq_true rfl) (fun Z => rfl) (fun X => ?_)
  rw [f_X10_raise]
  refine G_aload_n 0 dX10_raise_0 rfl rfl ?_
  refine G_iload_n 1 dX10_raise_1 rfl rfl ?_
  refine G_putI 0 clX10 (y2_0) fl_X10_211 dX10_raise_2 (by decide) rfl rfl rfl ?_
  refine G_m (fun M1 => ?_)
  refine G_iconst (v := 0) dX10_raise_5 (by decide) ?_
  exact G_iret rfl dX10_raise_6
-- X10_begin
def f_X10_begin (a1 : Int32) (M : gM) : Option (Unit × gM) := (g_ck a1 2 (g_m (sI M 6 (tn a1) (4 : Int32)) (fun M1 => (g_ck a1 2 (g_m (sI M1 7 (tn a1) (6 : Int32)) (fun M2 => (g_ck a1 2 (g_m (sI M2 8 (tn a1) (3 : Int32)) (fun M3 => (g_ck ((2 : Int32) * a1) 4 (g_m (sI M3 9 (tn ((2 : Int32) * a1)) ((-1) : Int32)) (fun M4 => (g_ck (((2 : Int32) * a1) + (1 : Int32)) 4 (g_m (sI M4 9 (tn (((2 : Int32) * a1) + (1 : Int32))) ((-1) : Int32)) (fun M5 => (g_ck a1 2 (g_m (sI M5 11 (tn a1) (0 : Int32)) (fun M6 => (g_ck a1 2 (g_m (sI M6 17 (tn a1) (0 : Int32)) (fun M7 => (g_ck a1 2 (g_m (sI M7 24 (tn a1) (0 : Int32)) (fun M8 => (g_ck a1 2 (g_m (sI M8 28 (tn a1) ((500 : Int32) * a1)) (fun M9 => (g_ck a1 2 (g_m (sI M9 31 (tn a1) ((200 : Int32) * a1)) (fun M10 => (some ((), M10))))))))))))))))))))))))))))))))
set_option maxRecDepth 100000 in
set_option maxHeartbeats 4000000 in
theorem ok_X10_begin (a1 : Int32) (M : gM) : g_met Y2 yX10_begin jX10_begin g_ev (fun Z => [.ref (Z.2.1 0), .int a1]) M (f_X10_begin a1 M) := by
  refine g_enter (fun Z => [(0, .ref (Z.2.1 0)), (1, .int a1)]) (by decide) rfl (fun Z => Nat.le_of_ble_eq_true rfl) (fun Z => rfl) (fun X => ?_)
  rw [f_X10_begin]
  refine G_aload_n 0 dX10_begin_0 rfl rfl ?_
  refine G_get 15 clX10 (y2_0) fl_X10_30 dX10_begin_1 (by decide) rfl rfl ?_
  refine G_iload_n 1 dX10_begin_4 rfl rfl ?_
  refine G_iconst (v := 4) dX10_begin_5 (by decide) ?_
  refine G_iast (y2_6) dX10_begin_6 ?_
  refine G_m (fun M1 => ?_)
  refine G_aload_n 0 dX10_begin_7 rfl rfl ?_
  refine G_get 16 clX10 (y2_0) fl_X10_33 dX10_begin_8 (by decide) rfl rfl ?_
  refine G_iload_n 1 dX10_begin_11 rfl rfl ?_
  refine G_bipush (v := 6) dX10_begin_12 (by decide) ?_
  refine G_iast (y2_7) dX10_begin_14 ?_
  refine G_m (fun M2 => ?_)
  refine G_aload_n 0 dX10_begin_15 rfl rfl ?_
  refine G_get 17 clX10 (y2_0) fl_X10_36 dX10_begin_16 (by decide) rfl rfl ?_
  refine G_iload_n 1 dX10_begin_19 rfl rfl ?_
  refine G_iconst (v := 3) dX10_begin_20 (by decide) ?_
  refine G_iast (y2_8) dX10_begin_21 ?_
  refine G_m (fun M3 => ?_)
  refine G_aload_n 0 dX10_begin_22 rfl rfl ?_
  refine G_get 18 clX10 (y2_0) fl_X10_39 dX10_begin_23 (by decide) rfl rfl ?_
  refine G_iconst (v := 2) dX10_begin_26 (by decide) ?_
  refine G_iload_n 1 dX10_begin_27 rfl rfl ?_
  refine G_imul dX10_begin_28 ?_
  refine G_iconst (v := (-1)) dX10_begin_29 (by decide) ?_
  refine G_iast (y2_9) dX10_begin_30 ?_
  refine G_m (fun M4 => ?_)
  refine G_aload_n 0 dX10_begin_31 rfl rfl ?_
  refine G_get 18 clX10 (y2_0) fl_X10_39 dX10_begin_32 (by decide) rfl rfl ?_
  refine G_iconst (v := 2) dX10_begin_35 (by decide) ?_
  refine G_iload_n 1 dX10_begin_36 rfl rfl ?_
  refine G_imul dX10_begin_37 ?_
  refine G_iconst (v := 1) dX10_begin_38 (by decide) ?_
  refine G_iadd dX10_begin_39 ?_
  refine G_iconst (v := (-1)) dX10_begin_40 (by decide) ?_
  refine G_iast (y2_9) dX10_begin_41 ?_
  refine G_m (fun M5 => ?_)
  refine G_aload_n 0 dX10_begin_42 rfl rfl ?_
  refine G_get 20 clX10 (y2_0) fl_X10_45 dX10_begin_43 (by decide) rfl rfl ?_
  refine G_iload_n 1 dX10_begin_46 rfl rfl ?_
  refine G_iconst (v := 0) dX10_begin_47 (by decide) ?_
  refine G_iast (y2_11) dX10_begin_48 ?_
  refine G_m (fun M6 => ?_)
  refine G_aload_n 0 dX10_begin_49 rfl rfl ?_
  refine G_get 26 clX10 (y2_0) fl_X10_63 dX10_begin_50 (by decide) rfl rfl ?_
  refine G_iload_n 1 dX10_begin_53 rfl rfl ?_
  refine G_iconst (v := 0) dX10_begin_54 (by decide) ?_
  refine G_iast (y2_17) dX10_begin_55 ?_
  refine G_m (fun M7 => ?_)
  refine G_aload_n 0 dX10_begin_56 rfl rfl ?_
  refine G_get 33 clX10 (y2_0) fl_X10_84 dX10_begin_57 (by decide) rfl rfl ?_
  refine G_iload_n 1 dX10_begin_60 rfl rfl ?_
  refine G_iconst (v := 0) dX10_begin_61 (by decide) ?_
  refine G_iast (y2_24) dX10_begin_62 ?_
  refine G_m (fun M8 => ?_)
  refine G_aload_n 0 dX10_begin_63 rfl rfl ?_
  refine G_get 37 clX10 (y2_0) fl_X10_96 dX10_begin_64 (by decide) rfl rfl ?_
  refine G_iload_n 1 dX10_begin_67 rfl rfl ?_
  refine G_sipush (v := 500) dX10_begin_68 (by decide) ?_
  refine G_iload_n 1 dX10_begin_71 rfl rfl ?_
  refine G_imul dX10_begin_72 ?_
  refine G_iast (y2_28) dX10_begin_73 ?_
  refine G_m (fun M9 => ?_)
  refine G_aload_n 0 dX10_begin_74 rfl rfl ?_
  refine G_get 40 clX10 (y2_0) fl_X10_105 dX10_begin_75 (by decide) rfl rfl ?_
  refine G_iload_n 1 dX10_begin_78 rfl rfl ?_
  refine G_sipush (v := 200) dX10_begin_79 (by decide) ?_
  refine G_iload_n 1 dX10_begin_82 rfl rfl ?_
  refine G_imul dX10_begin_83 ?_
  refine G_iast (y2_31) dX10_begin_84 ?_
  refine G_m (fun M10 => ?_)
  exact G_vret rfl dX10_begin_85
-- X10_typed
def f_X10_typed_2 : Nat → Int32 → Int32 → gM → Option (Unit × gM)
  | 0, _, _, _ => none
  | n + 1, x1, x2, M => (if (4 : Int32) ≤ x2 then (some ((), M)) else (g_ck (M.1 0 1) 2000 (g_m (sI M 1 (tn (M.1 0 1)) ((x1 >>> (((24 : Int32) - ((8 : Int32) * x2)) &&& 31)) &&& (255 : Int32))) (fun M1 => (g_m (sI M1 0 1 ((M1.1 0 1) + (1 : Int32))) (fun M2 => (f_X10_typed_2 n x1 (x2 + 1) M2)))))))
set_option maxRecDepth 100000 in
set_option maxHeartbeats 4000000 in
theorem o_X10_typed_2 {X : gX} : ∀ (n : Nat) (x1 : Int32) (x2 : Int32) (M : gM), G Y2 jX10_typed X (g_fin g_ev) 2 [(0, .ref (ad X 0)), (1, .int x1), (2, .int x2)] [] M (f_X10_typed_2 n x1 x2 M) := by
  intro n
  induction n with
  | zero => intro x1 x2 M; exact G_none
  | succ n ih =>
    intro x1 x2 M
    rw [f_X10_typed_2]
    refine G_iload_n 2 dX10_typed_2 rfl rfl ?_
    refine G_iconst (v := 4) dX10_typed_3 (by decide) ?_
    refine G_icmp_ge (tgt := 45) dX10_typed_4 (by decide) ?_ ?_
    · exact G_vret rfl dX10_typed_45
    · refine G_aload_n 0 dX10_typed_7 rfl rfl ?_
      refine G_get 2 clX10 (y2_0) fl_X10_7 dX10_typed_8 (by decide) rfl rfl ?_
      refine G_aload_n 0 dX10_typed_11 rfl rfl ?_
      refine G_get 1 clX10 (y2_0) fl_X10_214 dX10_typed_12 (by decide) rfl rfl ?_
      refine G_iload_n 1 dX10_typed_15 rfl rfl ?_
      refine G_bipush (v := 24) dX10_typed_16 (by decide) ?_
      refine G_bipush (v := 8) dX10_typed_18 (by decide) ?_
      refine G_iload_n 2 dX10_typed_20 rfl rfl ?_
      refine G_imul dX10_typed_21 ?_
      refine G_isub dX10_typed_22 ?_
      refine G_ishr dX10_typed_23 ?_
      refine G_sipush (v := 255) dX10_typed_24 (by decide) ?_
      refine G_iand dX10_typed_27 ?_
      refine G_iast (y2_1) dX10_typed_28 ?_
      refine G_m (fun M1 => ?_)
      refine G_aload_n 0 dX10_typed_29 rfl rfl ?_
      refine G_dup dX10_typed_30 rfl ?_
      refine G_get 1 clX10 (y2_0) fl_X10_214 dX10_typed_31 (by decide) rfl rfl ?_
      refine G_iconst (v := 1) dX10_typed_34 (by decide) ?_
      refine G_iadd dX10_typed_35 ?_
      refine G_putI 1 clX10 (y2_0) fl_X10_214 dX10_typed_36 (by decide) rfl rfl rfl ?_
      refine G_m (fun M2 => ?_)
      refine G_iinc (v := x2 + 1) (lv' := [(2, .int (x2 + 1)), (0, .ref (ad X 0)), (1, .int x1)]) 2 dX10_typed_39 rfl rfl (by decide) rfl ?_
      refine G_goto (tgt := 2) dX10_typed_42 (by decide) ?_
      exact G_sub [1, 2, 0] rfl (ih x1 (x2 + 1) M2)
def f_X10_typed (a1 : Int32) (M : gM) : Option (Unit × gM) := (f_X10_typed_2 FU a1 (0 : Int32) M)
set_option maxRecDepth 100000 in
set_option maxHeartbeats 4000000 in
theorem ok_X10_typed (a1 : Int32) (M : gM) : g_met Y2 yX10_typed jX10_typed g_ev (fun Z => [.ref (Z.2.1 0), .int a1]) M (f_X10_typed a1 M) := by
  refine g_enter (fun Z => [(0, .ref (Z.2.1 0)), (1, .int a1)]) (by decide) rfl (fun Z => Nat.le_of_ble_eq_true rfl) (fun Z => rfl) (fun X => ?_)
  rw [f_X10_typed]
  refine G_iconst (v := 0) dX10_typed_0 (by decide) ?_
  refine G_istore_n (lv' := [(2, .int 0), (0, .ref (ad X 0)), (1, .int a1)]) dX10_typed_1 rfl (by decide) rfl ?_
  exact G_sub [1, 2, 0] rfl (o_X10_typed_2 FU a1 (0 : Int32) M)
-- X10_feed
def f_X10_feed (a1 : Int32) (a2 : Int32) (a3 : Int32) (a4 : Int32) (a5 : Int32) (M : gM) : Option (Int32 × gM) := (if ((M.1 0 1) + (20 : Int32)) ≤ (2000 : Int32) then (g_b (f_X10_typed a1 M) (fun r2 M1 => (g_b (f_X10_typed a2 M1) (fun r4 M3 => (g_b (f_X10_typed a3 M3) (fun r6 M5 => (g_b (f_X10_typed a4 M5) (fun r8 M7 => (g_b (f_X10_typed a5 M7) (fun r10 M9 => (some ((M9.1 0 1), M9)))))))))))) else (some (((-1) : Int32), M)))
set_option maxRecDepth 100000 in
set_option maxHeartbeats 4000000 in
theorem ok_X10_feed (a1 : Int32) (a2 : Int32) (a3 : Int32) (a4 : Int32) (a5 : Int32) (M : gM) : g_met Y2 yX10_feed jX10_feed g_ei (fun Z => [.ref (Z.2.1 0), .int a1, .int a2, .int a3, .int a4, .int a5]) M (f_X10_feed a1 a2 a3 a4 a5 M) := by
  refine g_enter (fun Z => [(0, .ref (Z.2.1 0)), (1, .int a1), (2, .int a2), (3, .int a3), (4, .int a4), (5, .int a5)]) (by decide) rfl (fun Z => Nat.le_of_ble_eq_true rfl) (fun Z => rfl) (fun X => ?_)
  rw [f_X10_feed]
  refine G_aload_n 0 dX10_feed_0 rfl rfl ?_
  refine G_get 1 clX10 (y2_0) fl_X10_214 dX10_feed_1 (by decide) rfl rfl ?_
  refine G_bipush (v := 20) dX10_feed_4 (by decide) ?_
  refine G_iadd dX10_feed_6 ?_
  refine G_sipush (v := 2000) dX10_feed_7 (by decide) ?_
  refine G_icmp_le (tgt := 15) dX10_feed_10 (by decide) ?_ ?_
  · refine G_aload_n 0 dX10_feed_15 rfl rfl ?_
    refine G_iload_n 1 dX10_feed_16 rfl rfl ?_
    refine G_cVv (As := [.int a1]) (rest := []) (ok_X10_typed a1 M) rfl (y2_0) rfl mv_X10_217 dX10_feed_17 rfl rfl (Nat.le_of_ble_eq_true rfl) (g_fitN (by decide) (by decide)) (fun r2 M1 => ?_)
    refine G_aload_n 0 dX10_feed_20 rfl rfl ?_
    refine G_iload_n 2 dX10_feed_21 rfl rfl ?_
    refine G_cVv (As := [.int a2]) (rest := []) (ok_X10_typed a2 M1) rfl (y2_0) rfl mv_X10_217 dX10_feed_22 rfl rfl (Nat.le_of_ble_eq_true rfl) (g_fitN (by decide) (by decide)) (fun r4 M3 => ?_)
    refine G_aload_n 0 dX10_feed_25 rfl rfl ?_
    refine G_iload_n 3 dX10_feed_26 rfl rfl ?_
    refine G_cVv (As := [.int a3]) (rest := []) (ok_X10_typed a3 M3) rfl (y2_0) rfl mv_X10_217 dX10_feed_27 rfl rfl (Nat.le_of_ble_eq_true rfl) (g_fitN (by decide) (by decide)) (fun r6 M5 => ?_)
    refine G_aload_n 0 dX10_feed_30 rfl rfl ?_
    refine G_iload 4 dX10_feed_31 rfl ?_
    refine G_cVv (As := [.int a4]) (rest := []) (ok_X10_typed a4 M5) rfl (y2_0) rfl mv_X10_217 dX10_feed_33 rfl rfl (Nat.le_of_ble_eq_true rfl) (g_fitN (by decide) (by decide)) (fun r8 M7 => ?_)
    refine G_aload_n 0 dX10_feed_36 rfl rfl ?_
    refine G_iload 5 dX10_feed_37 rfl ?_
    refine G_cVv (As := [.int a5]) (rest := []) (ok_X10_typed a5 M7) rfl (y2_0) rfl mv_X10_217 dX10_feed_39 rfl rfl (Nat.le_of_ble_eq_true rfl) (g_fitN (by decide) (by decide)) (fun r10 M9 => ?_)
    refine G_aload_n 0 dX10_feed_42 rfl rfl ?_
    refine G_get 1 clX10 (y2_0) fl_X10_214 dX10_feed_43 (by decide) rfl rfl ?_
    exact G_iret rfl dX10_feed_46
  · refine G_iconst (v := (-1)) dX10_feed_13 (by decide) ?_
    exact G_iret rfl dX10_feed_14
-- X10_back
def f_X10_back (a1 : Int32) (M : gM) : Option (Int32 × gM) := (if a1 < 0 then (some (((-1) : Int32), M)) else (if a1 ≤ (M.1 0 1) then (g_m (sI M 0 1 ((M.1 0 1) - a1)) (fun M1 => (some ((M1.1 0 1), M1)))) else (some (((-1) : Int32), M))))
set_option maxRecDepth 100000 in
set_option maxHeartbeats 4000000 in
theorem ok_X10_back (a1 : Int32) (M : gM) : g_met Y2 yX10_back jX10_back g_ei (fun Z => [.ref (Z.2.1 0), .int a1]) M (f_X10_back a1 M) := by
  refine g_enter (fun Z => [(0, .ref (Z.2.1 0)), (1, .int a1)]) (by decide) rfl (fun Z => Nat.le_of_ble_eq_true rfl) (fun Z => rfl) (fun X => ?_)
  rw [f_X10_back]
  refine G_iload_n 1 dX10_back_0 rfl rfl ?_
  refine G_if_lt (tgt := 12) dX10_back_1 (by decide) ?_ ?_
  · refine G_iconst (v := (-1)) dX10_back_12 (by decide) ?_
    exact G_iret rfl dX10_back_13
  · refine G_iload_n 1 dX10_back_4 rfl rfl ?_
    refine G_aload_n 0 dX10_back_5 rfl rfl ?_
    refine G_get 1 clX10 (y2_0) fl_X10_214 dX10_back_6 (by decide) rfl rfl ?_
    refine G_icmp_le (tgt := 14) dX10_back_9 (by decide) ?_ ?_
    · refine G_aload_n 0 dX10_back_14 rfl rfl ?_
      refine G_aload_n 0 dX10_back_15 rfl rfl ?_
      refine G_get 1 clX10 (y2_0) fl_X10_214 dX10_back_16 (by decide) rfl rfl ?_
      refine G_iload_n 1 dX10_back_19 rfl rfl ?_
      refine G_isub dX10_back_20 ?_
      refine G_putI 1 clX10 (y2_0) fl_X10_214 dX10_back_21 (by decide) rfl rfl rfl ?_
      refine G_m (fun M1 => ?_)
      refine G_aload_n 0 dX10_back_24 rfl rfl ?_
      refine G_get 1 clX10 (y2_0) fl_X10_214 dX10_back_25 (by decide) rfl rfl ?_
      exact G_iret rfl dX10_back_28
    · refine G_iconst (v := (-1)) dX10_back_12 (by decide) ?_
      exact G_iret rfl dX10_back_13
-- X10_byteAt
def f_X10_byteAt (a1 : Int32) (M : gM) : Option (Int32 × gM) := (if (M.1 0 1) ≤ a1 then (some ((0 : Int32), M)) else (g_ck a1 2000 (some ((M.1 1 (tn a1)), M))))
set_option maxRecDepth 100000 in
set_option maxHeartbeats 4000000 in
theorem ok_X10_byteAt (a1 : Int32) (M : gM) : g_met Y2 yX10_byteAt jX10_byteAt g_ei (fun Z => [.ref (Z.2.1 0), .int a1]) M (f_X10_byteAt a1 M) := by
  refine g_enter (fun Z => [(0, .ref (Z.2.1 0)), (1, .int a1)]) (by decide) rfl (fun Z => Nat.le_of_ble_eq_true rfl) (fun Z => rfl) (fun X => ?_)
  rw [f_X10_byteAt]
  refine G_iload_n 1 dX10_byteAt_0 rfl rfl ?_
  refine G_aload_n 0 dX10_byteAt_1 rfl rfl ?_
  refine G_get 1 clX10 (y2_0) fl_X10_214 dX10_byteAt_2 (by decide) rfl rfl ?_
  refine G_icmp_ge (tgt := 17) dX10_byteAt_5 (by decide) ?_ ?_
  · refine G_iconst (v := 0) dX10_byteAt_17 (by decide) ?_
    exact G_iret rfl dX10_byteAt_18
  · refine G_aload_n 0 dX10_byteAt_8 rfl rfl ?_
    refine G_get 2 clX10 (y2_0) fl_X10_7 dX10_byteAt_9 (by decide) rfl rfl ?_
    refine G_iload_n 1 dX10_byteAt_12 rfl rfl ?_
    refine G_iald (y2_1) dX10_byteAt_13 ?_
    refine G_goto (tgt := 18) dX10_byteAt_14 (by decide) ?_
    exact G_iret rfl dX10_byteAt_18
-- X10_isLetter
def f_X10_isLetter (a1 : Int32) (M : gM) : Option (Bool × gM) := (g_b (f_X10_byteAt a1 M) (fun r2 M1 => (if r2 < (97 : Int32) then (some (false, M1)) else (g_b (f_X10_byteAt a1 M1) (fun r4 M3 => (if (122 : Int32) < r4 then (some (false, M3)) else (some (true, M3))))))))
set_option maxRecDepth 100000 in
set_option maxHeartbeats 4000000 in
theorem ok_X10_isLetter (a1 : Int32) (M : gM) : g_met Y2 yX10_isLetter jX10_isLetter g_eb (fun Z => [.ref (Z.2.1 0), .int a1]) M (f_X10_isLetter a1 M) := by
  refine g_enter (fun Z => [(0, .ref (Z.2.1 0)), (1, .int a1)]) (by decide) rfl (fun Z => Nat.le_of_ble_eq_true rfl) (fun Z => rfl) (fun X => ?_)
  rw [f_X10_isLetter]
  refine G_aload_n 0 dX10_isLetter_0 rfl rfl ?_
  refine G_iload_n 1 dX10_isLetter_1 rfl rfl ?_
  refine G_cVi (As := [.int a1]) (rest := []) (ok_X10_byteAt a1 M) rfl (y2_0) rfl mv_X10_220 dX10_isLetter_2 rfl rfl (Nat.le_of_ble_eq_true rfl) (g_fitN (by decide) (by decide)) (fun r2 M1 => ?_)
  refine G_bipush (v := 97) dX10_isLetter_5 (by decide) ?_
  refine G_icmp_lt (tgt := 24) dX10_isLetter_7 (by decide) ?_ ?_
  · refine G_iconst (v := 0) dX10_isLetter_24 (by decide) ?_
    exact G_zret (b := false) rfl dX10_isLetter_25
  · refine G_aload_n 0 dX10_isLetter_10 rfl rfl ?_
    refine G_iload_n 1 dX10_isLetter_11 rfl rfl ?_
    refine G_cVi (As := [.int a1]) (rest := []) (ok_X10_byteAt a1 M1) rfl (y2_0) rfl mv_X10_220 dX10_isLetter_12 rfl rfl (Nat.le_of_ble_eq_true rfl) (g_fitN (by decide) (by decide)) (fun r4 M3 => ?_)
    refine G_bipush (v := 122) dX10_isLetter_15 (by decide) ?_
    refine G_icmp_gt (tgt := 24) dX10_isLetter_17 (by decide) ?_ ?_
    · refine G_iconst (v := 0) dX10_isLetter_24 (by decide) ?_
      exact G_zret (b := false) rfl dX10_isLetter_25
    · refine G_iconst (v := 1) dX10_isLetter_20 (by decide) ?_
      refine G_goto (tgt := 25) dX10_isLetter_21 (by decide) ?_
      exact G_zret (b := true) rfl dX10_isLetter_25
-- X10_isDigit
def f_X10_isDigit (a1 : Int32) (M : gM) : Option (Bool × gM) := (g_b (f_X10_byteAt a1 M) (fun r2 M1 => (if r2 < (48 : Int32) then (some (false, M1)) else (g_b (f_X10_byteAt a1 M1) (fun r4 M3 => (if (57 : Int32) < r4 then (some (false, M3)) else (some (true, M3))))))))
set_option maxRecDepth 100000 in
set_option maxHeartbeats 4000000 in
theorem ok_X10_isDigit (a1 : Int32) (M : gM) : g_met Y2 yX10_isDigit jX10_isDigit g_eb (fun Z => [.ref (Z.2.1 0), .int a1]) M (f_X10_isDigit a1 M) := by
  refine g_enter (fun Z => [(0, .ref (Z.2.1 0)), (1, .int a1)]) (by decide) rfl (fun Z => Nat.le_of_ble_eq_true rfl) (fun Z => rfl) (fun X => ?_)
  rw [f_X10_isDigit]
  refine G_aload_n 0 dX10_isDigit_0 rfl rfl ?_
  refine G_iload_n 1 dX10_isDigit_1 rfl rfl ?_
  refine G_cVi (As := [.int a1]) (rest := []) (ok_X10_byteAt a1 M) rfl (y2_0) rfl mv_X10_220 dX10_isDigit_2 rfl rfl (Nat.le_of_ble_eq_true rfl) (g_fitN (by decide) (by decide)) (fun r2 M1 => ?_)
  refine G_bipush (v := 48) dX10_isDigit_5 (by decide) ?_
  refine G_icmp_lt (tgt := 24) dX10_isDigit_7 (by decide) ?_ ?_
  · refine G_iconst (v := 0) dX10_isDigit_24 (by decide) ?_
    exact G_zret (b := false) rfl dX10_isDigit_25
  · refine G_aload_n 0 dX10_isDigit_10 rfl rfl ?_
    refine G_iload_n 1 dX10_isDigit_11 rfl rfl ?_
    refine G_cVi (As := [.int a1]) (rest := []) (ok_X10_byteAt a1 M1) rfl (y2_0) rfl mv_X10_220 dX10_isDigit_12 rfl rfl (Nat.le_of_ble_eq_true rfl) (g_fitN (by decide) (by decide)) (fun r4 M3 => ?_)
    refine G_bipush (v := 57) dX10_isDigit_15 (by decide) ?_
    refine G_icmp_gt (tgt := 24) dX10_isDigit_17 (by decide) ?_ ?_
    · refine G_iconst (v := 0) dX10_isDigit_24 (by decide) ?_
      exact G_zret (b := false) rfl dX10_isDigit_25
    · refine G_iconst (v := 1) dX10_isDigit_20 (by decide) ?_
      refine G_goto (tgt := 25) dX10_isDigit_21 (by decide) ?_
      exact G_zret (b := true) rfl dX10_isDigit_25
-- X10_token
def f_X10_token (a1 : Int32) (a2 : Int32) (a3 : Int32) (M : gM) : Option (Unit × gM) := (g_ck (M.1 0 3) 2001 (g_m (sI M 2 (tn (M.1 0 3)) a1) (fun M1 => (g_ck (M1.1 0 3) 2001 (g_m (sI M1 3 (tn (M1.1 0 3)) a2) (fun M2 => (g_ck (M2.1 0 3) 2001 (g_m (sI M2 4 (tn (M2.1 0 3)) a3) (fun M3 => (g_m (sI M3 0 3 ((M3.1 0 3) + (1 : Int32))) (fun M4 => (some ((), M4)))))))))))))
set_option maxRecDepth 100000 in
set_option maxHeartbeats 4000000 in
theorem ok_X10_token (a1 : Int32) (a2 : Int32) (a3 : Int32) (M : gM) : g_met Y2 yX10_token jX10_token g_ev (fun Z => [.ref (Z.2.1 0), .int a1, .int a2, .int a3]) M (f_X10_token a1 a2 a3 M) := by
  refine g_enter (fun Z => [(0, .ref (Z.2.1 0)), (1, .int a1), (2, .int a2), (3, .int a3)]) (by decide) rfl (fun Z => Nat.le_of_ble_eq_true rfl) (fun Z => rfl) (fun X => ?_)
  rw [f_X10_token]
  refine G_aload_n 0 dX10_token_0 rfl rfl ?_
  refine G_get 4 clX10 (y2_0) fl_X10_13 dX10_token_1 (by decide) rfl rfl ?_
  refine G_aload_n 0 dX10_token_4 rfl rfl ?_
  refine G_get 3 clX10 (y2_0) fl_X10_224 dX10_token_5 (by decide) rfl rfl ?_
  refine G_iload_n 1 dX10_token_8 rfl rfl ?_
  refine G_iast (y2_2) dX10_token_9 ?_
  refine G_m (fun M1 => ?_)
  refine G_aload_n 0 dX10_token_10 rfl rfl ?_
  refine G_get 5 clX10 (y2_0) fl_X10_16 dX10_token_11 (by decide) rfl rfl ?_
  refine G_aload_n 0 dX10_token_14 rfl rfl ?_
  refine G_get 3 clX10 (y2_0) fl_X10_224 dX10_token_15 (by decide) rfl rfl ?_
  refine G_iload_n 2 dX10_token_18 rfl rfl ?_
  refine G_iast (y2_3) dX10_token_19 ?_
  refine G_m (fun M2 => ?_)
  refine G_aload_n 0 dX10_token_20 rfl rfl ?_
  refine G_get 6 clX10 (y2_0) fl_X10_19 dX10_token_21 (by decide) rfl rfl ?_
  refine G_aload_n 0 dX10_token_24 rfl rfl ?_
  refine G_get 3 clX10 (y2_0) fl_X10_224 dX10_token_25 (by decide) rfl rfl ?_
  refine G_iload_n 3 dX10_token_28 rfl rfl ?_
  refine G_iast (y2_4) dX10_token_29 ?_
  refine G_m (fun M3 => ?_)
  refine G_aload_n 0 dX10_token_30 rfl rfl ?_
  refine G_dup dX10_token_31 rfl ?_
  refine G_get 3 clX10 (y2_0) fl_X10_224 dX10_token_32 (by decide) rfl rfl ?_
  refine G_iconst (v := 1) dX10_token_35 (by decide) ?_
  refine G_iadd dX10_token_36 ?_
  refine G_putI 3 clX10 (y2_0) fl_X10_224 dX10_token_37 (by decide) rfl rfl rfl ?_
  refine G_m (fun M4 => ?_)
  exact G_vret rfl dX10_token_40
-- X10_wordOf
def f_X10_wordOf (a0 : Int64) (M : gM) : Option (Int32 × gM) := (if (lg_cmp a0 (365666 : Int64)) = 0 then (some ((0 : Int32), M)) else (if (lg_cmp a0 (459383 : Int64)) = 0 then (some ((1 : Int32), M)) else (if (lg_cmp a0 (119360 : Int64)) = 0 then (some ((2 : Int32), M)) else (if (lg_cmp a0 (10557034 : Int64)) = 0 then (some ((3 : Int32), M)) else (if (lg_cmp a0 (239882 : Int64)) = 0 then (some ((4 : Int32), M)) else (if (lg_cmp a0 (830 : Int64)) = 0 then (some ((5 : Int32), M)) else (if (lg_cmp a0 (4147840 : Int64)) = 0 then (some ((6 : Int32), M)) else (if (lg_cmp a0 (261064536 : Int64)) = 0 then (some ((7 : Int32), M)) else (if (lg_cmp a0 (249 : Int64)) = 0 then (some ((8 : Int32), M)) else (if (lg_cmp a0 (123 : Int64)) = 0 then (some ((9 : Int32), M)) else (if (lg_cmp a0 (10631 : Int64)) = 0 then (some ((10 : Int32), M)) else (if (lg_cmp a0 (1111 : Int64)) = 0 then (some ((11 : Int32), M)) else (if (lg_cmp a0 (423 : Int64)) = 0 then (some ((12 : Int32), M)) else (if (lg_cmp a0 (47 : Int64)) = 0 then (some ((13 : Int32), M)) else (if (lg_cmp a0 (330758 : Int64)) = 0 then (some ((14 : Int32), M)) else (if (lg_cmp a0 (153623 : Int64)) = 0 then (some ((15 : Int32), M)) else (if (lg_cmp a0 (326192 : Int64)) = 0 then (some ((16 : Int32), M)) else (some (((-1) : Int32), M)))))))))))))))))))
set_option maxRecDepth 100000 in
set_option maxHeartbeats 4000000 in
theorem ok_X10_wordOf (a0 : Int64) (M : gM) : g_met Y2 yX10_wordOf jX10_wordOf g_ei (fun Z => [.long a0]) M (f_X10_wordOf a0 M) := by
  refine g_enter (fun Z => [(0, .long a0)]) (by decide) rfl (fun Z => Nat.le_of_ble_eq_true rfl) (fun Z => rfl) (fun X => ?_)
  rw [f_X10_wordOf]
  refine G_lload_n 0 dX10_wordOf_0 rfl rfl ?_
  refine G_ldc2 (v := 365666) cl_X10_227 dX10_wordOf_1 ?_
  refine G_lcmp dX10_wordOf_4 ?_
  refine G_if_ne (tgt := 10) dX10_wordOf_5 (by decide) ?_ ?_
  · refine G_lload_n 0 dX10_wordOf_10 rfl rfl ?_
    refine G_ldc2 (v := 459383) cl_X10_229 dX10_wordOf_11 ?_
    refine G_lcmp dX10_wordOf_14 ?_
    refine G_if_ne (tgt := 20) dX10_wordOf_15 (by decide) ?_ ?_
    · refine G_lload_n 0 dX10_wordOf_20 rfl rfl ?_
      refine G_ldc2 (v := 119360) cl_X10_231 dX10_wordOf_21 ?_
      refine G_lcmp dX10_wordOf_24 ?_
      refine G_if_ne (tgt := 30) dX10_wordOf_25 (by decide) ?_ ?_
      · refine G_lload_n 0 dX10_wordOf_30 rfl rfl ?_
        refine G_ldc2 (v := 10557034) cl_X10_233 dX10_wordOf_31 ?_
        refine G_lcmp dX10_wordOf_34 ?_
        refine G_if_ne (tgt := 40) dX10_wordOf_35 (by decide) ?_ ?_
        · refine G_lload_n 0 dX10_wordOf_40 rfl rfl ?_
          refine G_ldc2 (v := 239882) cl_X10_235 dX10_wordOf_41 ?_
          refine G_lcmp dX10_wordOf_44 ?_
          refine G_if_ne (tgt := 50) dX10_wordOf_45 (by decide) ?_ ?_
          · refine G_lload_n 0 dX10_wordOf_50 rfl rfl ?_
            refine G_ldc2 (v := 830) cl_X10_237 dX10_wordOf_51 ?_
            refine G_lcmp dX10_wordOf_54 ?_
            refine G_if_ne (tgt := 60) dX10_wordOf_55 (by decide) ?_ ?_
            · refine G_lload_n 0 dX10_wordOf_60 rfl rfl ?_
              refine G_ldc2 (v := 4147840) cl_X10_239 dX10_wordOf_61 ?_
              refine G_lcmp dX10_wordOf_64 ?_
              refine G_if_ne (tgt := 71) dX10_wordOf_65 (by decide) ?_ ?_
              · refine G_lload_n 0 dX10_wordOf_71 rfl rfl ?_
                refine G_ldc2 (v := 261064536) cl_X10_241 dX10_wordOf_72 ?_
                refine G_lcmp dX10_wordOf_75 ?_
                refine G_if_ne (tgt := 82) dX10_wordOf_76 (by decide) ?_ ?_
                · refine G_lload_n 0 dX10_wordOf_82 rfl rfl ?_
                  refine G_ldc2 (v := 249) cl_X10_243 dX10_wordOf_83 ?_
                  refine G_lcmp dX10_wordOf_86 ?_
                  refine G_if_ne (tgt := 93) dX10_wordOf_87 (by decide) ?_ ?_
                  · refine G_lload_n 0 dX10_wordOf_93 rfl rfl ?_
                    refine G_ldc2 (v := 123) cl_X10_245 dX10_wordOf_94 ?_
                    refine G_lcmp dX10_wordOf_97 ?_
                    refine G_if_ne (tgt := 104) dX10_wordOf_98 (by decide) ?_ ?_
                    · refine G_lload_n 0 dX10_wordOf_104 rfl rfl ?_
                      refine G_ldc2 (v := 10631) cl_X10_247 dX10_wordOf_105 ?_
                      refine G_lcmp dX10_wordOf_108 ?_
                      refine G_if_ne (tgt := 115) dX10_wordOf_109 (by decide) ?_ ?_
                      · refine G_lload_n 0 dX10_wordOf_115 rfl rfl ?_
                        refine G_ldc2 (v := 1111) cl_X10_249 dX10_wordOf_116 ?_
                        refine G_lcmp dX10_wordOf_119 ?_
                        refine G_if_ne (tgt := 126) dX10_wordOf_120 (by decide) ?_ ?_
                        · refine G_lload_n 0 dX10_wordOf_126 rfl rfl ?_
                          refine G_ldc2 (v := 423) cl_X10_251 dX10_wordOf_127 ?_
                          refine G_lcmp dX10_wordOf_130 ?_
                          refine G_if_ne (tgt := 137) dX10_wordOf_131 (by decide) ?_ ?_
                          · refine G_lload_n 0 dX10_wordOf_137 rfl rfl ?_
                            refine G_ldc2 (v := 47) cl_X10_253 dX10_wordOf_138 ?_
                            refine G_lcmp dX10_wordOf_141 ?_
                            refine G_if_ne (tgt := 148) dX10_wordOf_142 (by decide) ?_ ?_
                            · refine G_lload_n 0 dX10_wordOf_148 rfl rfl ?_
                              refine G_ldc2 (v := 330758) cl_X10_255 dX10_wordOf_149 ?_
                              refine G_lcmp dX10_wordOf_152 ?_
                              refine G_if_ne (tgt := 159) dX10_wordOf_153 (by decide) ?_ ?_
                              · refine G_lload_n 0 dX10_wordOf_159 rfl rfl ?_
                                refine G_ldc2 (v := 153623) cl_X10_257 dX10_wordOf_160 ?_
                                refine G_lcmp dX10_wordOf_163 ?_
                                refine G_if_ne (tgt := 170) dX10_wordOf_164 (by decide) ?_ ?_
                                · refine G_lload_n 0 dX10_wordOf_170 rfl rfl ?_
                                  refine G_ldc2 (v := 326192) cl_X10_259 dX10_wordOf_171 ?_
                                  refine G_lcmp dX10_wordOf_174 ?_
                                  refine G_if_ne (tgt := 183) dX10_wordOf_175 (by decide) ?_ ?_
                                  · refine G_iconst (v := (-1)) dX10_wordOf_183 (by decide) ?_
                                    exact G_iret rfl dX10_wordOf_184
                                  · refine G_bipush (v := 16) dX10_wordOf_178 (by decide) ?_
                                    refine G_goto (tgt := 184) dX10_wordOf_180 (by decide) ?_
                                    exact G_iret rfl dX10_wordOf_184
                                · refine G_bipush (v := 15) dX10_wordOf_167 (by decide) ?_
                                  exact G_iret rfl dX10_wordOf_169
                              · refine G_bipush (v := 14) dX10_wordOf_156 (by decide) ?_
                                exact G_iret rfl dX10_wordOf_158
                            · refine G_bipush (v := 13) dX10_wordOf_145 (by decide) ?_
                              exact G_iret rfl dX10_wordOf_147
                          · refine G_bipush (v := 12) dX10_wordOf_134 (by decide) ?_
                            exact G_iret rfl dX10_wordOf_136
                        · refine G_bipush (v := 11) dX10_wordOf_123 (by decide) ?_
                          exact G_iret rfl dX10_wordOf_125
                      · refine G_bipush (v := 10) dX10_wordOf_112 (by decide) ?_
                        exact G_iret rfl dX10_wordOf_114
                    · refine G_bipush (v := 9) dX10_wordOf_101 (by decide) ?_
                      exact G_iret rfl dX10_wordOf_103
                  · refine G_bipush (v := 8) dX10_wordOf_90 (by decide) ?_
                    exact G_iret rfl dX10_wordOf_92
                · refine G_bipush (v := 7) dX10_wordOf_79 (by decide) ?_
                  exact G_iret rfl dX10_wordOf_81
              · refine G_bipush (v := 6) dX10_wordOf_68 (by decide) ?_
                exact G_iret rfl dX10_wordOf_70
            · refine G_iconst (v := 5) dX10_wordOf_58 (by decide) ?_
              exact G_iret rfl dX10_wordOf_59
          · refine G_iconst (v := 4) dX10_wordOf_48 (by decide) ?_
            exact G_iret rfl dX10_wordOf_49
        · refine G_iconst (v := 3) dX10_wordOf_38 (by decide) ?_
          exact G_iret rfl dX10_wordOf_39
      · refine G_iconst (v := 2) dX10_wordOf_28 (by decide) ?_
        exact G_iret rfl dX10_wordOf_29
    · refine G_iconst (v := 1) dX10_wordOf_18 (by decide) ?_
      exact G_iret rfl dX10_wordOf_19
  · refine G_iconst (v := 0) dX10_wordOf_8 (by decide) ?_
    exact G_iret rfl dX10_wordOf_9
-- X10_signAt
def f_X10_signAt_23 (x2 : Int32) (s0 : Int32) (M : gM) : Option (Int32 × gM) := (if x2 = (61 : Int32) then (if s0 = 0 then (some ((0 : Int32), M)) else (some ((300 : Int32), M))) else (if x2 = (33 : Int32) then (if s0 = 0 then (some ((0 : Int32), M)) else (some ((301 : Int32), M))) else (if x2 = (60 : Int32) then (if s0 = 0 then (some (x2, M)) else (some ((302 : Int32), M))) else (if x2 = (59 : Int32) then (some (x2, M)) else (if x2 = (43 : Int32) then (some (x2, M)) else (if x2 = (45 : Int32) then (some (x2, M)) else (if x2 = (42 : Int32) then (some (x2, M)) else (if x2 = (47 : Int32) then (some (x2, M)) else (if x2 = (40 : Int32) then (some (x2, M)) else (if x2 = (41 : Int32) then (some (x2, M)) else (some ((0 : Int32), M))))))))))))
set_option maxRecDepth 100000 in
set_option maxHeartbeats 4000000 in
theorem o_X10_signAt_23 {X : gX} (x2 : Int32) (s0 : Int32) (M : gM) : G Y2 jX10_signAt X (g_fin g_ei) 23 [(2, .int x2)] [.int s0] M (f_X10_signAt_23 x2 s0 M) := by
  rw [f_X10_signAt_23]
  refine G_istore_n (lv' := [(3, .int s0), (2, .int x2)]) dX10_signAt_23 rfl (by decide) rfl ?_
  refine G_iload_n 1 dX10_signAt_24 rfl rfl ?_
  refine G_bipush (v := 61) dX10_signAt_25 (by decide) ?_
  refine G_icmp_ne (tgt := 42) dX10_signAt_27 (by decide) ?_ ?_
  · refine G_iload_n 1 dX10_signAt_42 rfl rfl ?_
    refine G_bipush (v := 33) dX10_signAt_43 (by decide) ?_
    refine G_icmp_ne (tgt := 60) dX10_signAt_45 (by decide) ?_ ?_
    · refine G_iload_n 1 dX10_signAt_60 rfl rfl ?_
      refine G_bipush (v := 60) dX10_signAt_61 (by decide) ?_
      refine G_icmp_ne (tgt := 78) dX10_signAt_63 (by decide) ?_ ?_
      · refine G_iload_n 1 dX10_signAt_78 rfl rfl ?_
        refine G_bipush (v := 59) dX10_signAt_79 (by decide) ?_
        refine G_icmp_eq (tgt := 120) dX10_signAt_81 (by decide) ?_ ?_
        · refine G_iload_n 1 dX10_signAt_120 rfl rfl ?_
          refine G_goto (tgt := 125) dX10_signAt_121 (by decide) ?_
          exact G_iret rfl dX10_signAt_125
        · refine G_iload_n 1 dX10_signAt_84 rfl rfl ?_
          refine G_bipush (v := 43) dX10_signAt_85 (by decide) ?_
          refine G_icmp_eq (tgt := 120) dX10_signAt_87 (by decide) ?_ ?_
          · refine G_iload_n 1 dX10_signAt_120 rfl rfl ?_
            refine G_goto (tgt := 125) dX10_signAt_121 (by decide) ?_
            exact G_iret rfl dX10_signAt_125
          · refine G_iload_n 1 dX10_signAt_90 rfl rfl ?_
            refine G_bipush (v := 45) dX10_signAt_91 (by decide) ?_
            refine G_icmp_eq (tgt := 120) dX10_signAt_93 (by decide) ?_ ?_
            · refine G_iload_n 1 dX10_signAt_120 rfl rfl ?_
              refine G_goto (tgt := 125) dX10_signAt_121 (by decide) ?_
              exact G_iret rfl dX10_signAt_125
            · refine G_iload_n 1 dX10_signAt_96 rfl rfl ?_
              refine G_bipush (v := 42) dX10_signAt_97 (by decide) ?_
              refine G_icmp_eq (tgt := 120) dX10_signAt_99 (by decide) ?_ ?_
              · refine G_iload_n 1 dX10_signAt_120 rfl rfl ?_
                refine G_goto (tgt := 125) dX10_signAt_121 (by decide) ?_
                exact G_iret rfl dX10_signAt_125
              · refine G_iload_n 1 dX10_signAt_102 rfl rfl ?_
                refine G_bipush (v := 47) dX10_signAt_103 (by decide) ?_
                refine G_icmp_eq (tgt := 120) dX10_signAt_105 (by decide) ?_ ?_
                · refine G_iload_n 1 dX10_signAt_120 rfl rfl ?_
                  refine G_goto (tgt := 125) dX10_signAt_121 (by decide) ?_
                  exact G_iret rfl dX10_signAt_125
                · refine G_iload_n 1 dX10_signAt_108 rfl rfl ?_
                  refine G_bipush (v := 40) dX10_signAt_109 (by decide) ?_
                  refine G_icmp_eq (tgt := 120) dX10_signAt_111 (by decide) ?_ ?_
                  · refine G_iload_n 1 dX10_signAt_120 rfl rfl ?_
                    refine G_goto (tgt := 125) dX10_signAt_121 (by decide) ?_
                    exact G_iret rfl dX10_signAt_125
                  · refine G_iload_n 1 dX10_signAt_114 rfl rfl ?_
                    refine G_bipush (v := 41) dX10_signAt_115 (by decide) ?_
                    refine G_icmp_ne (tgt := 124) dX10_signAt_117 (by decide) ?_ ?_
                    · refine G_iconst (v := 0) dX10_signAt_124 (by decide) ?_
                      exact G_iret rfl dX10_signAt_125
                    · refine G_iload_n 1 dX10_signAt_120 rfl rfl ?_
                      refine G_goto (tgt := 125) dX10_signAt_121 (by decide) ?_
                      exact G_iret rfl dX10_signAt_125
      · refine G_iload_n 0 dX10_signAt_66 rfl rfl ?_
        refine G_if_eq (tgt := 76) dX10_signAt_67 (by decide) ?_ ?_
        · refine G_iload_n 1 dX10_signAt_76 rfl rfl ?_
          exact G_iret rfl dX10_signAt_77
        · refine G_sipush (v := 302) dX10_signAt_70 (by decide) ?_
          refine G_goto (tgt := 77) dX10_signAt_73 (by decide) ?_
          exact G_iret rfl dX10_signAt_77
    · refine G_iload_n 0 dX10_signAt_48 rfl rfl ?_
      refine G_if_eq (tgt := 58) dX10_signAt_49 (by decide) ?_ ?_
      · refine G_iconst (v := 0) dX10_signAt_58 (by decide) ?_
        exact G_iret rfl dX10_signAt_59
      · refine G_sipush (v := 301) dX10_signAt_52 (by decide) ?_
        refine G_goto (tgt := 59) dX10_signAt_55 (by decide) ?_
        exact G_iret rfl dX10_signAt_59
  · refine G_iload_n 0 dX10_signAt_30 rfl rfl ?_
    refine G_if_eq (tgt := 40) dX10_signAt_31 (by decide) ?_ ?_
    · refine G_iconst (v := 0) dX10_signAt_40 (by decide) ?_
      exact G_iret rfl dX10_signAt_41
    · refine G_sipush (v := 300) dX10_signAt_34 (by decide) ?_
      refine G_goto (tgt := 41) dX10_signAt_37 (by decide) ?_
      exact G_iret rfl dX10_signAt_41
def f_X10_signAt (a1 : Int32) (M : gM) : Option (Int32 × gM) := (g_b (f_X10_byteAt a1 M) (fun r2 M1 => (g_b (f_X10_byteAt (a1 + (1 : Int32)) M1) (fun r4 M3 => (if r4 = (61 : Int32) then (f_X10_signAt_23 r2 (1 : Int32) M3) else (f_X10_signAt_23 r2 (0 : Int32) M3))))))
set_option maxRecDepth 100000 in
set_option maxHeartbeats 4000000 in
theorem ok_X10_signAt (a1 : Int32) (M : gM) : g_met Y2 yX10_signAt jX10_signAt g_ei (fun Z => [.ref (Z.2.1 0), .int a1]) M (f_X10_signAt a1 M) := by
  refine g_enter (fun Z => [(0, .ref (Z.2.1 0)), (1, .int a1)]) (by decide) rfl (fun Z => Nat.le_of_ble_eq_true rfl) (fun Z => rfl) (fun X => ?_)
  rw [f_X10_signAt]
  refine G_aload_n 0 dX10_signAt_0 rfl rfl ?_
  refine G_iload_n 1 dX10_signAt_1 rfl rfl ?_
  refine G_cVi (As := [.int a1]) (rest := []) (ok_X10_byteAt a1 M) rfl (y2_0) rfl mv_X10_220 dX10_signAt_2 rfl rfl (Nat.le_of_ble_eq_true rfl) (g_fitN (by decide) (by decide)) (fun r2 M1 => ?_)
  refine G_istore_n (lv' := [(2, .int r2), (0, .ref (ad X 0)), (1, .int a1)]) dX10_signAt_5 rfl (by decide) rfl ?_
  refine G_aload_n 1 dX10_signAt_6 rfl rfl ?_
  refine G_iload_n 2 dX10_signAt_7 rfl rfl ?_
  refine G_iconst (v := 1) dX10_signAt_8 (by decide) ?_
  refine G_iadd dX10_signAt_9 ?_
  refine G_cVi (As := [.int (a1 + (1 : Int32))]) (rest := []) (ok_X10_byteAt (a1 + (1 : Int32)) M1) rfl (y2_0) rfl mv_X10_220 dX10_signAt_10 rfl rfl (Nat.le_of_ble_eq_true rfl) (g_fitN (by decide) (by decide)) (fun r4 M3 => ?_)
  refine G_bipush (v := 61) dX10_signAt_13 (by decide) ?_
  refine G_icmp_ne (tgt := 22) dX10_signAt_15 (by decide) ?_ ?_
  · refine G_iconst (v := 0) dX10_signAt_22 (by decide) ?_
    exact G_sub [0] rfl (o_X10_signAt_23 r2 (0 : Int32) M3)
  · refine G_iconst (v := 1) dX10_signAt_18 (by decide) ?_
    refine G_goto (tgt := 23) dX10_signAt_19 (by decide) ?_
    exact G_sub [0] rfl (o_X10_signAt_23 r2 (1 : Int32) M3)
-- X10_scan
def f_X10_scan_191 (x1 : Int32) (x3 : Int32) (s1 : Int32) (M : gM) : Option (Int32 × gM) := (g_b (f_X10_token s1 x1 x3 M) (fun r8 M7 => (if x3 < (300 : Int32) then (some ((x1 + (1 : Int32)), M7)) else (some ((x1 + (2 : Int32)), M7)))))
set_option maxRecDepth 100000 in
set_option maxHeartbeats 4000000 in
theorem o_X10_scan_191 {X : gX} (x1 : Int32) (x3 : Int32) (s1 : Int32) (M : gM) : G Y2 jX10_scan X (g_fin g_ei) 191 [(1, .int x1), (3, .int x3)] [.int s1, .ref (ad X 0)] M (f_X10_scan_191 x1 x3 s1 M) := by
  rw [f_X10_scan_191]
  refine G_iload_n 0 dX10_scan_191 rfl rfl ?_
  refine G_iload_n 1 dX10_scan_192 rfl rfl ?_
  refine G_cVv (As := [.int s1, .int x1, .int x3]) (rest := []) (ok_X10_token s1 x1 x3 M) rfl (y2_0) rfl mv_X10_273 dX10_scan_193 rfl rfl (Nat.le_of_ble_eq_true rfl) (g_fitN (by decide) (by decide)) (fun r8 M7 => ?_)
  refine G_iload_n 0 dX10_scan_196 rfl rfl ?_
  refine G_iload_n 1 dX10_scan_197 rfl rfl ?_
  refine G_sipush (v := 300) dX10_scan_198 (by decide) ?_
  refine G_icmp_lt (tgt := 208) dX10_scan_201 (by decide) ?_ ?_
  · refine G_iconst (v := 1) dX10_scan_208 (by decide) ?_
    refine G_iadd dX10_scan_209 ?_
    exact G_iret rfl dX10_scan_210
  · refine G_iconst (v := 2) dX10_scan_204 (by decide) ?_
    refine G_goto (tgt := 209) dX10_scan_205 (by decide) ?_
    refine G_iadd dX10_scan_209 ?_
    exact G_iret rfl dX10_scan_210
def f_X10_scan_120 : Nat → Int32 → Int32 → Int32 → gM → Option (Int32 × gM)
  | 0, _, _, _, _ => none
  | n + 1, x1, x2, x3, M => (g_b (f_X10_isDigit x2 M) (fun r10 M9 => (if r10 then (if (4 : Int32) ≤ (x2 - x1) then (f_X10_scan_120 n x1 (x2 + 1) x3 M9) else (g_b (f_X10_byteAt x2 M9) (fun r16 M15 => (g_v ((((10 : Int32) * x3) + r16) - (48 : Int32)) (fun y17 => (f_X10_scan_120 n x1 (x2 + 1) y17 M15)))))) else (if (x2 - x1) ≤ (4 : Int32) then (g_b (f_X10_token (1 : Int32) x1 x3 M9) (fun r12 M11 => (some (x2, M11)))) else (g_b (f_X10_token (5 : Int32) x1 x3 M9) (fun r14 M13 => (some (x2, M13))))))))
set_option maxRecDepth 100000 in
set_option maxHeartbeats 4000000 in
theorem o_X10_scan_120 {X : gX} : ∀ (n : Nat) (x1 : Int32) (x2 : Int32) (x3 : Int32) (M : gM), G Y2 jX10_scan X (g_fin g_ei) 120 [(0, .ref (ad X 0)), (1, .int x1), (2, .int x2), (3, .int x3)] [] M (f_X10_scan_120 n x1 x2 x3 M) := by
  intro n
  induction n with
  | zero => intro x1 x2 x3 M; exact G_none
  | succ n ih =>
    intro x1 x2 x3 M
    rw [f_X10_scan_120]
    refine G_aload_n 0 dX10_scan_120 rfl rfl ?_
    refine G_iload_n 2 dX10_scan_121 rfl rfl ?_
    refine G_cVb (As := [.int x2]) (rest := []) (ok_X10_isDigit x2 M) rfl (y2_0) rfl mv_X10_277 dX10_scan_122 rfl rfl (Nat.le_of_ble_eq_true rfl) (g_fitN (by decide) (by decide)) (fun r10 M9 => ?_)
    refine G_ifB_eq (tgt := 155) dX10_scan_125 (by decide) ?_ ?_
    · refine G_aload_n 0 dX10_scan_155 rfl rfl ?_
      refine G_iload_n 2 dX10_scan_156 rfl rfl ?_
      refine G_iload_n 1 dX10_scan_157 rfl rfl ?_
      refine G_isub dX10_scan_158 ?_
      refine G_iconst (v := 4) dX10_scan_159 (by decide) ?_
      refine G_icmp_le (tgt := 167) dX10_scan_160 (by decide) ?_ ?_
      · refine G_iconst (v := 1) dX10_scan_167 (by decide) ?_
        refine G_iload_n 1 dX10_scan_168 rfl rfl ?_
        refine G_iload_n 3 dX10_scan_169 rfl rfl ?_
        refine G_cVv (As := [.int 1, .int x1, .int x3]) (rest := []) (ok_X10_token (1 : Int32) x1 x3 M9) rfl (y2_0) rfl mv_X10_273 dX10_scan_170 rfl rfl (Nat.le_of_ble_eq_true rfl) (g_fitN (by decide) (by decide)) (fun r12 M11 => ?_)
        refine G_iload_n 2 dX10_scan_173 rfl rfl ?_
        exact G_iret rfl dX10_scan_174
      · refine G_iconst (v := 5) dX10_scan_163 (by decide) ?_
        refine G_goto (tgt := 168) dX10_scan_164 (by decide) ?_
        refine G_iload_n 1 dX10_scan_168 rfl rfl ?_
        refine G_iload_n 3 dX10_scan_169 rfl rfl ?_
        refine G_cVv (As := [.int 5, .int x1, .int x3]) (rest := []) (ok_X10_token (5 : Int32) x1 x3 M9) rfl (y2_0) rfl mv_X10_273 dX10_scan_170 rfl rfl (Nat.le_of_ble_eq_true rfl) (g_fitN (by decide) (by decide)) (fun r14 M13 => ?_)
        refine G_iload_n 2 dX10_scan_173 rfl rfl ?_
        exact G_iret rfl dX10_scan_174
    · refine G_iload_n 2 dX10_scan_128 rfl rfl ?_
      refine G_iload_n 1 dX10_scan_129 rfl rfl ?_
      refine G_isub dX10_scan_130 ?_
      refine G_iconst (v := 4) dX10_scan_131 (by decide) ?_
      refine G_icmp_ge (tgt := 149) dX10_scan_132 (by decide) ?_ ?_
      · refine G_iinc (v := x2 + 1) (lv' := [(2, .int (x2 + 1)), (0, .ref (ad X 0)), (1, .int x1), (3, .int x3)]) 2 dX10_scan_149 rfl rfl (by decide) rfl ?_
        refine G_goto (tgt := 120) dX10_scan_152 (by decide) ?_
        exact G_sub [1, 2, 0, 3] rfl (ih x1 (x2 + 1) x3 M9)
      · refine G_bipush (v := 10) dX10_scan_135 (by decide) ?_
        refine G_iload_n 3 dX10_scan_137 rfl rfl ?_
        refine G_imul dX10_scan_138 ?_
        refine G_aload_n 0 dX10_scan_139 rfl rfl ?_
        refine G_iload_n 2 dX10_scan_140 rfl rfl ?_
        refine G_cVi (As := [.int x2]) (rest := [.int ((10 : Int32) * x3)]) (ok_X10_byteAt x2 M9) rfl (y2_0) rfl mv_X10_220 dX10_scan_141 rfl rfl (Nat.le_of_ble_eq_true rfl) (g_fitN (by decide) (by decide)) (fun r16 M15 => ?_)
        refine G_iadd dX10_scan_144 ?_
        refine G_bipush (v := 48) dX10_scan_145 (by decide) ?_
        refine G_isub dX10_scan_147 ?_
        refine G_vi (fun y17 => ?_)
        refine G_istore_n (lv' := [(3, .int y17), (0, .ref (ad X 0)), (1, .int x1), (2, .int x2)]) dX10_scan_148 rfl (by decide) rfl ?_
        refine G_iinc (v := x2 + 1) (lv' := [(2, .int (x2 + 1)), (3, .int y17), (0, .ref (ad X 0)), (1, .int x1)]) 3 dX10_scan_149 rfl rfl (by decide) rfl ?_
        refine G_goto (tgt := 120) dX10_scan_152 (by decide) ?_
        exact G_sub [2, 3, 0, 1] rfl (ih x1 (x2 + 1) y17 M15)
def f_X10_scan_67 (x1 : Int32) (x2 : Int32) (x3 : Int64) (s0 : Int32) (M : gM) : Option (Int32 × gM) := (g_ck (M.1 0 3) 2001 (g_m (sL M 5 (tn (M.1 0 3)) x3) (fun M22 => (if (x2 - x1) ≤ (8 : Int32) then (if s0 < 0 then (g_b (f_X10_token (0 : Int32) x1 s0 M22) (fun r24 M23 => (some (x2, M23)))) else (g_b (f_X10_token (3 : Int32) x1 s0 M22) (fun r26 M25 => (some (x2, M25))))) else (g_b (f_X10_token (5 : Int32) x1 s0 M22) (fun r28 M27 => (some (x2, M27))))))))
set_option maxRecDepth 100000 in
set_option maxHeartbeats 4000000 in
theorem o_X10_scan_67 {X : gX} (x1 : Int32) (x2 : Int32) (x3 : Int64) (s0 : Int32) (M : gM) : G Y2 jX10_scan X (g_fin g_ei) 67 [(0, .ref (ad X 0)), (1, .int x1), (2, .int x2), (3, .long x3)] [.int s0] M (f_X10_scan_67 x1 x2 x3 s0 M) := by
  rw [f_X10_scan_67]
  refine G_istore (lv' := [(5, .int s0), (0, .ref (ad X 0)), (1, .int x1), (2, .int x2), (3, .long x3)]) dX10_scan_67 (by decide) rfl ?_
  refine G_aload_n 1 dX10_scan_69 rfl rfl ?_
  refine G_get 7 clX10 (y2_0) fl_X10_22 dX10_scan_70 (by decide) rfl rfl ?_
  refine G_aload_n 1 dX10_scan_73 rfl rfl ?_
  refine G_get 3 clX10 (y2_0) fl_X10_224 dX10_scan_74 (by decide) rfl rfl ?_
  refine G_lload_n 4 dX10_scan_77 rfl rfl ?_
  refine G_last (y2_5) dX10_scan_78 ?_
  refine G_m (fun M22 => ?_)
  refine G_aload_n 1 dX10_scan_79 rfl rfl ?_
  refine G_iload_n 3 dX10_scan_80 rfl rfl ?_
  refine G_iload_n 2 dX10_scan_81 rfl rfl ?_
  refine G_isub dX10_scan_82 ?_
  refine G_bipush (v := 8) dX10_scan_83 (by decide) ?_
  refine G_icmp_le (tgt := 92) dX10_scan_85 (by decide) ?_ ?_
  · refine G_iload 0 dX10_scan_92 rfl ?_
    refine G_if_lt (tgt := 101) dX10_scan_94 (by decide) ?_ ?_
    · refine G_iconst (v := 0) dX10_scan_101 (by decide) ?_
      refine G_iload_n 2 dX10_scan_102 rfl rfl ?_
      refine G_iload 0 dX10_scan_103 rfl ?_
      refine G_cVv (As := [.int 0, .int x1, .int s0]) (rest := []) (ok_X10_token (0 : Int32) x1 s0 M22) rfl (y2_0) rfl mv_X10_273 dX10_scan_105 rfl rfl (Nat.le_of_ble_eq_true rfl) (g_fitN (by decide) (by decide)) (fun r24 M23 => ?_)
      refine G_iload_n 3 dX10_scan_108 rfl rfl ?_
      exact G_iret rfl dX10_scan_109
    · refine G_iconst (v := 3) dX10_scan_97 (by decide) ?_
      refine G_goto (tgt := 102) dX10_scan_98 (by decide) ?_
      refine G_iload_n 2 dX10_scan_102 rfl rfl ?_
      refine G_iload 0 dX10_scan_103 rfl ?_
      refine G_cVv (As := [.int 3, .int x1, .int s0]) (rest := []) (ok_X10_token (3 : Int32) x1 s0 M22) rfl (y2_0) rfl mv_X10_273 dX10_scan_105 rfl rfl (Nat.le_of_ble_eq_true rfl) (g_fitN (by decide) (by decide)) (fun r26 M25 => ?_)
      refine G_iload_n 3 dX10_scan_108 rfl rfl ?_
      exact G_iret rfl dX10_scan_109
  · refine G_iconst (v := 5) dX10_scan_88 (by decide) ?_
    refine G_goto (tgt := 102) dX10_scan_89 (by decide) ?_
    refine G_iload_n 2 dX10_scan_102 rfl rfl ?_
    refine G_iload 0 dX10_scan_103 rfl ?_
    refine G_cVv (As := [.int 5, .int x1, .int s0]) (rest := []) (ok_X10_token (5 : Int32) x1 s0 M22) rfl (y2_0) rfl mv_X10_273 dX10_scan_105 rfl rfl (Nat.le_of_ble_eq_true rfl) (g_fitN (by decide) (by decide)) (fun r28 M27 => ?_)
    refine G_iload_n 3 dX10_scan_108 rfl rfl ?_
    exact G_iret rfl dX10_scan_109
def f_X10_scan_12 : Nat → Int32 → Int32 → Int64 → gM → Option (Int32 × gM)
  | 0, _, _, _, _ => none
  | n + 1, x1, x2, x3, M => (g_b (f_X10_isLetter x2 M) (fun r19 M18 => (if r19 then (if (8 : Int32) ≤ (x2 - x1) then (f_X10_scan_12 n x1 (x2 + 1) x3 M18) else (g_b (f_X10_byteAt x2 M18) (fun r30 M29 => (g_v (((x3 * (27 : Int64)) + r30.toInt64) - (96 : Int64)) (fun y31 => (f_X10_scan_12 n x1 (x2 + 1) y31 M29)))))) else (if (x2 - x1) ≤ (8 : Int32) then (g_b (f_X10_wordOf x3 M18) (fun r21 M20 => (f_X10_scan_67 x1 x2 x3 r21 M20))) else (f_X10_scan_67 x1 x2 x3 ((-1) : Int32) M18)))))
set_option maxRecDepth 100000 in
set_option maxHeartbeats 4000000 in
theorem o_X10_scan_12 {X : gX} : ∀ (n : Nat) (x1 : Int32) (x2 : Int32) (x3 : Int64) (M : gM), G Y2 jX10_scan X (g_fin g_ei) 12 [(0, .ref (ad X 0)), (1, .int x1), (2, .int x2), (3, .long x3)] [] M (f_X10_scan_12 n x1 x2 x3 M) := by
  intro n
  induction n with
  | zero => intro x1 x2 x3 M; exact G_none
  | succ n ih =>
    intro x1 x2 x3 M
    rw [f_X10_scan_12]
    refine G_aload_n 0 dX10_scan_12 rfl rfl ?_
    refine G_iload_n 2 dX10_scan_13 rfl rfl ?_
    refine G_cVb (As := [.int x2]) (rest := []) (ok_X10_isLetter x2 M) rfl (y2_0) rfl mv_X10_261 dX10_scan_14 rfl rfl (Nat.le_of_ble_eq_true rfl) (g_fitN (by decide) (by decide)) (fun r19 M18 => ?_)
    refine G_ifB_eq (tgt := 51) dX10_scan_17 (by decide) ?_ ?_
    · refine G_iload_n 2 dX10_scan_51 rfl rfl ?_
      refine G_iload_n 1 dX10_scan_52 rfl rfl ?_
      refine G_isub dX10_scan_53 ?_
      refine G_bipush (v := 8) dX10_scan_54 (by decide) ?_
      refine G_icmp_le (tgt := 63) dX10_scan_56 (by decide) ?_ ?_
      · refine G_lload_n 3 dX10_scan_63 rfl rfl ?_
        refine G_cSi (As := [.long x3]) (rest := []) (ok_X10_wordOf x3 M18) rfl ms_X10_269 dX10_scan_64 rfl rfl (Nat.le_of_ble_eq_true rfl) (g_fitN (by decide) (by decide)) (fun r21 M20 => ?_)
        exact G_sub [0, 1, 2, 3] rfl (o_X10_scan_67 x1 x2 x3 r21 M20)
      · refine G_iconst (v := (-1)) dX10_scan_59 (by decide) ?_
        refine G_goto (tgt := 67) dX10_scan_60 (by decide) ?_
        exact G_sub [0, 1, 2, 3] rfl (o_X10_scan_67 x1 x2 x3 ((-1) : Int32) M18)
    · refine G_iload_n 2 dX10_scan_20 rfl rfl ?_
      refine G_iload_n 1 dX10_scan_21 rfl rfl ?_
      refine G_isub dX10_scan_22 ?_
      refine G_bipush (v := 8) dX10_scan_23 (by decide) ?_
      refine G_icmp_ge (tgt := 45) dX10_scan_25 (by decide) ?_ ?_
      · refine G_iinc (v := x2 + 1) (lv' := [(2, .int (x2 + 1)), (0, .ref (ad X 0)), (1, .int x1), (3, .long x3)]) 2 dX10_scan_45 rfl rfl (by decide) rfl ?_
        refine G_goto (tgt := 12) dX10_scan_48 (by decide) ?_
        exact G_sub [1, 2, 0, 3] rfl (ih x1 (x2 + 1) x3 M18)
      · refine G_lload_n 3 dX10_scan_28 rfl rfl ?_
        refine G_ldc2 (v := 27) cl_X10_265 dX10_scan_29 ?_
        refine G_lmul dX10_scan_32 ?_
        refine G_aload_n 0 dX10_scan_33 rfl rfl ?_
        refine G_iload_n 2 dX10_scan_34 rfl rfl ?_
        refine G_cVi (As := [.int x2]) (rest := [.long (x3 * (27 : Int64))]) (ok_X10_byteAt x2 M18) rfl (y2_0) rfl mv_X10_220 dX10_scan_35 rfl rfl (Nat.le_of_ble_eq_true rfl) (g_fitN (by decide) (by decide)) (fun r30 M29 => ?_)
        refine G_i2l dX10_scan_38 ?_
        refine G_ladd dX10_scan_39 ?_
        refine G_ldc2 (v := 96) cl_X10_267 dX10_scan_40 ?_
        refine G_lsub dX10_scan_43 ?_
        refine G_vl (fun y31 => ?_)
        refine G_lstore_n (lv' := [(3, .long y31), (0, .ref (ad X 0)), (1, .int x1), (2, .int x2)]) dX10_scan_44 rfl (by decide) rfl ?_
        refine G_iinc (v := x2 + 1) (lv' := [(2, .int (x2 + 1)), (3, .long y31), (0, .ref (ad X 0)), (1, .int x1)]) 3 dX10_scan_45 rfl rfl (by decide) rfl ?_
        refine G_goto (tgt := 12) dX10_scan_48 (by decide) ?_
        exact G_sub [2, 3, 0, 1] rfl (ih x1 (x2 + 1) y31 M29)
def f_X10_scan (a1 : Int32) (M : gM) : Option (Int32 × gM) := (g_b (f_X10_isLetter a1 M) (fun r2 M1 => (if r2 then (f_X10_scan_12 FU a1 a1 (0 : Int64) M1) else (g_b (f_X10_isDigit a1 M1) (fun r4 M3 => (if r4 then (f_X10_scan_120 FU a1 a1 (0 : Int32) M3) else (g_b (f_X10_signAt a1 M3) (fun r6 M5 => (if r6 = 0 then (f_X10_scan_191 a1 r6 (5 : Int32) M5) else (f_X10_scan_191 a1 r6 (2 : Int32) M5))))))))))
set_option maxRecDepth 100000 in
set_option maxHeartbeats 4000000 in
theorem ok_X10_scan (a1 : Int32) (M : gM) : g_met Y2 yX10_scan jX10_scan g_ei (fun Z => [.ref (Z.2.1 0), .int a1]) M (f_X10_scan a1 M) := by
  refine g_enter (fun Z => [(0, .ref (Z.2.1 0)), (1, .int a1)]) (by decide) rfl (fun Z => Nat.le_of_ble_eq_true rfl) (fun Z => rfl) (fun X => ?_)
  rw [f_X10_scan]
  refine G_iload_n 1 dX10_scan_0 rfl rfl ?_
  refine G_istore_n (lv' := [(2, .int a1), (0, .ref (ad X 0)), (1, .int a1)]) dX10_scan_1 rfl (by decide) rfl ?_
  refine G_aload_n 1 dX10_scan_2 rfl rfl ?_
  refine G_iload_n 2 dX10_scan_3 rfl rfl ?_
  refine G_cVb (As := [.int a1]) (rest := []) (ok_X10_isLetter a1 M) rfl (y2_0) rfl mv_X10_261 dX10_scan_4 rfl rfl (Nat.le_of_ble_eq_true rfl) (g_fitN (by decide) (by decide)) (fun r2 M1 => ?_)
  refine G_ifB_eq (tgt := 110) dX10_scan_7 (by decide) ?_ ?_
  · refine G_aload_n 1 dX10_scan_110 rfl rfl ?_
    refine G_iload_n 2 dX10_scan_111 rfl rfl ?_
    refine G_cVb (As := [.int a1]) (rest := []) (ok_X10_isDigit a1 M1) rfl (y2_0) rfl mv_X10_277 dX10_scan_112 rfl rfl (Nat.le_of_ble_eq_true rfl) (g_fitN (by decide) (by decide)) (fun r4 M3 => ?_)
    refine G_ifB_eq (tgt := 175) dX10_scan_115 (by decide) ?_ ?_
    · refine G_aload_n 1 dX10_scan_175 rfl rfl ?_
      refine G_iload_n 2 dX10_scan_176 rfl rfl ?_
      refine G_cVi (As := [.int a1]) (rest := []) (ok_X10_signAt a1 M3) rfl (y2_0) rfl mv_X10_280 dX10_scan_177 rfl rfl (Nat.le_of_ble_eq_true rfl) (g_fitN (by decide) (by decide)) (fun r6 M5 => ?_)
      refine G_istore_n (lv' := [(3, .int r6), (2, .int a1), (0, .ref (ad X 0)), (1, .int a1)]) dX10_scan_180 rfl (by decide) rfl ?_
      refine G_aload_n 2 dX10_scan_181 rfl rfl ?_
      refine G_iload_n 0 dX10_scan_182 rfl rfl ?_
      refine G_if_ne (tgt := 190) dX10_scan_183 (by decide) ?_ ?_
      · refine G_iconst (v := 2) dX10_scan_190 (by decide) ?_
        exact G_sub [3, 0] rfl (o_X10_scan_191 a1 r6 (2 : Int32) M5)
      · refine G_iconst (v := 5) dX10_scan_186 (by decide) ?_
        refine G_goto (tgt := 191) dX10_scan_187 (by decide) ?_
        exact G_sub [3, 0] rfl (o_X10_scan_191 a1 r6 (5 : Int32) M5)
    · refine G_iconst (v := 0) dX10_scan_118 (by decide) ?_
      refine G_istore_n (lv' := [(3, .int 0), (2, .int a1), (0, .ref (ad X 0)), (1, .int a1)]) dX10_scan_119 rfl (by decide) rfl ?_
      exact G_sub [2, 3, 1, 0] rfl (o_X10_scan_120 FU a1 a1 (0 : Int32) M3)
  · refine G_lconst (v := 0) dX10_scan_10 (by decide) ?_
    refine G_lstore_n (lv' := [(3, .long 0), (2, .int a1), (0, .ref (ad X 0)), (1, .int a1)]) dX10_scan_11 rfl (by decide) rfl ?_
    exact G_sub [2, 3, 1, 0] rfl (o_X10_scan_12 FU a1 a1 (0 : Int64) M1)
-- X10_scanAll
def f_X10_scanAll_87 (x2 : Int32) (M : gM) : Option (Unit × gM) := (if x2 = 0 then (some ((), M)) else (g_b (f_X10_token (4 : Int32) (M.1 0 1) (0 : Int32) M) (fun r3 M2 => (some ((), M2)))))
set_option maxRecDepth 100000 in
set_option maxHeartbeats 4000000 in
theorem o_X10_scanAll_87 {X : gX} (x2 : Int32) (M : gM) : G Y2 jX10_scanAll X (g_fin g_ev) 87 [(0, .ref (ad X 0)), (2, .int x2)] [] M (f_X10_scanAll_87 x2 M) := by
  rw [f_X10_scanAll_87]
  refine G_iload_n 1 dX10_scanAll_87 rfl rfl ?_
  refine G_if_eq (tgt := 101) dX10_scanAll_88 (by decide) ?_ ?_
  · exact G_vret rfl dX10_scanAll_101
  · refine G_aload_n 0 dX10_scanAll_91 rfl rfl ?_
    refine G_iconst (v := 4) dX10_scanAll_92 (by decide) ?_
    refine G_aload_n 0 dX10_scanAll_93 rfl rfl ?_
    refine G_get 1 clX10 (y2_0) fl_X10_214 dX10_scanAll_94 (by decide) rfl rfl ?_
    refine G_iconst (v := 0) dX10_scanAll_97 (by decide) ?_
    refine G_cVv (As := [.int 4, .int (M.1 0 1), .int 0]) (rest := []) (ok_X10_token (4 : Int32) (M.1 0 1) (0 : Int32) M) rfl (y2_0) rfl mv_X10_273 dX10_scanAll_98 rfl rfl (Nat.le_of_ble_eq_true rfl) (g_fitN (by decide) (by decide)) (fun r3 M2 => ?_)
    exact G_vret rfl dX10_scanAll_101
def f_X10_scanAll_9 : Nat → Int32 → Int32 → gM → Option (Unit × gM)
  | 0, _, _, _ => none
  | n + 1, x1, x2, M => (if (M.1 0 1) ≤ x1 then (f_X10_scanAll_87 x2 M) else (if x2 = 0 then (f_X10_scanAll_87 x2 M) else (g_b (f_X10_byteAt x1 M) (fun r5 M4 => (if r5 = (32 : Int32) then (f_X10_scanAll_9 n (x1 + 1) x2 M4) else (if r5 = (9 : Int32) then (f_X10_scanAll_9 n (x1 + 1) x2 M4) else (if r5 = (10 : Int32) then (f_X10_scanAll_9 n (x1 + 1) x2 M4) else (if r5 = (13 : Int32) then (f_X10_scanAll_9 n (x1 + 1) x2 M4) else (g_b (f_X10_scan x1 M4) (fun r7 M6 => (g_ck ((M6.1 0 3) - (1 : Int32)) 2001 (if (M6.1 2 (tn ((M6.1 0 3) - (1 : Int32)))) = (5 : Int32) then (f_X10_scanAll_9 n r7 (0 : Int32) M6) else (f_X10_scanAll_9 n r7 (1 : Int32) M6)))))))))))))
set_option maxRecDepth 100000 in
set_option maxHeartbeats 4000000 in
theorem o_X10_scanAll_9 {X : gX} : ∀ (n : Nat) (x1 : Int32) (x2 : Int32) (M : gM), G Y2 jX10_scanAll X (g_fin g_ev) 9 [(0, .ref (ad X 0)), (1, .int x1), (2, .int x2)] [] M (f_X10_scanAll_9 n x1 x2 M) := by
  intro n
  induction n with
  | zero => intro x1 x2 M; exact G_none
  | succ n ih =>
    intro x1 x2 M
    rw [f_X10_scanAll_9]
    refine G_iload_n 1 dX10_scanAll_9 rfl rfl ?_
    refine G_aload_n 0 dX10_scanAll_10 rfl rfl ?_
    refine G_get 1 clX10 (y2_0) fl_X10_214 dX10_scanAll_11 (by decide) rfl rfl ?_
    refine G_icmp_ge (tgt := 87) dX10_scanAll_14 (by decide) ?_ ?_
    · exact G_sub [0, 2] rfl (o_X10_scanAll_87 x2 M)
    · refine G_iload_n 2 dX10_scanAll_17 rfl rfl ?_
      refine G_if_eq (tgt := 87) dX10_scanAll_18 (by decide) ?_ ?_
      · exact G_sub [0, 2] rfl (o_X10_scanAll_87 x2 M)
      · refine G_aload_n 0 dX10_scanAll_21 rfl rfl ?_
        refine G_iload_n 1 dX10_scanAll_22 rfl rfl ?_
        refine G_cVi (As := [.int x1]) (rest := []) (ok_X10_byteAt x1 M) rfl (y2_0) rfl mv_X10_220 dX10_scanAll_23 rfl rfl (Nat.le_of_ble_eq_true rfl) (g_fitN (by decide) (by decide)) (fun r5 M4 => ?_)
        refine G_istore_n (lv' := [(3, .int r5), (0, .ref (ad X 0)), (1, .int x1), (2, .int x2)]) dX10_scanAll_26 rfl (by decide) rfl ?_
        refine G_iload_n 0 dX10_scanAll_27 rfl rfl ?_
        refine G_bipush (v := 32) dX10_scanAll_28 (by decide) ?_
        refine G_icmp_eq (tgt := 51) dX10_scanAll_30 (by decide) ?_ ?_
        · refine G_iinc (v := x1 + 1) (lv' := [(1, .int (x1 + 1)), (3, .int r5), (0, .ref (ad X 0)), (2, .int x2)]) 2 dX10_scanAll_51 rfl rfl (by decide) rfl ?_
          refine G_goto (tgt := 9) dX10_scanAll_54 (by decide) ?_
          exact G_sub [2, 0, 3] rfl (ih (x1 + 1) x2 M4)
        · refine G_iload_n 0 dX10_scanAll_33 rfl rfl ?_
          refine G_bipush (v := 9) dX10_scanAll_34 (by decide) ?_
          refine G_icmp_eq (tgt := 51) dX10_scanAll_36 (by decide) ?_ ?_
          · refine G_iinc (v := x1 + 1) (lv' := [(1, .int (x1 + 1)), (3, .int r5), (0, .ref (ad X 0)), (2, .int x2)]) 2 dX10_scanAll_51 rfl rfl (by decide) rfl ?_
            refine G_goto (tgt := 9) dX10_scanAll_54 (by decide) ?_
            exact G_sub [2, 0, 3] rfl (ih (x1 + 1) x2 M4)
          · refine G_iload_n 0 dX10_scanAll_39 rfl rfl ?_
            refine G_bipush (v := 10) dX10_scanAll_40 (by decide) ?_
            refine G_icmp_eq (tgt := 51) dX10_scanAll_42 (by decide) ?_ ?_
            · refine G_iinc (v := x1 + 1) (lv' := [(1, .int (x1 + 1)), (3, .int r5), (0, .ref (ad X 0)), (2, .int x2)]) 2 dX10_scanAll_51 rfl rfl (by decide) rfl ?_
              refine G_goto (tgt := 9) dX10_scanAll_54 (by decide) ?_
              exact G_sub [2, 0, 3] rfl (ih (x1 + 1) x2 M4)
            · refine G_iload_n 0 dX10_scanAll_45 rfl rfl ?_
              refine G_bipush (v := 13) dX10_scanAll_46 (by decide) ?_
              refine G_icmp_ne (tgt := 57) dX10_scanAll_48 (by decide) ?_ ?_
              · refine G_aload_n 1 dX10_scanAll_57 rfl rfl ?_
                refine G_iload_n 2 dX10_scanAll_58 rfl rfl ?_
                refine G_cVi (As := [.int x1]) (rest := []) (ok_X10_scan x1 M4) rfl (y2_0) rfl mv_X10_283 dX10_scanAll_59 rfl rfl (Nat.le_of_ble_eq_true rfl) (g_fitN (by decide) (by decide)) (fun r7 M6 => ?_)
                refine G_istore_n (lv' := [(1, .int r7), (3, .int r5), (0, .ref (ad X 0)), (2, .int x2)]) dX10_scanAll_62 rfl (by decide) rfl ?_
                refine G_aload_n 2 dX10_scanAll_63 rfl rfl ?_
                refine G_get 4 clX10 (y2_0) fl_X10_13 dX10_scanAll_64 (by decide) rfl rfl ?_
                refine G_aload_n 2 dX10_scanAll_67 rfl rfl ?_
                refine G_get 3 clX10 (y2_0) fl_X10_224 dX10_scanAll_68 (by decide) rfl rfl ?_
                refine G_iconst (v := 1) dX10_scanAll_71 (by decide) ?_
                refine G_isub dX10_scanAll_72 ?_
                refine G_iald (y2_2) dX10_scanAll_73 ?_
                refine G_iconst (v := 5) dX10_scanAll_74 (by decide) ?_
                refine G_icmp_eq (tgt := 82) dX10_scanAll_75 (by decide) ?_ ?_
                · refine G_iconst (v := 0) dX10_scanAll_82 (by decide) ?_
                  refine G_istore_n (lv' := [(2, .int 0), (1, .int r7), (3, .int r5), (0, .ref (ad X 0))]) dX10_scanAll_83 rfl (by decide) rfl ?_
                  refine G_goto (tgt := 9) dX10_scanAll_84 (by decide) ?_
                  exact G_sub [3, 1, 0] rfl (ih r7 (0 : Int32) M6)
                · refine G_iconst (v := 1) dX10_scanAll_78 (by decide) ?_
                  refine G_goto (tgt := 83) dX10_scanAll_79 (by decide) ?_
                  refine G_istore_n (lv' := [(2, .int 1), (1, .int r7), (3, .int r5), (0, .ref (ad X 0))]) dX10_scanAll_83 rfl (by decide) rfl ?_
                  refine G_goto (tgt := 9) dX10_scanAll_84 (by decide) ?_
                  exact G_sub [3, 1, 0] rfl (ih r7 (1 : Int32) M6)
              · refine G_iinc (v := x1 + 1) (lv' := [(1, .int (x1 + 1)), (3, .int r5), (0, .ref (ad X 0)), (2, .int x2)]) 2 dX10_scanAll_51 rfl rfl (by decide) rfl ?_
                refine G_goto (tgt := 9) dX10_scanAll_54 (by decide) ?_
                exact G_sub [2, 0, 3] rfl (ih (x1 + 1) x2 M4)
def f_X10_scanAll (M : gM) : Option (Unit × gM) := (g_m (sI M 0 3 (0 : Int32)) (fun M1 => (f_X10_scanAll_9 FU (0 : Int32) (1 : Int32) M1)))
set_option maxRecDepth 100000 in
set_option maxHeartbeats 4000000 in
theorem ok_X10_scanAll (M : gM) : g_met Y2 yX10_scanAll jX10_scanAll g_ev (fun Z => [.ref (Z.2.1 0)]) M (f_X10_scanAll M) := by
  refine g_enter (fun Z => [(0, .ref (Z.2.1 0))]) (by decide) rfl (fun Z => Nat.le_of_ble_eq_true rfl) (fun Z => rfl) (fun X => ?_)
  rw [f_X10_scanAll]
  refine G_aload_n 0 dX10_scanAll_0 rfl rfl ?_
  refine G_iconst (v := 0) dX10_scanAll_1 (by decide) ?_
  refine G_putI 3 clX10 (y2_0) fl_X10_224 dX10_scanAll_2 (by decide) rfl rfl rfl ?_
  refine G_m (fun M1 => ?_)
  refine G_iconst (v := 0) dX10_scanAll_5 (by decide) ?_
  refine G_istore_n (lv' := [(1, .int 0), (0, .ref (ad X 0))]) dX10_scanAll_6 rfl (by decide) rfl ?_
  refine G_iconst (v := 1) dX10_scanAll_7 (by decide) ?_
  refine G_istore_n (lv' := [(2, .int 1), (1, .int 0), (0, .ref (ad X 0))]) dX10_scanAll_8 rfl (by decide) rfl ?_
  exact G_sub [2, 1, 0] rfl (o_X10_scanAll_9 FU (0 : Int32) (1 : Int32) M1)
-- X10_wrong
def f_X10_wrong (a1 : Int32) (M : gM) : Option (Bool × gM) := (g_m (sI M 0 9 a1) (fun M1 => (g_ck (M1.1 0 8) 2001 (g_m (sI M1 0 10 (M1.1 3 (tn (M1.1 0 8)))) (fun M2 => (some (false, M2)))))))
set_option maxRecDepth 100000 in
set_option maxHeartbeats 4000000 in
theorem ok_X10_wrong (a1 : Int32) (M : gM) : g_met Y2 yX10_wrong jX10_wrong g_eb (fun Z => [.ref (Z.2.1 0), .int a1]) M (f_X10_wrong a1 M) := by
  refine g_enter (fun Z => [(0, .ref (Z.2.1 0)), (1, .int a1)]) (by decide) rfl (fun Z => Nat.le_of_ble_eq_true rfl) (fun Z => rfl) (fun X => ?_)
  rw [f_X10_wrong]
  refine G_aload_n 0 dX10_wrong_0 rfl rfl ?_
  refine G_iload_n 1 dX10_wrong_1 rfl rfl ?_
  refine G_putI 9 clX10 (y2_0) fl_X10_286 dX10_wrong_2 (by decide) rfl rfl rfl ?_
  refine G_m (fun M1 => ?_)
  refine G_aload_n 0 dX10_wrong_5 rfl rfl ?_
  refine G_aload_n 0 dX10_wrong_6 rfl rfl ?_
  refine G_get 5 clX10 (y2_0) fl_X10_16 dX10_wrong_7 (by decide) rfl rfl ?_
  refine G_aload_n 0 dX10_wrong_10 rfl rfl ?_
  refine G_get 8 clX10 (y2_0) fl_X10_289 dX10_wrong_11 (by decide) rfl rfl ?_
  refine G_iald (y2_3) dX10_wrong_14 ?_
  refine G_putI 10 clX10 (y2_0) fl_X10_26 dX10_wrong_15 (by decide) rfl rfl rfl ?_
  refine G_m (fun M2 => ?_)
  refine G_iconst (v := 0) dX10_wrong_18 (by decide) ?_
  exact G_zret (b := false) rfl dX10_wrong_19
-- X10_tells
def f_X10_tells (a1 : Int32) (a2 : Int32) (M : gM) : Option (Unit × gM) := (g_ck a2 2001 (g_v (M.1 3 (tn a2)) (fun y1 => (if (M.1 0 11) = 0 then (g_m (sI M 0 11 a1) (fun M2 => (g_m (sI M2 0 12 y1) (fun M3 => (some ((), M3)))))) else (if (M.1 0 12) < y1 then (some ((), M)) else (if y1 = (M.1 0 12) then (if a1 < (M.1 0 11) then (g_m (sI M 0 11 a1) (fun M6 => (g_m (sI M6 0 12 y1) (fun M7 => (some ((), M7)))))) else (some ((), M))) else (g_m (sI M 0 11 a1) (fun M4 => (g_m (sI M4 0 12 y1) (fun M5 => (some ((), M5))))))))))))
set_option maxRecDepth 100000 in
set_option maxHeartbeats 4000000 in
theorem ok_X10_tells (a1 : Int32) (a2 : Int32) (M : gM) : g_met Y2 yX10_tells jX10_tells g_ev (fun Z => [.ref (Z.2.1 0), .int a1, .int a2]) M (f_X10_tells a1 a2 M) := by
  refine g_enter (fun Z => [(0, .ref (Z.2.1 0)), (1, .int a1), (2, .int a2)]) (by decide) rfl (fun Z => Nat.le_of_ble_eq_true rfl) (fun Z => rfl) (fun X => ?_)
  rw [f_X10_tells]
  refine G_aload_n 0 dX10_tells_0 rfl rfl ?_
  refine G_get 5 clX10 (y2_0) fl_X10_16 dX10_tells_1 (by decide) rfl rfl ?_
  refine G_iload_n 2 dX10_tells_4 rfl rfl ?_
  refine G_iald (y2_3) dX10_tells_5 ?_
  refine G_vi (fun y1 => ?_)
  refine G_istore_n (lv' := [(3, .int y1), (0, .ref (ad X 0)), (1, .int a1), (2, .int a2)]) dX10_tells_6 rfl (by decide) rfl ?_
  refine G_aload_n 1 dX10_tells_7 rfl rfl ?_
  refine G_get 11 clX10 (y2_0) fl_X10_292 dX10_tells_8 (by decide) rfl rfl ?_
  refine G_if_eq (tgt := 39) dX10_tells_11 (by decide) ?_ ?_
  · refine G_aload_n 1 dX10_tells_39 rfl rfl ?_
    refine G_iload_n 2 dX10_tells_40 rfl rfl ?_
    refine G_putI 11 clX10 (y2_0) fl_X10_292 dX10_tells_41 (by decide) rfl rfl rfl ?_
    refine G_m (fun M2 => ?_)
    refine G_aload_n 1 dX10_tells_44 rfl rfl ?_
    refine G_iload_n 0 dX10_tells_45 rfl rfl ?_
    refine G_putI 12 clX10 (y2_0) fl_X10_295 dX10_tells_46 (by decide) rfl rfl rfl ?_
    refine G_m (fun M3 => ?_)
    exact G_vret rfl dX10_tells_49
  · refine G_iload_n 0 dX10_tells_14 rfl rfl ?_
    refine G_aload_n 1 dX10_tells_15 rfl rfl ?_
    refine G_get 12 clX10 (y2_0) fl_X10_295 dX10_tells_16 (by decide) rfl rfl ?_
    refine G_icmp_gt (tgt := 38) dX10_tells_19 (by decide) ?_ ?_
    · exact G_vret rfl dX10_tells_38
    · refine G_iload_n 0 dX10_tells_22 rfl rfl ?_
      refine G_aload_n 1 dX10_tells_23 rfl rfl ?_
      refine G_get 12 clX10 (y2_0) fl_X10_295 dX10_tells_24 (by decide) rfl rfl ?_
      refine G_icmp_ne (tgt := 39) dX10_tells_27 (by decide) ?_ ?_
      · refine G_aload_n 1 dX10_tells_39 rfl rfl ?_
        refine G_iload_n 2 dX10_tells_40 rfl rfl ?_
        refine G_putI 11 clX10 (y2_0) fl_X10_292 dX10_tells_41 (by decide) rfl rfl rfl ?_
        refine G_m (fun M4 => ?_)
        refine G_aload_n 1 dX10_tells_44 rfl rfl ?_
        refine G_iload_n 0 dX10_tells_45 rfl rfl ?_
        refine G_putI 12 clX10 (y2_0) fl_X10_295 dX10_tells_46 (by decide) rfl rfl rfl ?_
        refine G_m (fun M5 => ?_)
        exact G_vret rfl dX10_tells_49
      · refine G_iload_n 2 dX10_tells_30 rfl rfl ?_
        refine G_aload_n 1 dX10_tells_31 rfl rfl ?_
        refine G_get 11 clX10 (y2_0) fl_X10_292 dX10_tells_32 (by decide) rfl rfl ?_
        refine G_icmp_lt (tgt := 39) dX10_tells_35 (by decide) ?_ ?_
        · refine G_aload_n 1 dX10_tells_39 rfl rfl ?_
          refine G_iload_n 2 dX10_tells_40 rfl rfl ?_
          refine G_putI 11 clX10 (y2_0) fl_X10_292 dX10_tells_41 (by decide) rfl rfl rfl ?_
          refine G_m (fun M6 => ?_)
          refine G_aload_n 1 dX10_tells_44 rfl rfl ?_
          refine G_iload_n 0 dX10_tells_45 rfl rfl ?_
          refine G_putI 12 clX10 (y2_0) fl_X10_295 dX10_tells_46 (by decide) rfl rfl rfl ?_
          refine G_m (fun M7 => ?_)
          exact G_vret rfl dX10_tells_49
        · exact G_vret rfl dX10_tells_38
-- X10_pass
def f_X10_pass (M : gM) : Option (Bool × gM) := (if (M.1 0 8) < (400 : Int32) then (g_m (sI M 0 8 ((M.1 0 8) + (1 : Int32))) (fun M1 => (some (true, M1)))) else (g_b (f_X10_wrong (2 : Int32) M) (fun r3 M2 => (some (r3, M2)))))
set_option maxRecDepth 100000 in
set_option maxHeartbeats 4000000 in
theorem ok_X10_pass (M : gM) : g_met Y2 yX10_pass jX10_pass g_eb (fun Z => [.ref (Z.2.1 0)]) M (f_X10_pass M) := by
  refine g_enter (fun Z => [(0, .ref (Z.2.1 0))]) (by decide) rfl (fun Z => Nat.le_of_ble_eq_true rfl) (fun Z => rfl) (fun X => ?_)
  rw [f_X10_pass]
  refine G_aload_n 0 dX10_pass_0 rfl rfl ?_
  refine G_get 8 clX10 (y2_0) fl_X10_289 dX10_pass_1 (by decide) rfl rfl ?_
  refine G_sipush (v := 400) dX10_pass_4 (by decide) ?_
  refine G_icmp_lt (tgt := 16) dX10_pass_7 (by decide) ?_ ?_
  · refine G_aload_n 0 dX10_pass_16 rfl rfl ?_
    refine G_dup dX10_pass_17 rfl ?_
    refine G_get 8 clX10 (y2_0) fl_X10_289 dX10_pass_18 (by decide) rfl rfl ?_
    refine G_iconst (v := 1) dX10_pass_21 (by decide) ?_
    refine G_iadd dX10_pass_22 ?_
    refine G_putI 8 clX10 (y2_0) fl_X10_289 dX10_pass_23 (by decide) rfl rfl rfl ?_
    refine G_m (fun M1 => ?_)
    refine G_iconst (v := 1) dX10_pass_26 (by decide) ?_
    exact G_zret (b := true) rfl dX10_pass_27
  · refine G_aload_n 0 dX10_pass_10 rfl rfl ?_
    refine G_iconst (v := 2) dX10_pass_11 (by decide) ?_
    refine G_cVb (As := [.int 2]) (rest := []) (ok_X10_wrong (2 : Int32) M) rfl (y2_0) rfl mv_X10_298 dX10_pass_12 rfl rfl (Nat.le_of_ble_eq_true rfl) (g_fitN (by decide) (by decide)) (fun r3 M2 => ?_)
    exact G_zret rfl dX10_pass_15
-- X10_isSign
def f_X10_isSign (a1 : Int32) (M : gM) : Option (Bool × gM) := (g_ck (M.1 0 8) 2001 (if (M.1 2 (tn (M.1 0 8))) = (2 : Int32) then (g_ck (M.1 0 8) 2001 (if (M.1 4 (tn (M.1 0 8))) = a1 then (some (true, M)) else (some (false, M)))) else (some (false, M))))
set_option maxRecDepth 100000 in
set_option maxHeartbeats 4000000 in
theorem ok_X10_isSign (a1 : Int32) (M : gM) : g_met Y2 yX10_isSign jX10_isSign g_eb (fun Z => [.ref (Z.2.1 0), .int a1]) M (f_X10_isSign a1 M) := by
  refine g_enter (fun Z => [(0, .ref (Z.2.1 0)), (1, .int a1)]) (by decide) rfl (fun Z => Nat.le_of_ble_eq_true rfl) (fun Z => rfl) (fun X => ?_)
  rw [f_X10_isSign]
  refine G_aload_n 0 dX10_isSign_0 rfl rfl ?_
  refine G_get 4 clX10 (y2_0) fl_X10_13 dX10_isSign_1 (by decide) rfl rfl ?_
  refine G_aload_n 0 dX10_isSign_4 rfl rfl ?_
  refine G_get 8 clX10 (y2_0) fl_X10_289 dX10_isSign_5 (by decide) rfl rfl ?_
  refine G_iald (y2_2) dX10_isSign_8 ?_
  refine G_iconst (v := 2) dX10_isSign_9 (by decide) ?_
  refine G_icmp_ne (tgt := 30) dX10_isSign_10 (by decide) ?_ ?_
  · refine G_iconst (v := 0) dX10_isSign_30 (by decide) ?_
    exact G_zret (b := false) rfl dX10_isSign_31
  · refine G_aload_n 0 dX10_isSign_13 rfl rfl ?_
    refine G_get 6 clX10 (y2_0) fl_X10_19 dX10_isSign_14 (by decide) rfl rfl ?_
    refine G_aload_n 0 dX10_isSign_17 rfl rfl ?_
    refine G_get 8 clX10 (y2_0) fl_X10_289 dX10_isSign_18 (by decide) rfl rfl ?_
    refine G_iald (y2_4) dX10_isSign_21 ?_
    refine G_iload_n 1 dX10_isSign_22 rfl rfl ?_
    refine G_icmp_ne (tgt := 30) dX10_isSign_23 (by decide) ?_ ?_
    · refine G_iconst (v := 0) dX10_isSign_30 (by decide) ?_
      exact G_zret (b := false) rfl dX10_isSign_31
    · refine G_iconst (v := 1) dX10_isSign_26 (by decide) ?_
      refine G_goto (tgt := 31) dX10_isSign_27 (by decide) ?_
      exact G_zret (b := true) rfl dX10_isSign_31
-- X10_isWord
def f_X10_isWord (a1 : Int32) (M : gM) : Option (Bool × gM) := (g_ck (M.1 0 8) 2001 (if (M.1 2 (tn (M.1 0 8))) = (3 : Int32) then (g_ck (M.1 0 8) 2001 (if (M.1 4 (tn (M.1 0 8))) = a1 then (some (true, M)) else (some (false, M)))) else (some (false, M))))
set_option maxRecDepth 100000 in
set_option maxHeartbeats 4000000 in
theorem ok_X10_isWord (a1 : Int32) (M : gM) : g_met Y2 yX10_isWord jX10_isWord g_eb (fun Z => [.ref (Z.2.1 0), .int a1]) M (f_X10_isWord a1 M) := by
  refine g_enter (fun Z => [(0, .ref (Z.2.1 0)), (1, .int a1)]) (by decide) rfl (fun Z => Nat.le_of_ble_eq_true rfl) (fun Z => rfl) (fun X => ?_)
  rw [f_X10_isWord]
  refine G_aload_n 0 dX10_isWord_0 rfl rfl ?_
  refine G_get 4 clX10 (y2_0) fl_X10_13 dX10_isWord_1 (by decide) rfl rfl ?_
  refine G_aload_n 0 dX10_isWord_4 rfl rfl ?_
  refine G_get 8 clX10 (y2_0) fl_X10_289 dX10_isWord_5 (by decide) rfl rfl ?_
  refine G_iald (y2_2) dX10_isWord_8 ?_
  refine G_iconst (v := 3) dX10_isWord_9 (by decide) ?_
  refine G_icmp_ne (tgt := 30) dX10_isWord_10 (by decide) ?_ ?_
  · refine G_iconst (v := 0) dX10_isWord_30 (by decide) ?_
    exact G_zret (b := false) rfl dX10_isWord_31
  · refine G_aload_n 0 dX10_isWord_13 rfl rfl ?_
    refine G_get 6 clX10 (y2_0) fl_X10_19 dX10_isWord_14 (by decide) rfl rfl ?_
    refine G_aload_n 0 dX10_isWord_17 rfl rfl ?_
    refine G_get 8 clX10 (y2_0) fl_X10_289 dX10_isWord_18 (by decide) rfl rfl ?_
    refine G_iald (y2_4) dX10_isWord_21 ?_
    refine G_iload_n 1 dX10_isWord_22 rfl rfl ?_
    refine G_icmp_ne (tgt := 30) dX10_isWord_23 (by decide) ?_ ?_
    · refine G_iconst (v := 0) dX10_isWord_30 (by decide) ?_
      exact G_zret (b := false) rfl dX10_isWord_31
    · refine G_iconst (v := 1) dX10_isWord_26 (by decide) ?_
      refine G_goto (tgt := 31) dX10_isWord_27 (by decide) ?_
      exact G_zret (b := true) rfl dX10_isWord_31
-- X10_takes
def f_X10_takes (a1 : Int32) (M : gM) : Option (Bool × gM) := (g_ck (M.1 0 8) 2001 (if (M.1 2 (tn (M.1 0 8))) = a1 then (g_b (f_X10_pass M) (fun r4 M3 => (some (r4, M3)))) else (g_b (f_X10_wrong (1 : Int32) M) (fun r2 M1 => (some (r2, M1))))))
set_option maxRecDepth 100000 in
set_option maxHeartbeats 4000000 in
theorem ok_X10_takes (a1 : Int32) (M : gM) : g_met Y2 yX10_takes jX10_takes g_eb (fun Z => [.ref (Z.2.1 0), .int a1]) M (f_X10_takes a1 M) := by
  refine g_enter (fun Z => [(0, .ref (Z.2.1 0)), (1, .int a1)]) (by decide) rfl (fun Z => Nat.le_of_ble_eq_true rfl) (fun Z => rfl) (fun X => ?_)
  rw [f_X10_takes]
  refine G_aload_n 0 dX10_takes_0 rfl rfl ?_
  refine G_get 4 clX10 (y2_0) fl_X10_13 dX10_takes_1 (by decide) rfl rfl ?_
  refine G_aload_n 0 dX10_takes_4 rfl rfl ?_
  refine G_get 8 clX10 (y2_0) fl_X10_289 dX10_takes_5 (by decide) rfl rfl ?_
  refine G_iald (y2_2) dX10_takes_8 ?_
  refine G_iload_n 1 dX10_takes_9 rfl rfl ?_
  refine G_icmp_ne (tgt := 20) dX10_takes_10 (by decide) ?_ ?_
  · refine G_aload_n 0 dX10_takes_20 rfl rfl ?_
    refine G_iconst (v := 1) dX10_takes_21 (by decide) ?_
    refine G_cVb (As := [.int 1]) (rest := []) (ok_X10_wrong (1 : Int32) M) rfl (y2_0) rfl mv_X10_298 dX10_takes_22 rfl rfl (Nat.le_of_ble_eq_true rfl) (g_fitN (by decide) (by decide)) (fun r2 M1 => ?_)
    exact G_zret rfl dX10_takes_25
  · refine G_aload_n 0 dX10_takes_13 rfl rfl ?_
    refine G_cVb (As := []) (rest := []) (ok_X10_pass M) rfl (y2_0) rfl mv_X10_301 dX10_takes_14 rfl rfl (Nat.le_of_ble_eq_true rfl) (g_fitN (by decide) (by decide)) (fun r4 M3 => ?_)
    refine G_goto (tgt := 25) dX10_takes_17 (by decide) ?_
    exact G_zret rfl dX10_takes_25
-- X10_takesSigned
def f_X10_takesSigned_51 (x2 : Int32) (x3 : Int32) (M : gM) : Option (Bool × gM) := (if x2 = 0 then (g_ck x3 2001 (g_m (sI M 0 59 (M.1 4 (tn x3))) (fun M7 => (some (true, M7))))) else (g_ck x3 2001 (g_m (sI M 0 59 (-(M.1 4 (tn x3)))) (fun M8 => (some (true, M8))))))
set_option maxRecDepth 100000 in
set_option maxHeartbeats 4000000 in
theorem o_X10_takesSigned_51 {X : gX} (x2 : Int32) (x3 : Int32) (M : gM) : G Y2 jX10_takesSigned X (g_fin g_eb) 51 [(0, .ref (ad X 0)), (2, .int x2), (3, .int x3)] [] M (f_X10_takesSigned_51 x2 x3 M) := by
  rw [f_X10_takesSigned_51]
  refine G_aload_n 0 dX10_takesSigned_51 rfl rfl ?_
  refine G_iload_n 1 dX10_takesSigned_52 rfl rfl ?_
  refine G_if_eq (tgt := 66) dX10_takesSigned_53 (by decide) ?_ ?_
  · refine G_aload_n 0 dX10_takesSigned_66 rfl rfl ?_
    refine G_get 6 clX10 (y2_0) fl_X10_19 dX10_takesSigned_67 (by decide) rfl rfl ?_
    refine G_iload_n 2 dX10_takesSigned_70 rfl rfl ?_
    refine G_iald (y2_4) dX10_takesSigned_71 ?_
    refine G_putI 59 clX10 (y2_0) fl_X10_315 dX10_takesSigned_72 (by decide) rfl rfl rfl ?_
    refine G_m (fun M7 => ?_)
    refine G_iconst (v := 1) dX10_takesSigned_75 (by decide) ?_
    exact G_zret (b := true) rfl dX10_takesSigned_76
  · refine G_aload_n 0 dX10_takesSigned_56 rfl rfl ?_
    refine G_get 6 clX10 (y2_0) fl_X10_19 dX10_takesSigned_57 (by decide) rfl rfl ?_
    refine G_iload_n 2 dX10_takesSigned_60 rfl rfl ?_
    refine G_iald (y2_4) dX10_takesSigned_61 ?_
    refine G_ineg dX10_takesSigned_62 ?_
    refine G_goto (tgt := 72) dX10_takesSigned_63 (by decide) ?_
    refine G_putI 59 clX10 (y2_0) fl_X10_315 dX10_takesSigned_72 (by decide) rfl rfl rfl ?_
    refine G_m (fun M8 => ?_)
    refine G_iconst (v := 1) dX10_takesSigned_75 (by decide) ?_
    exact G_zret (b := true) rfl dX10_takesSigned_76
def f_X10_takesSigned_20 (x1 : Int32) (x2 : Int32) (M : gM) : Option (Bool × gM) := (g_v (M.1 0 8) (fun y4 => (g_b (f_X10_takes (1 : Int32) M) (fun r6 M5 => (if r6 then (g_ck y4 2001 (if (M5.1 4 (tn y4)) ≤ x1 then (f_X10_takesSigned_51 x2 y4 M5) else (g_b (f_X10_tells (5 : Int32) y4 M5) (fun r10 M9 => (f_X10_takesSigned_51 x2 y4 M9))))) else (some (false, M5)))))))
set_option maxRecDepth 100000 in
set_option maxHeartbeats 4000000 in
theorem o_X10_takesSigned_20 {X : gX} (x1 : Int32) (x2 : Int32) (M : gM) : G Y2 jX10_takesSigned X (g_fin g_eb) 20 [(0, .ref (ad X 0)), (1, .int x1), (2, .int x2)] [] M (f_X10_takesSigned_20 x1 x2 M) := by
  rw [f_X10_takesSigned_20]
  refine G_aload_n 0 dX10_takesSigned_20 rfl rfl ?_
  refine G_get 8 clX10 (y2_0) fl_X10_289 dX10_takesSigned_21 (by decide) rfl rfl ?_
  refine G_vi (fun y4 => ?_)
  refine G_istore_n (lv' := [(3, .int y4), (0, .ref (ad X 0)), (1, .int x1), (2, .int x2)]) dX10_takesSigned_24 rfl (by decide) rfl ?_
  refine G_aload_n 1 dX10_takesSigned_25 rfl rfl ?_
  refine G_iconst (v := 1) dX10_takesSigned_26 (by decide) ?_
  refine G_cVb (As := [.int 1]) (rest := []) (ok_X10_takes (1 : Int32) M) rfl (y2_0) rfl mv_X10_308 dX10_takesSigned_27 rfl rfl (Nat.le_of_ble_eq_true rfl) (g_fitN (by decide) (by decide)) (fun r6 M5 => ?_)
  refine G_ifB_ne (tgt := 35) dX10_takesSigned_30 (by decide) ?_ ?_
  · refine G_aload_n 1 dX10_takesSigned_35 rfl rfl ?_
    refine G_get 6 clX10 (y2_0) fl_X10_19 dX10_takesSigned_36 (by decide) rfl rfl ?_
    refine G_iload_n 0 dX10_takesSigned_39 rfl rfl ?_
    refine G_iald (y2_4) dX10_takesSigned_40 ?_
    refine G_iload_n 2 dX10_takesSigned_41 rfl rfl ?_
    refine G_icmp_le (tgt := 51) dX10_takesSigned_42 (by decide) ?_ ?_
    · exact G_sub [1, 3, 0] rfl (o_X10_takesSigned_51 x2 y4 M5)
    · refine G_aload_n 1 dX10_takesSigned_45 rfl rfl ?_
      refine G_iconst (v := 5) dX10_takesSigned_46 (by decide) ?_
      refine G_iload_n 0 dX10_takesSigned_47 rfl rfl ?_
      refine G_cVv (As := [.int 5, .int y4]) (rest := []) (ok_X10_tells (5 : Int32) y4 M5) rfl (y2_0) rfl mv_X10_311 dX10_takesSigned_48 rfl rfl (Nat.le_of_ble_eq_true rfl) (g_fitN (by decide) (by decide)) (fun r10 M9 => ?_)
      exact G_sub [1, 3, 0] rfl (o_X10_takesSigned_51 x2 y4 M9)
  · refine G_iconst (v := 0) dX10_takesSigned_33 (by decide) ?_
    exact G_zret (b := false) rfl dX10_takesSigned_34
def f_X10_takesSigned (a1 : Int32) (M : gM) : Option (Bool × gM) := (g_b (f_X10_isSign (45 : Int32) M) (fun r2 M1 => (g_v (b2i r2) (fun y3 => (if y3 = 0 then (f_X10_takesSigned_20 a1 y3 M1) else (g_b (f_X10_pass M1) (fun r12 M11 => (if r12 then (f_X10_takesSigned_20 a1 y3 M11) else (some (false, M11))))))))))
set_option maxRecDepth 100000 in
set_option maxHeartbeats 4000000 in
theorem ok_X10_takesSigned (a1 : Int32) (M : gM) : g_met Y2 yX10_takesSigned jX10_takesSigned g_eb (fun Z => [.ref (Z.2.1 0), .int a1]) M (f_X10_takesSigned a1 M) := by
  refine g_enter (fun Z => [(0, .ref (Z.2.1 0)), (1, .int a1)]) (by decide) rfl (fun Z => Nat.le_of_ble_eq_true rfl) (fun Z => rfl) (fun X => ?_)
  rw [f_X10_takesSigned]
  refine G_aload_n 0 dX10_takesSigned_0 rfl rfl ?_
  refine G_bipush (v := 45) dX10_takesSigned_1 (by decide) ?_
  refine G_cVb (As := [.int 45]) (rest := []) (ok_X10_isSign (45 : Int32) M) rfl (y2_0) rfl mv_X10_305 dX10_takesSigned_3 rfl rfl (Nat.le_of_ble_eq_true rfl) (g_fitN (by decide) (by decide)) (fun r2 M1 => ?_)
  refine G_vi (fun y3 => ?_)
  refine G_istore_n (lv' := [(2, .int y3), (0, .ref (ad X 0)), (1, .int a1)]) dX10_takesSigned_6 rfl (by decide) rfl ?_
  refine G_iload_n 0 dX10_takesSigned_7 rfl rfl ?_
  refine G_if_eq (tgt := 20) dX10_takesSigned_8 (by decide) ?_ ?_
  · exact G_sub [1, 2, 0] rfl (o_X10_takesSigned_20 a1 y3 M1)
  · refine G_aload_n 1 dX10_takesSigned_11 rfl rfl ?_
    refine G_cVb (As := []) (rest := []) (ok_X10_pass M1) rfl (y2_0) rfl mv_X10_301 dX10_takesSigned_12 rfl rfl (Nat.le_of_ble_eq_true rfl) (g_fitN (by decide) (by decide)) (fun r12 M11 => ?_)
    refine G_ifB_ne (tgt := 20) dX10_takesSigned_15 (by decide) ?_ ?_
    · exact G_sub [1, 2, 0] rfl (o_X10_takesSigned_20 a1 y3 M11)
    · refine G_iconst (v := 0) dX10_takesSigned_18 (by decide) ?_
      exact G_zret (b := false) rfl dX10_takesSigned_19
-- X10_takesInt
def f_X10_takesInt_41 (x3 : Int32) (M : gM) : Option (Bool × gM) := (g_b (f_X10_tells (5 : Int32) x3 M) (fun r6 M5 => (some (true, M5))))
set_option maxRecDepth 100000 in
set_option maxHeartbeats 4000000 in
theorem o_X10_takesInt_41 {X : gX} (x3 : Int32) (M : gM) : G Y2 jX10_takesInt X (g_fin g_eb) 41 [(0, .ref (ad X 0)), (3, .int x3)] [] M (f_X10_takesInt_41 x3 M) := by
  rw [f_X10_takesInt_41]
  refine G_aload_n 0 dX10_takesInt_41 rfl rfl ?_
  refine G_iconst (v := 5) dX10_takesInt_42 (by decide) ?_
  refine G_iload_n 1 dX10_takesInt_43 rfl rfl ?_
  refine G_cVv (As := [.int 5, .int x3]) (rest := []) (ok_X10_tells (5 : Int32) x3 M) rfl (y2_0) rfl mv_X10_311 dX10_takesInt_44 rfl rfl (Nat.le_of_ble_eq_true rfl) (g_fitN (by decide) (by decide)) (fun r6 M5 => ?_)
  refine G_iconst (v := 1) dX10_takesInt_47 (by decide) ?_
  exact G_zret (b := true) rfl dX10_takesInt_48
def f_X10_takesInt (a1 : Int32) (a2 : Int32) (M : gM) : Option (Bool × gM) := (g_v (M.1 0 8) (fun y1 => (g_b (f_X10_takes (1 : Int32) M) (fun r3 M2 => (if r3 then (g_ck y1 2001 (g_m (sI M2 0 59 (M2.1 4 (tn y1))) (fun M4 => (if (M4.1 0 59) < a1 then (f_X10_takesInt_41 y1 M4) else (if (M4.1 0 59) ≤ a2 then (some (true, M4)) else (f_X10_takesInt_41 y1 M4)))))) else (some (false, M2)))))))
set_option maxRecDepth 100000 in
set_option maxHeartbeats 4000000 in
theorem ok_X10_takesInt (a1 : Int32) (a2 : Int32) (M : gM) : g_met Y2 yX10_takesInt jX10_takesInt g_eb (fun Z => [.ref (Z.2.1 0), .int a1, .int a2]) M (f_X10_takesInt a1 a2 M) := by
  refine g_enter (fun Z => [(0, .ref (Z.2.1 0)), (1, .int a1), (2, .int a2)]) (by decide) rfl (fun Z => Nat.le_of_ble_eq_true rfl) (fun Z => rfl) (fun X => ?_)
  rw [f_X10_takesInt]
  refine G_aload_n 0 dX10_takesInt_0 rfl rfl ?_
  refine G_get 8 clX10 (y2_0) fl_X10_289 dX10_takesInt_1 (by decide) rfl rfl ?_
  refine G_vi (fun y1 => ?_)
  refine G_istore_n (lv' := [(3, .int y1), (0, .ref (ad X 0)), (1, .int a1), (2, .int a2)]) dX10_takesInt_4 rfl (by decide) rfl ?_
  refine G_aload_n 1 dX10_takesInt_5 rfl rfl ?_
  refine G_iconst (v := 1) dX10_takesInt_6 (by decide) ?_
  refine G_cVb (As := [.int 1]) (rest := []) (ok_X10_takes (1 : Int32) M) rfl (y2_0) rfl mv_X10_308 dX10_takesInt_7 rfl rfl (Nat.le_of_ble_eq_true rfl) (g_fitN (by decide) (by decide)) (fun r3 M2 => ?_)
  refine G_ifB_ne (tgt := 15) dX10_takesInt_10 (by decide) ?_ ?_
  · refine G_aload_n 1 dX10_takesInt_15 rfl rfl ?_
    refine G_aload_n 1 dX10_takesInt_16 rfl rfl ?_
    refine G_get 6 clX10 (y2_0) fl_X10_19 dX10_takesInt_17 (by decide) rfl rfl ?_
    refine G_iload_n 0 dX10_takesInt_20 rfl rfl ?_
    refine G_iald (y2_4) dX10_takesInt_21 ?_
    refine G_putI 59 clX10 (y2_0) fl_X10_315 dX10_takesInt_22 (by decide) rfl rfl rfl ?_
    refine G_m (fun M4 => ?_)
    refine G_aload_n 1 dX10_takesInt_25 rfl rfl ?_
    refine G_get 59 clX10 (y2_0) fl_X10_315 dX10_takesInt_26 (by decide) rfl rfl ?_
    refine G_iload_n 2 dX10_takesInt_29 rfl rfl ?_
    refine G_icmp_lt (tgt := 41) dX10_takesInt_30 (by decide) ?_ ?_
    · exact G_sub [1, 0] rfl (o_X10_takesInt_41 y1 M4)
    · refine G_aload_n 1 dX10_takesInt_33 rfl rfl ?_
      refine G_get 59 clX10 (y2_0) fl_X10_315 dX10_takesInt_34 (by decide) rfl rfl ?_
      refine G_iload_n 3 dX10_takesInt_37 rfl rfl ?_
      refine G_icmp_le (tgt := 47) dX10_takesInt_38 (by decide) ?_ ?_
      · refine G_iconst (v := 1) dX10_takesInt_47 (by decide) ?_
        exact G_zret (b := true) rfl dX10_takesInt_48
      · exact G_sub [1, 0] rfl (o_X10_takesInt_41 y1 M4)
  · refine G_iconst (v := 0) dX10_takesInt_13 (by decide) ?_
    exact G_zret (b := false) rfl dX10_takesInt_14
-- X10_emit
def f_X10_emit (a1 : Int32) (a2 : Int32) (M : gM) : Option (Unit × gM) := (g_ck (M.1 0 14) 2 (g_ck (M.1 28 (tn (M.1 0 14))) 1000 (g_m (sI M 29 (tn (M.1 28 (tn (M.1 0 14)))) a1) (fun M1 => (g_ck (M1.1 0 14) 2 (g_ck (M1.1 28 (tn (M1.1 0 14))) 1000 (g_m (sI M1 30 (tn (M1.1 28 (tn (M1.1 0 14)))) a2) (fun M2 => (g_ck (M2.1 0 14) 2 (g_ck (M2.1 0 14) 2 (g_m (sI M2 28 (tn (M2.1 0 14)) ((M2.1 28 (tn (M2.1 0 14))) + (1 : Int32))) (fun M3 => (some ((), M3))))))))))))))
set_option maxRecDepth 100000 in
set_option maxHeartbeats 4000000 in
theorem ok_X10_emit (a1 : Int32) (a2 : Int32) (M : gM) : g_met Y2 yX10_emit jX10_emit g_ev (fun Z => [.ref (Z.2.1 0), .int a1, .int a2]) M (f_X10_emit a1 a2 M) := by
  refine g_enter (fun Z => [(0, .ref (Z.2.1 0)), (1, .int a1), (2, .int a2)]) (by decide) rfl (fun Z => Nat.le_of_ble_eq_true rfl) (fun Z => rfl) (fun X => ?_)
  rw [f_X10_emit]
  refine G_aload_n 0 dX10_emit_0 rfl rfl ?_
  refine G_get 38 clX10 (y2_0) fl_X10_99 dX10_emit_1 (by decide) rfl rfl ?_
  refine G_aload_n 0 dX10_emit_4 rfl rfl ?_
  refine G_get 37 clX10 (y2_0) fl_X10_96 dX10_emit_5 (by decide) rfl rfl ?_
  refine G_aload_n 0 dX10_emit_8 rfl rfl ?_
  refine G_get 14 clX10 (y2_0) fl_X10_318 dX10_emit_9 (by decide) rfl rfl ?_
  refine G_iald (y2_28) dX10_emit_12 ?_
  refine G_iload_n 1 dX10_emit_13 rfl rfl ?_
  refine G_iast (y2_29) dX10_emit_14 ?_
  refine G_m (fun M1 => ?_)
  refine G_aload_n 0 dX10_emit_15 rfl rfl ?_
  refine G_get 39 clX10 (y2_0) fl_X10_102 dX10_emit_16 (by decide) rfl rfl ?_
  refine G_aload_n 0 dX10_emit_19 rfl rfl ?_
  refine G_get 37 clX10 (y2_0) fl_X10_96 dX10_emit_20 (by decide) rfl rfl ?_
  refine G_aload_n 0 dX10_emit_23 rfl rfl ?_
  refine G_get 14 clX10 (y2_0) fl_X10_318 dX10_emit_24 (by decide) rfl rfl ?_
  refine G_iald (y2_28) dX10_emit_27 ?_
  refine G_iload_n 2 dX10_emit_28 rfl rfl ?_
  refine G_iast (y2_30) dX10_emit_29 ?_
  refine G_m (fun M2 => ?_)
  refine G_aload_n 0 dX10_emit_30 rfl rfl ?_
  refine G_get 37 clX10 (y2_0) fl_X10_96 dX10_emit_31 (by decide) rfl rfl ?_
  refine G_aload_n 0 dX10_emit_34 rfl rfl ?_
  refine G_get 14 clX10 (y2_0) fl_X10_318 dX10_emit_35 (by decide) rfl rfl ?_
  refine G_dup2 dX10_emit_38 rfl rfl ?_
  refine G_iald (y2_28) dX10_emit_39 ?_
  refine G_iconst (v := 1) dX10_emit_40 (by decide) ?_
  refine G_iadd dX10_emit_41 ?_
  refine G_iast (y2_28) dX10_emit_42 ?_
  refine G_m (fun M3 => ?_)
  exact G_vret rfl dX10_emit_43
