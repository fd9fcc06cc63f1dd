-- X10_rowsOf
def f_X10_rowsOf_4 : Nat → Int32 → Int32 → Int32 → gM → Option (Int32 × gM)
  | 0, _, _, _, _ => none
  | n + 1, x1, x2, x3, M => (if x1 ≤ x3 then (some (x2, M)) else (g_b (f_X10_actsOf M) (fun r2 M1 => (g_v (x2 * r2) (fun y3 => (f_X10_rowsOf_4 n x1 y3 (x3 + 1) M1))))))
set_option maxRecDepth 100000 in
set_option maxHeartbeats 4000000 in
theorem o_X10_rowsOf_4 {X : gX} : ∀ (n : Nat) (x1 : Int32) (x2 : Int32) (x3 : Int32) (M : gM), G Y2 jX10_rowsOf X (g_fin g_ei) 4 [(0, .ref (ad X 0)), (1, .int x1), (2, .int x2), (3, .int x3)] [] M (f_X10_rowsOf_4 n x1 x2 x3 M) := by
  intro n
  induction n with
  | zero => intro x1 x2 x3 M; exact G_none
  | succ n ih =>
    intro x1 x2 x3 M
    rw [f_X10_rowsOf_4]
    refine G_iload_n 3 dX10_rowsOf_4 rfl rfl ?_
    refine G_iload_n 1 dX10_rowsOf_5 rfl rfl ?_
    refine G_icmp_ge (tgt := 22) dX10_rowsOf_6 (by decide) ?_ ?_
    · refine G_iload_n 2 dX10_rowsOf_22 rfl rfl ?_
      exact G_iret rfl dX10_rowsOf_23
    · refine G_iload_n 2 dX10_rowsOf_9 rfl rfl ?_
      refine G_aload_n 0 dX10_rowsOf_10 rfl rfl ?_
      refine G_cVi (As := []) (rest := [.int x2]) (ok_X10_actsOf M) rfl (y2_0) rfl mv_X10_482 dX10_rowsOf_11 rfl rfl (Nat.le_of_ble_eq_true rfl) (g_fitN (by decide) (by decide)) (fun r2 M1 => ?_)
      refine G_imul dX10_rowsOf_14 ?_
      refine G_vi (fun y3 => ?_)
      refine G_istore_n (lv' := [(2, .int y3), (0, .ref (ad X 0)), (1, .int x1), (3, .int x3)]) dX10_rowsOf_15 rfl (by decide) rfl ?_
      refine G_iinc (v := x3 + 1) (lv' := [(3, .int (x3 + 1)), (2, .int y3), (0, .ref (ad X 0)), (1, .int x1)]) 3 dX10_rowsOf_16 rfl rfl (by decide) rfl ?_
      refine G_goto (tgt := 4) dX10_rowsOf_19 (by decide) ?_
      exact G_sub [2, 3, 1, 0] rfl (ih x1 y3 (x3 + 1) M1)
def f_X10_rowsOf (a1 : Int32) (M : gM) : Option (Int32 × gM) := (f_X10_rowsOf_4 FU a1 (1 : Int32) (0 : Int32) M)
set_option maxRecDepth 100000 in
set_option maxHeartbeats 4000000 in
theorem ok_X10_rowsOf (a1 : Int32) (M : gM) : g_met Y2 yX10_rowsOf jX10_rowsOf g_ei (fun Z => [.ref (Z.2.1 0), .int a1]) M (f_X10_rowsOf a1 M) := by
  refine g_enter (fun Z => [(0, .ref (Z.2.1 0)), (1, .int a1)]) (by decide) rfl (fun Z => Nat.le_of_ble_eq_true rfl) (fun Z => rfl) (fun X => ?_)
  rw [f_X10_rowsOf]
  refine G_iconst (v := 1) dX10_rowsOf_0 (by decide) ?_
  refine G_istore_n (lv' := [(2, .int 1), (0, .ref (ad X 0)), (1, .int a1)]) dX10_rowsOf_1 rfl (by decide) rfl ?_
  refine G_iconst (v := 0) dX10_rowsOf_2 (by decide) ?_
  refine G_istore_n (lv' := [(3, .int 0), (2, .int 1), (0, .ref (ad X 0)), (1, .int a1)]) dX10_rowsOf_3 rfl (by decide) rfl ?_
  exact G_sub [2, 3, 1, 0] rfl (o_X10_rowsOf_4 FU a1 (1 : Int32) (0 : Int32) M)
-- X10_blind
def f_X10_blind_36 : Nat → Int32 → Int32 → Int32 → Int32 → Int32 → gM → Option (Int32 × gM)
  | 0, _, _, _, _, _, _ => none
  | n + 1, x1, x2, x3, x4, x5, M => (if x4 ≤ x5 then (some (x3, M)) else (g_b (f_X10_isBlindly x1 x2 x5 M) (fun r8 M7 => (if r8 then (g_v (x3 + (1 : Int32)) (fun y10 => (f_X10_blind_36 n x1 x2 y10 x4 (x5 + 1) M7))) else (g_v (x3 + (0 : Int32)) (fun y9 => (f_X10_blind_36 n x1 x2 y9 x4 (x5 + 1) M7)))))))
set_option maxRecDepth 100000 in
set_option maxHeartbeats 4000000 in
theorem o_X10_blind_36 {X : gX} : ∀ (n : Nat) (x1 : Int32) (x2 : Int32) (x3 : Int32) (x4 : Int32) (x5 : Int32) (M : gM), G Y2 jX10_blind X (g_fin g_ei) 36 [(0, .ref (ad X 0)), (1, .int x1), (2, .int x2), (3, .int x3), (4, .int x4), (5, .int x5)] [] M (f_X10_blind_36 n x1 x2 x3 x4 x5 M) := by
  intro n
  induction n with
  | zero => intro x1 x2 x3 x4 x5 M; exact G_none
  | succ n ih =>
    intro x1 x2 x3 x4 x5 M
    rw [f_X10_blind_36]
    refine G_iload 5 dX10_blind_36 rfl ?_
    refine G_iload 4 dX10_blind_38 rfl ?_
    refine G_icmp_ge (tgt := 68) dX10_blind_40 (by decide) ?_ ?_
    · refine G_iload_n 3 dX10_blind_68 rfl rfl ?_
      exact G_iret rfl dX10_blind_69
    · refine G_iload_n 3 dX10_blind_43 rfl rfl ?_
      refine G_aload_n 0 dX10_blind_44 rfl rfl ?_
      refine G_iload_n 1 dX10_blind_45 rfl rfl ?_
      refine G_iload_n 2 dX10_blind_46 rfl rfl ?_
      refine G_iload 5 dX10_blind_47 rfl ?_
      refine G_cVb (As := [.int x1, .int x2, .int x5]) (rest := [.int x3]) (ok_X10_isBlindly x1 x2 x5 M) rfl (y2_0) rfl mv_X10_549 dX10_blind_49 rfl rfl (Nat.le_of_ble_eq_true rfl) (g_fitN (by decide) (by decide)) (fun r8 M7 => ?_)
      refine G_ifB_eq (tgt := 59) dX10_blind_52 (by decide) ?_ ?_
      · refine G_iconst (v := 0) dX10_blind_59 (by decide) ?_
        refine G_iadd dX10_blind_60 ?_
        refine G_vi (fun y9 => ?_)
        refine G_istore_n (lv' := [(3, .int y9), (0, .ref (ad X 0)), (1, .int x1), (2, .int x2), (4, .int x4), (5, .int x5)]) dX10_blind_61 rfl (by decide) rfl ?_
        refine G_iinc (v := x5 + 1) (lv' := [(5, .int (x5 + 1)), (3, .int y9), (0, .ref (ad X 0)), (1, .int x1), (2, .int x2), (4, .int x4)]) 5 dX10_blind_62 rfl rfl (by decide) rfl ?_
        refine G_goto (tgt := 36) dX10_blind_65 (by decide) ?_
        exact G_sub [2, 3, 4, 1, 5, 0] rfl (ih x1 x2 y9 x4 (x5 + 1) M7)
      · refine G_iconst (v := 1) dX10_blind_55 (by decide) ?_
        refine G_goto (tgt := 60) dX10_blind_56 (by decide) ?_
        refine G_iadd dX10_blind_60 ?_
        refine G_vi (fun y10 => ?_)
        refine G_istore_n (lv' := [(3, .int y10), (0, .ref (ad X 0)), (1, .int x1), (2, .int x2), (4, .int x4), (5, .int x5)]) dX10_blind_61 rfl (by decide) rfl ?_
        refine G_iinc (v := x5 + 1) (lv' := [(5, .int (x5 + 1)), (3, .int y10), (0, .ref (ad X 0)), (1, .int x1), (2, .int x2), (4, .int x4)]) 5 dX10_blind_62 rfl rfl (by decide) rfl ?_
        refine G_goto (tgt := 36) dX10_blind_65 (by decide) ?_
        exact G_sub [2, 3, 4, 1, 5, 0] rfl (ih x1 x2 y10 x4 (x5 + 1) M7)
def f_X10_blind (a1 : Int32) (a2 : Int32) (M : gM) : Option (Int32 × gM) := (g_b (f_X10_isState a1 M) (fun r2 M1 => (if r2 then (if a2 < (1 : Int32) then (some (((-1) : Int32), M1)) else (if a2 ≤ (4 : Int32) then (g_b (f_X10_lay M1) (fun r4 M3 => (g_b (f_X10_rowsOf a2 M3) (fun r6 M5 => (f_X10_blind_36 FU a1 a2 (0 : Int32) r6 (0 : Int32) M5))))) else (some (((-1) : Int32), M1)))) else (some (((-1) : Int32), M1)))))
set_option maxRecDepth 100000 in
set_option maxHeartbeats 4000000 in
theorem ok_X10_blind (a1 : Int32) (a2 : Int32) (M : gM) : g_met Y2 yX10_blind jX10_blind g_ei (fun Z => [.ref (Z.2.1 0), .int a1, .int a2]) M (f_X10_blind a1 a2 M) := by
  refine g_enter (fun Z => [(0, .ref (Z.2.1 0)), (1, .int a1), (2, .int a2)]) (by decide) rfl (fun Z => Nat.le_of_ble_eq_true rfl) (fun Z => rfl) (fun X => ?_)
  rw [f_X10_blind]
  refine G_aload_n 0 dX10_blind_0 rfl rfl ?_
  refine G_iload_n 1 dX10_blind_1 rfl rfl ?_
  refine G_cVb (As := [.int a1]) (rest := []) (ok_X10_isState a1 M) rfl (y2_0) rfl mv_X10_476 dX10_blind_2 rfl rfl (Nat.le_of_ble_eq_true rfl) (g_fitN (by decide) (by decide)) (fun r2 M1 => ?_)
  refine G_ifB_eq (tgt := 18) dX10_blind_5 (by decide) ?_ ?_
  · refine G_iconst (v := (-1)) dX10_blind_18 (by decide) ?_
    exact G_iret rfl dX10_blind_19
  · refine G_iload_n 2 dX10_blind_8 rfl rfl ?_
    refine G_iconst (v := 1) dX10_blind_9 (by decide) ?_
    refine G_icmp_lt (tgt := 18) dX10_blind_10 (by decide) ?_ ?_
    · refine G_iconst (v := (-1)) dX10_blind_18 (by decide) ?_
      exact G_iret rfl dX10_blind_19
    · refine G_iload_n 2 dX10_blind_13 rfl rfl ?_
      refine G_iconst (v := 4) dX10_blind_14 (by decide) ?_
      refine G_icmp_le (tgt := 20) dX10_blind_15 (by decide) ?_ ?_
      · refine G_aload_n 0 dX10_blind_20 rfl rfl ?_
        refine G_cVv (As := []) (rest := []) (ok_X10_lay M1) rfl (y2_0) rfl mv_X10_516 dX10_blind_21 rfl rfl (Nat.le_of_ble_eq_true rfl) (g_fitN (by decide) (by decide)) (fun r4 M3 => ?_)
        refine G_iconst (v := 0) dX10_blind_24 (by decide) ?_
        refine G_istore_n (lv' := [(3, .int 0), (0, .ref (ad X 0)), (1, .int a1), (2, .int a2)]) dX10_blind_25 rfl (by decide) rfl ?_
        refine G_aload_n 1 dX10_blind_26 rfl rfl ?_
        refine G_iload_n 3 dX10_blind_27 rfl rfl ?_
        refine G_cVi (As := [.int a2]) (rest := []) (ok_X10_rowsOf a2 M3) rfl (y2_0) rfl mv_X10_546 dX10_blind_28 rfl rfl (Nat.le_of_ble_eq_true rfl) (g_fitN (by decide) (by decide)) (fun r6 M5 => ?_)
        refine G_istore (lv' := [(4, .int r6), (3, .int 0), (0, .ref (ad X 0)), (1, .int a1), (2, .int a2)]) dX10_blind_31 (by decide) rfl ?_
        refine G_iconst (v := 0) dX10_blind_33 (by decide) ?_
        refine G_istore (lv' := [(5, .int 0), (4, .int r6), (3, .int 0), (0, .ref (ad X 0)), (1, .int a1), (2, .int a2)]) dX10_blind_34 (by decide) rfl ?_
        exact G_sub [3, 4, 5, 2, 1, 0] rfl (o_X10_blind_36 FU a1 a2 (0 : Int32) r6 (0 : Int32) M5)
      · refine G_iconst (v := (-1)) dX10_blind_18 (by decide) ?_
        exact G_iret rfl dX10_blind_19
-- X10_blindAct
def f_X10_blindAct_73 : Nat → Int32 → Int32 → Int32 → gM → Option (Int32 × gM)
  | 0, _, _, _, _ => none
  | n + 1, x3, x6, x7, M => (if x7 ≤ x3 then (g_b (f_X10_actsOf M) (fun r11 M10 => (g_nz r11 (some ((x6 - x6 / r11 * r11), M10))))) else (g_b (f_X10_actsOf M) (fun r13 M12 => (g_nz r13 (g_v (x6 / r13) (fun y14 => (f_X10_blindAct_73 n x3 y14 (x7 + (-1)) M12)))))))
set_option maxRecDepth 100000 in
set_option maxHeartbeats 4000000 in
theorem o_X10_blindAct_73 {X : gX} : ∀ (n : Nat) (x3 : Int32) (x6 : Int32) (x7 : Int32) (M : gM), G Y2 jX10_blindAct X (g_fin g_ei) 73 [(0, .ref (ad X 0)), (3, .int x3), (6, .int x6), (7, .int x7)] [] M (f_X10_blindAct_73 n x3 x6 x7 M) := by
  intro n
  induction n with
  | zero => intro x3 x6 x7 M; exact G_none
  | succ n ih =>
    intro x3 x6 x7 M
    rw [f_X10_blindAct_73]
    refine G_iload 3 dX10_blindAct_73 rfl ?_
    refine G_iload_n 1 dX10_blindAct_75 rfl rfl ?_
    refine G_icmp_le (tgt := 94) dX10_blindAct_76 (by decide) ?_ ?_
    · refine G_iload 2 dX10_blindAct_94 rfl ?_
      refine G_aload_n 0 dX10_blindAct_96 rfl rfl ?_
      refine G_cVi (As := []) (rest := [.int x6]) (ok_X10_actsOf M) rfl (y2_0) rfl mv_X10_482 dX10_blindAct_97 rfl rfl (Nat.le_of_ble_eq_true rfl) (g_fitN (by decide) (by decide)) (fun r11 M10 => ?_)
      refine G_irem dX10_blindAct_100 ?_
      exact G_iret rfl dX10_blindAct_101
    · refine G_iload 2 dX10_blindAct_79 rfl ?_
      refine G_aload_n 0 dX10_blindAct_81 rfl rfl ?_
      refine G_cVi (As := []) (rest := [.int x6]) (ok_X10_actsOf M) rfl (y2_0) rfl mv_X10_482 dX10_blindAct_82 rfl rfl (Nat.le_of_ble_eq_true rfl) (g_fitN (by decide) (by decide)) (fun r13 M12 => ?_)
      refine G_idiv dX10_blindAct_85 ?_
      refine G_vi (fun y14 => ?_)
      refine G_istore (lv' := [(6, .int y14), (0, .ref (ad X 0)), (3, .int x3), (7, .int x7)]) dX10_blindAct_86 (by decide) rfl ?_
      refine G_iinc (v := x7 + (-1)) (lv' := [(7, .int (x7 + (-1))), (6, .int y14), (0, .ref (ad X 0)), (3, .int x3)]) 3 dX10_blindAct_88 rfl rfl (by decide) rfl ?_
      refine G_goto (tgt := 73) dX10_blindAct_91 (by decide) ?_
      exact G_sub [2, 3, 1, 0] rfl (ih x3 y14 (x7 + (-1)) M12)
def f_X10_blindAct_43 : Nat → Int32 → Int32 → Int32 → Int32 → Int32 → gM → Option (Int32 × gM)
  | 0, _, _, _, _, _, _ => none
  | n + 1, x1, x2, x3, x4, x5, M => (if x4 ≤ x5 then (some (((-1) : Int32), M)) else (g_b (f_X10_isBlindly x1 x2 x5 M) (fun r8 M7 => (if r8 then (g_v (x2 - (1 : Int32)) (fun y9 => (f_X10_blindAct_73 FU x3 x5 y9 M7))) else (f_X10_blindAct_43 n x1 x2 x3 x4 (x5 + 1) M7)))))
set_option maxRecDepth 100000 in
set_option maxHeartbeats 4000000 in
theorem o_X10_blindAct_43 {X : gX} : ∀ (n : Nat) (x1 : Int32) (x2 : Int32) (x3 : Int32) (x4 : Int32) (x5 : Int32) (M : gM), G Y2 jX10_blindAct X (g_fin g_ei) 43 [(0, .ref (ad X 0)), (1, .int x1), (2, .int x2), (3, .int x3), (4, .int x4), (5, .int x5)] [] M (f_X10_blindAct_43 n x1 x2 x3 x4 x5 M) := by
  intro n
  induction n with
  | zero => intro x1 x2 x3 x4 x5 M; exact G_none
  | succ n ih =>
    intro x1 x2 x3 x4 x5 M
    rw [f_X10_blindAct_43]
    refine G_iload 5 dX10_blindAct_43 rfl ?_
    refine G_iload 4 dX10_blindAct_45 rfl ?_
    refine G_icmp_ge (tgt := 108) dX10_blindAct_47 (by decide) ?_ ?_
    · refine G_iconst (v := (-1)) dX10_blindAct_108 (by decide) ?_
      exact G_iret rfl dX10_blindAct_109
    · refine G_aload_n 0 dX10_blindAct_50 rfl rfl ?_
      refine G_iload_n 1 dX10_blindAct_51 rfl rfl ?_
      refine G_iload_n 2 dX10_blindAct_52 rfl rfl ?_
      refine G_iload 5 dX10_blindAct_53 rfl ?_
      refine G_cVb (As := [.int x1, .int x2, .int x5]) (rest := []) (ok_X10_isBlindly x1 x2 x5 M) rfl (y2_0) rfl mv_X10_549 dX10_blindAct_55 rfl rfl (Nat.le_of_ble_eq_true rfl) (g_fitN (by decide) (by decide)) (fun r8 M7 => ?_)
      refine G_ifB_ne (tgt := 64) dX10_blindAct_58 (by decide) ?_ ?_
      · refine G_iload 5 dX10_blindAct_64 rfl ?_
        refine G_istore (lv' := [(6, .int x5), (0, .ref (ad X 0)), (1, .int x1), (2, .int x2), (3, .int x3), (4, .int x4), (5, .int x5)]) dX10_blindAct_66 (by decide) rfl ?_
        refine G_iload_n 3 dX10_blindAct_68 rfl rfl ?_
        refine G_iconst (v := 1) dX10_blindAct_69 (by decide) ?_
        refine G_isub dX10_blindAct_70 ?_
        refine G_vi (fun y9 => ?_)
        refine G_istore (lv' := [(7, .int y9), (6, .int x5), (0, .ref (ad X 0)), (1, .int x1), (2, .int x2), (3, .int x3), (4, .int x4), (5, .int x5)]) dX10_blindAct_71 (by decide) rfl ?_
        exact G_sub [2, 5, 1, 0] rfl (o_X10_blindAct_73 FU x3 x5 y9 M7)
      · refine G_goto (tgt := 102) dX10_blindAct_61 (by decide) ?_
        refine G_iinc (v := x5 + 1) (lv' := [(5, .int (x5 + 1)), (0, .ref (ad X 0)), (1, .int x1), (2, .int x2), (3, .int x3), (4, .int x4)]) 5 dX10_blindAct_102 rfl rfl (by decide) rfl ?_
        refine G_goto (tgt := 43) dX10_blindAct_105 (by decide) ?_
        exact G_sub [1, 2, 3, 4, 5, 0] rfl (ih x1 x2 x3 x4 (x5 + 1) M7)
def f_X10_blindAct (a1 : Int32) (a2 : Int32) (a3 : Int32) (M : gM) : Option (Int32 × gM) := (g_b (f_X10_isState a1 M) (fun r2 M1 => (if r2 then (if a2 < (1 : Int32) then (some (((-1) : Int32), M1)) else (if (4 : Int32) < a2 then (some (((-1) : Int32), M1)) else (if a3 < 0 then (some (((-1) : Int32), M1)) else (if a3 < a2 then (g_b (f_X10_lay M1) (fun r4 M3 => (g_b (f_X10_rowsOf a2 M3) (fun r6 M5 => (f_X10_blindAct_43 FU a1 a2 a3 r6 (0 : Int32) M5))))) else (some (((-1) : Int32), M1)))))) else (some (((-1) : Int32), M1)))))
set_option maxRecDepth 100000 in
set_option maxHeartbeats 4000000 in
theorem ok_X10_blindAct (a1 : Int32) (a2 : Int32) (a3 : Int32) (M : gM) : g_met Y2 yX10_blindAct jX10_blindAct g_ei (fun Z => [.ref (Z.2.1 0), .int a1, .int a2, .int a3]) M (f_X10_blindAct a1 a2 a3 M) := by
  refine g_enter (fun Z => [(0, .ref (Z.2.1 0)), (1, .int a1), (2, .int a2), (3, .int a3)]) (by decide) rfl (fun Z => Nat.le_of_ble_eq_true rfl) (fun Z => rfl) (fun X => ?_)
  rw [f_X10_blindAct]
  refine G_aload_n 0 dX10_blindAct_0 rfl rfl ?_
  refine G_iload_n 1 dX10_blindAct_1 rfl rfl ?_
  refine G_cVb (As := [.int a1]) (rest := []) (ok_X10_isState a1 M) rfl (y2_0) rfl mv_X10_476 dX10_blindAct_2 rfl rfl (Nat.le_of_ble_eq_true rfl) (g_fitN (by decide) (by decide)) (fun r2 M1 => ?_)
  refine G_ifB_eq (tgt := 27) dX10_blindAct_5 (by decide) ?_ ?_
  · refine G_iconst (v := (-1)) dX10_blindAct_27 (by decide) ?_
    exact G_iret rfl dX10_blindAct_28
  · refine G_iload_n 2 dX10_blindAct_8 rfl rfl ?_
    refine G_iconst (v := 1) dX10_blindAct_9 (by decide) ?_
    refine G_icmp_lt (tgt := 27) dX10_blindAct_10 (by decide) ?_ ?_
    · refine G_iconst (v := (-1)) dX10_blindAct_27 (by decide) ?_
      exact G_iret rfl dX10_blindAct_28
    · refine G_iload_n 2 dX10_blindAct_13 rfl rfl ?_
      refine G_iconst (v := 4) dX10_blindAct_14 (by decide) ?_
      refine G_icmp_gt (tgt := 27) dX10_blindAct_15 (by decide) ?_ ?_
      · refine G_iconst (v := (-1)) dX10_blindAct_27 (by decide) ?_
        exact G_iret rfl dX10_blindAct_28
      · refine G_iload_n 3 dX10_blindAct_18 rfl rfl ?_
        refine G_if_lt (tgt := 27) dX10_blindAct_19 (by decide) ?_ ?_
        · refine G_iconst (v := (-1)) dX10_blindAct_27 (by decide) ?_
          exact G_iret rfl dX10_blindAct_28
        · refine G_iload_n 3 dX10_blindAct_22 rfl rfl ?_
          refine G_iload_n 2 dX10_blindAct_23 rfl rfl ?_
          refine G_icmp_lt (tgt := 29) dX10_blindAct_24 (by decide) ?_ ?_
          · refine G_aload_n 0 dX10_blindAct_29 rfl rfl ?_
            refine G_cVv (As := []) (rest := []) (ok_X10_lay M1) rfl (y2_0) rfl mv_X10_516 dX10_blindAct_30 rfl rfl (Nat.le_of_ble_eq_true rfl) (g_fitN (by decide) (by decide)) (fun r4 M3 => ?_)
            refine G_aload_n 0 dX10_blindAct_33 rfl rfl ?_
            refine G_iload_n 2 dX10_blindAct_34 rfl rfl ?_
            refine G_cVi (As := [.int a2]) (rest := []) (ok_X10_rowsOf a2 M3) rfl (y2_0) rfl mv_X10_546 dX10_blindAct_35 rfl rfl (Nat.le_of_ble_eq_true rfl) (g_fitN (by decide) (by decide)) (fun r6 M5 => ?_)
            refine G_istore (lv' := [(4, .int r6), (0, .ref (ad X 0)), (1, .int a1), (2, .int a2), (3, .int a3)]) dX10_blindAct_38 (by decide) rfl ?_
            refine G_iconst (v := 0) dX10_blindAct_40 (by decide) ?_
            refine G_istore (lv' := [(5, .int 0), (4, .int r6), (0, .ref (ad X 0)), (1, .int a1), (2, .int a2), (3, .int a3)]) dX10_blindAct_41 (by decide) rfl ?_
            exact G_sub [2, 3, 4, 5, 1, 0] rfl (o_X10_blindAct_43 FU a1 a2 a3 r6 (0 : Int32) M5)
          · refine G_iconst (v := (-1)) dX10_blindAct_27 (by decide) ?_
            exact G_iret rfl dX10_blindAct_28
-- X10_learnedAt
def f_X10_learnedAt_2 : Nat → Int32 → Int32 → gM → Option (Int32 × gM)
  | 0, _, _, _ => none
  | n + 1, x1, x2, M => (if (M.1 0 50) ≤ x2 then (some (((-1) : Int32), M)) else (g_ck x2 40 (if (M.1 39 (tn x2)) = x1 then (some (x2, M)) else (f_X10_learnedAt_2 n x1 (x2 + 1) M))))
set_option maxRecDepth 100000 in
set_option maxHeartbeats 4000000 in
theorem o_X10_learnedAt_2 {X : gX} : ∀ (n : Nat) (x1 : Int32) (x2 : Int32) (M : gM), G Y2 jX10_learnedAt X (g_fin g_ei) 2 [(0, .ref (ad X 0)), (1, .int x1), (2, .int x2)] [] M (f_X10_learnedAt_2 n x1 x2 M) := by
  intro n
  induction n with
  | zero => intro x1 x2 M; exact G_none
  | succ n ih =>
    intro x1 x2 M
    rw [f_X10_learnedAt_2]
    refine G_iload_n 2 dX10_learnedAt_2 rfl rfl ?_
    refine G_aload_n 0 dX10_learnedAt_3 rfl rfl ?_
    refine G_get 50 clX10 (y2_0) fl_X10_400 dX10_learnedAt_4 (by decide) rfl rfl ?_
    refine G_icmp_ge (tgt := 28) dX10_learnedAt_7 (by decide) ?_ ?_
    · refine G_iconst (v := (-1)) dX10_learnedAt_28 (by decide) ?_
      exact G_iret rfl dX10_learnedAt_29
    · refine G_aload_n 0 dX10_learnedAt_10 rfl rfl ?_
      refine G_get 51 clX10 (y2_0) fl_X10_133 dX10_learnedAt_11 (by decide) rfl rfl ?_
      refine G_iload_n 2 dX10_learnedAt_14 rfl rfl ?_
      refine G_iald (y2_39) dX10_learnedAt_15 ?_
      refine G_iload_n 1 dX10_learnedAt_16 rfl rfl ?_
      refine G_icmp_ne (tgt := 22) dX10_learnedAt_17 (by decide) ?_ ?_
      · refine G_iinc (v := x2 + 1) (lv' := [(2, .int (x2 + 1)), (0, .ref (ad X 0)), (1, .int x1)]) 2 dX10_learnedAt_22 rfl rfl (by decide) rfl ?_
        refine G_goto (tgt := 2) dX10_learnedAt_25 (by decide) ?_
        exact G_sub [1, 2, 0] rfl (ih x1 (x2 + 1) M)
      · refine G_iload_n 2 dX10_learnedAt_20 rfl rfl ?_
        exact G_iret rfl dX10_learnedAt_21
def f_X10_learnedAt (a1 : Int32) (M : gM) : Option (Int32 × gM) := (f_X10_learnedAt_2 FU a1 (0 : Int32) M)
set_option maxRecDepth 100000 in
set_option maxHeartbeats 4000000 in
theorem ok_X10_learnedAt (a1 : Int32) (M : gM) : g_met Y2 yX10_learnedAt jX10_learnedAt g_ei (fun Z => [.ref (Z.2.1 0), .int a1]) M (f_X10_learnedAt a1 M) := by
  refine g_enter (fun Z => [(0, .ref (Z.2.1 0)), (1, .int a1)]) (by decide) rfl (fun Z => Nat.le_of_ble_eq_true rfl) (fun Z => rfl) (fun X => ?_)
  rw [f_X10_learnedAt]
  refine G_iconst (v := 0) dX10_learnedAt_0 (by decide) ?_
  refine G_istore_n (lv' := [(2, .int 0), (0, .ref (ad X 0)), (1, .int a1)]) dX10_learnedAt_1 rfl (by decide) rfl ?_
  exact G_sub [1, 2, 0] rfl (o_X10_learnedAt_2 FU a1 (0 : Int32) M)
-- X10_reflexAt
def f_X10_reflexAt_117 : Nat → Int32 → Int32 → gM → Option (Int32 × gM)
  | 0, _, _, _ => none
  | n + 1, x1, x3, M => (g_b (f_X10_actsOf M) (fun r9 M8 => (if r9 ≤ x3 then (some (((-2) : Int32), M8)) else (g_ck (((6 : Int32) * x1) + x3) 12474 (if (M8.1 49 (tn (((6 : Int32) * x1) + x3))) = 0 then (f_X10_reflexAt_117 n x1 (x3 + 1) M8) else (some (x3, M8)))))))
set_option maxRecDepth 100000 in
set_option maxHeartbeats 4000000 in
theorem o_X10_reflexAt_117 {X : gX} : ∀ (n : Nat) (x1 : Int32) (x3 : Int32) (M : gM), G Y2 jX10_reflexAt X (g_fin g_ei) 117 [(0, .ref (ad X 0)), (1, .int x1), (3, .int x3)] [] M (f_X10_reflexAt_117 n x1 x3 M) := by
  intro n
  induction n with
  | zero => intro x1 x3 M; exact G_none
  | succ n ih =>
    intro x1 x3 M
    rw [f_X10_reflexAt_117]
    refine G_iload_n 2 dX10_reflexAt_117 rfl rfl ?_
    refine G_aload_n 0 dX10_reflexAt_118 rfl rfl ?_
    refine G_cVi (As := []) (rest := [.int x3]) (ok_X10_actsOf M) rfl (y2_0) rfl mv_X10_482 dX10_reflexAt_119 rfl rfl (Nat.le_of_ble_eq_true rfl) (g_fitN (by decide) (by decide)) (fun r9 M8 => ?_)
    refine G_icmp_ge (tgt := 147) dX10_reflexAt_122 (by decide) ?_ ?_
    · refine G_bipush (v := (-2)) dX10_reflexAt_147 (by decide) ?_
      exact G_iret rfl dX10_reflexAt_149
    · refine G_aload_n 0 dX10_reflexAt_125 rfl rfl ?_
      refine G_get 79 clX10 (y2_0) fl_X10_163 dX10_reflexAt_126 (by decide) rfl rfl ?_
      refine G_bipush (v := 6) dX10_reflexAt_129 (by decide) ?_
      refine G_iload_n 1 dX10_reflexAt_131 rfl rfl ?_
      refine G_imul dX10_reflexAt_132 ?_
      refine G_iload_n 2 dX10_reflexAt_133 rfl rfl ?_
      refine G_iadd dX10_reflexAt_134 ?_
      refine G_zald (y2_49) dX10_reflexAt_135 ?_
      refine G_if_eq (tgt := 141) dX10_reflexAt_136 (by decide) ?_ ?_
      · refine G_iinc (v := x3 + 1) (lv' := [(3, .int (x3 + 1)), (0, .ref (ad X 0)), (1, .int x1)]) 2 dX10_reflexAt_141 rfl rfl (by decide) rfl ?_
        refine G_goto (tgt := 117) dX10_reflexAt_144 (by decide) ?_
        exact G_sub [1, 2, 0] rfl (ih x1 (x3 + 1) M8)
      · refine G_iload_n 2 dX10_reflexAt_139 rfl rfl ?_
        exact G_iret rfl dX10_reflexAt_140
def f_X10_reflexAt_43 : Nat → Int32 → Int32 → gM → Option (Int32 × gM)
  | 0, _, _, _ => none
  | n + 1, x1, x3, M => (g_ck (M.1 0 13) 2 (if (((12 : Int32) * (M.1 0 13)) + (M.1 24 (tn (M.1 0 13)))) ≤ x3 then (f_X10_reflexAt_117 FU x1 (0 : Int32) M) else (g_ck x3 24 (g_ck (((6 : Int32) * x1) + (M.1 25 (tn x3))) 12474 (if (M.1 49 (tn (((6 : Int32) * x1) + (M.1 25 (tn x3))))) = 0 then (f_X10_reflexAt_43 n x1 (x3 + 1) M) else (g_ck x3 24 (g_ck x3 24 (g_b (f_X10_isHeld (M.1 26 (tn x3)) (M.1 27 (tn x3)) M) (fun r11 M10 => (if r11 then (g_ck x3 24 (some ((M10.1 25 (tn x3)), M10))) else (f_X10_reflexAt_43 n x1 (x3 + 1) M10)))))))))))
set_option maxRecDepth 100000 in
set_option maxHeartbeats 4000000 in
theorem o_X10_reflexAt_43 {X : gX} : ∀ (n : Nat) (x1 : Int32) (x3 : Int32) (M : gM), G Y2 jX10_reflexAt X (g_fin g_ei) 43 [(0, .ref (ad X 0)), (1, .int x1), (3, .int x3)] [] M (f_X10_reflexAt_43 n x1 x3 M) := by
  intro n
  induction n with
  | zero => intro x1 x3 M; exact G_none
  | succ n ih =>
    intro x1 x3 M
    rw [f_X10_reflexAt_43]
    refine G_iload_n 2 dX10_reflexAt_43 rfl rfl ?_
    refine G_bipush (v := 12) dX10_reflexAt_44 (by decide) ?_
    refine G_aload_n 0 dX10_reflexAt_46 rfl rfl ?_
    refine G_get 13 clX10 (y2_0) fl_X10_388 dX10_reflexAt_47 (by decide) rfl rfl ?_
    refine G_imul dX10_reflexAt_50 ?_
    refine G_aload_n 0 dX10_reflexAt_51 rfl rfl ?_
    refine G_get 33 clX10 (y2_0) fl_X10_84 dX10_reflexAt_52 (by decide) rfl rfl ?_
    refine G_aload_n 0 dX10_reflexAt_55 rfl rfl ?_
    refine G_get 13 clX10 (y2_0) fl_X10_388 dX10_reflexAt_56 (by decide) rfl rfl ?_
    refine G_iald (y2_24) dX10_reflexAt_59 ?_
    refine G_iadd dX10_reflexAt_60 ?_
    refine G_icmp_ge (tgt := 115) dX10_reflexAt_61 (by decide) ?_ ?_
    · refine G_iconst (v := 0) dX10_reflexAt_115 (by decide) ?_
      refine G_istore_n (lv' := [(3, .int 0), (0, .ref (ad X 0)), (1, .int x1)]) dX10_reflexAt_116 rfl (by decide) rfl ?_
      exact G_sub [1, 2, 0] rfl (o_X10_reflexAt_117 FU x1 (0 : Int32) M)
    · refine G_aload_n 0 dX10_reflexAt_64 rfl rfl ?_
      refine G_get 79 clX10 (y2_0) fl_X10_163 dX10_reflexAt_65 (by decide) rfl rfl ?_
      refine G_bipush (v := 6) dX10_reflexAt_68 (by decide) ?_
      refine G_iload_n 1 dX10_reflexAt_70 rfl rfl ?_
      refine G_imul dX10_reflexAt_71 ?_
      refine G_aload_n 0 dX10_reflexAt_72 rfl rfl ?_
      refine G_get 34 clX10 (y2_0) fl_X10_87 dX10_reflexAt_73 (by decide) rfl rfl ?_
      refine G_iload_n 2 dX10_reflexAt_76 rfl rfl ?_
      refine G_iald (y2_25) dX10_reflexAt_77 ?_
      refine G_iadd dX10_reflexAt_78 ?_
      refine G_zald (y2_49) dX10_reflexAt_79 ?_
      refine G_if_eq (tgt := 109) dX10_reflexAt_80 (by decide) ?_ ?_
      · refine G_iinc (v := x3 + 1) (lv' := [(3, .int (x3 + 1)), (0, .ref (ad X 0)), (1, .int x1)]) 2 dX10_reflexAt_109 rfl rfl (by decide) rfl ?_
        refine G_goto (tgt := 43) dX10_reflexAt_112 (by decide) ?_
        exact G_sub [1, 2, 0] rfl (ih x1 (x3 + 1) M)
      · refine G_aload_n 0 dX10_reflexAt_83 rfl rfl ?_
        refine G_aload_n 0 dX10_reflexAt_84 rfl rfl ?_
        refine G_get 35 clX10 (y2_0) fl_X10_90 dX10_reflexAt_85 (by decide) rfl rfl ?_
        refine G_iload_n 2 dX10_reflexAt_88 rfl rfl ?_
        refine G_iald (y2_26) dX10_reflexAt_89 ?_
        refine G_aload_n 0 dX10_reflexAt_90 rfl rfl ?_
        refine G_get 36 clX10 (y2_0) fl_X10_93 dX10_reflexAt_91 (by decide) rfl rfl ?_
        refine G_iload_n 2 dX10_reflexAt_94 rfl rfl ?_
        refine G_iald (y2_27) dX10_reflexAt_95 ?_
        refine G_cVb (As := [.int (M.1 26 (tn x3)), .int (M.1 27 (tn x3))]) (rest := []) (ok_X10_isHeld (M.1 26 (tn x3)) (M.1 27 (tn x3)) M) rfl (y2_0) rfl mv_X10_469 dX10_reflexAt_96 rfl rfl (Nat.le_of_ble_eq_true rfl) (g_fitN (by decide) (by decide)) (fun r11 M10 => ?_)
        refine G_ifB_eq (tgt := 109) dX10_reflexAt_99 (by decide) ?_ ?_
        · refine G_iinc (v := x3 + 1) (lv' := [(3, .int (x3 + 1)), (0, .ref (ad X 0)), (1, .int x1)]) 2 dX10_reflexAt_109 rfl rfl (by decide) rfl ?_
          refine G_goto (tgt := 43) dX10_reflexAt_112 (by decide) ?_
          exact G_sub [1, 2, 0] rfl (ih x1 (x3 + 1) M10)
        · refine G_aload_n 0 dX10_reflexAt_102 rfl rfl ?_
          refine G_get 34 clX10 (y2_0) fl_X10_87 dX10_reflexAt_103 (by decide) rfl rfl ?_
          refine G_iload_n 2 dX10_reflexAt_106 rfl rfl ?_
          refine G_iald (y2_25) dX10_reflexAt_107 ?_
          exact G_iret rfl dX10_reflexAt_108
def f_X10_reflexAt (a1 : Int32) (M : gM) : Option (Int32 × gM) := (g_b (f_X10_isOver a1 M) (fun r2 M1 => (if r2 then (some (((-2) : Int32), M1)) else (g_b (f_X10_learnedAt a1 M1) (fun r4 M3 => (if r4 < 0 then (g_b (f_X10_look a1 (0 : Int32) (0 : Int32) M3) (fun r6 M5 => (g_v ((12 : Int32) * (M5.1 0 13)) (fun y7 => (f_X10_reflexAt_43 FU a1 y7 M5))))) else (g_ck r4 40 (some ((M3.1 40 (tn r4)), M3)))))))))
set_option maxRecDepth 100000 in
set_option maxHeartbeats 4000000 in
theorem ok_X10_reflexAt (a1 : Int32) (M : gM) : g_met Y2 yX10_reflexAt jX10_reflexAt g_ei (fun Z => [.ref (Z.2.1 0), .int a1]) M (f_X10_reflexAt a1 M) := by
  refine g_enter (fun Z => [(0, .ref (Z.2.1 0)), (1, .int a1)]) (by decide) rfl (fun Z => Nat.le_of_ble_eq_true rfl) (fun Z => rfl) (fun X => ?_)
  rw [f_X10_reflexAt]
  refine G_aload_n 0 dX10_reflexAt_0 rfl rfl ?_
  refine G_iload_n 1 dX10_reflexAt_1 rfl rfl ?_
  refine G_cVb (As := [.int a1]) (rest := []) (ok_X10_isOver a1 M) rfl (y2_0) rfl mv_X10_460 dX10_reflexAt_2 rfl rfl (Nat.le_of_ble_eq_true rfl) (g_fitN (by decide) (by decide)) (fun r2 M1 => ?_)
  refine G_ifB_eq (tgt := 11) dX10_reflexAt_5 (by decide) ?_ ?_
  · refine G_aload_n 0 dX10_reflexAt_11 rfl rfl ?_
    refine G_iload_n 1 dX10_reflexAt_12 rfl rfl ?_
    refine G_cVi (As := [.int a1]) (rest := []) (ok_X10_learnedAt a1 M1) rfl (y2_0) rfl mv_X10_552 dX10_reflexAt_13 rfl rfl (Nat.le_of_ble_eq_true rfl) (g_fitN (by decide) (by decide)) (fun r4 M3 => ?_)
    refine G_istore_n (lv' := [(2, .int r4), (0, .ref (ad X 0)), (1, .int a1)]) dX10_reflexAt_16 rfl (by decide) rfl ?_
    refine G_iload_n 0 dX10_reflexAt_17 rfl rfl ?_
    refine G_if_lt (tgt := 28) dX10_reflexAt_18 (by decide) ?_ ?_
    · refine G_aload_n 1 dX10_reflexAt_28 rfl rfl ?_
      refine G_iload_n 2 dX10_reflexAt_29 rfl rfl ?_
      refine G_iconst (v := 0) dX10_reflexAt_30 (by decide) ?_
      refine G_iconst (v := 0) dX10_reflexAt_31 (by decide) ?_
      refine G_cVv (As := [.int a1, .int 0, .int 0]) (rest := []) (ok_X10_look a1 (0 : Int32) (0 : Int32) M3) rfl (y2_0) rfl mv_X10_466 dX10_reflexAt_32 rfl rfl (Nat.le_of_ble_eq_true rfl) (g_fitN (by decide) (by decide)) (fun r6 M5 => ?_)
      refine G_bipush (v := 12) dX10_reflexAt_35 (by decide) ?_
      refine G_aload_n 1 dX10_reflexAt_37 rfl rfl ?_
      refine G_get 13 clX10 (y2_0) fl_X10_388 dX10_reflexAt_38 (by decide) rfl rfl ?_
      refine G_imul dX10_reflexAt_41 ?_
      refine G_vi (fun y7 => ?_)
      refine G_istore_n (lv' := [(3, .int y7), (2, .int r4), (0, .ref (ad X 0)), (1, .int a1)]) dX10_reflexAt_42 rfl (by decide) rfl ?_
      exact G_sub [2, 3, 0] rfl (o_X10_reflexAt_43 FU a1 y7 M5)
    · refine G_aload_n 1 dX10_reflexAt_21 rfl rfl ?_
      refine G_get 52 clX10 (y2_0) fl_X10_136 dX10_reflexAt_22 (by decide) rfl rfl ?_
      refine G_iload_n 0 dX10_reflexAt_25 rfl rfl ?_
      refine G_iald (y2_40) dX10_reflexAt_26 ?_
      exact G_iret rfl dX10_reflexAt_27
  · refine G_bipush (v := (-2)) dX10_reflexAt_8 (by decide) ?_
    exact G_iret rfl dX10_reflexAt_10
-- X10_driven
def f_X10_driven (a1 : Int32) (a2 : Int32) (M : gM) : Option (Int32 × gM) := (g_ck a1 2079 (if 0 ≤ (M.1 56 (tn a1)) then (g_ck a1 2079 (g_b (f_X10_leads a1 (M.1 56 (tn a1)) a2 M) (fun r2 M1 => (some (r2, M1))))) else (some (((-2) : Int32), M))))
set_option maxRecDepth 100000 in
set_option maxHeartbeats 4000000 in
theorem ok_X10_driven (a1 : Int32) (a2 : Int32) (M : gM) : g_met Y2 yX10_driven jX10_driven g_ei (fun Z => [.ref (Z.2.1 0), .int a1, .int a2]) M (f_X10_driven a1 a2 M) := by
  refine g_enter (fun Z => [(0, .ref (Z.2.1 0)), (1, .int a1), (2, .int a2)]) (by decide) rfl (fun Z => Nat.le_of_ble_eq_true rfl) (fun Z => rfl) (fun X => ?_)
  rw [f_X10_driven]
  refine G_aload_n 0 dX10_driven_0 rfl rfl ?_
  refine G_get 86 clX10 (y2_0) fl_X10_185 dX10_driven_1 (by decide) rfl rfl ?_
  refine G_iload_n 1 dX10_driven_4 rfl rfl ?_
  refine G_iald (y2_56) dX10_driven_5 ?_
  refine G_if_ge (tgt := 14) dX10_driven_6 (by decide) ?_ ?_
  · refine G_aload_n 0 dX10_driven_14 rfl rfl ?_
    refine G_iload_n 1 dX10_driven_15 rfl rfl ?_
    refine G_aload_n 0 dX10_driven_16 rfl rfl ?_
    refine G_get 86 clX10 (y2_0) fl_X10_185 dX10_driven_17 (by decide) rfl rfl ?_
    refine G_iload_n 1 dX10_driven_20 rfl rfl ?_
    refine G_iald (y2_56) dX10_driven_21 ?_
    refine G_iload_n 2 dX10_driven_22 rfl rfl ?_
    refine G_cVi (As := [.int a1, .int (M.1 56 (tn a1)), .int a2]) (rest := []) (ok_X10_leads a1 (M.1 56 (tn a1)) a2 M) rfl (y2_0) rfl mv_X10_507 dX10_driven_23 rfl rfl (Nat.le_of_ble_eq_true rfl) (g_fitN (by decide) (by decide)) (fun r2 M1 => ?_)
    exact G_iret rfl dX10_driven_26
  · refine G_bipush (v := (-2)) dX10_driven_9 (by decide) ?_
    refine G_goto (tgt := 26) dX10_driven_11 (by decide) ?_
    exact G_iret rfl dX10_driven_26
-- X10_comes
def f_X10_comes_7 : Nat → Int32 → Int32 → Int32 → gM → Option (Bool × gM)
  | 0, _, _, _, _ => none
  | n + 1, x1, x2, x3, M => (g_ck x1 2079 (if (M.1 48 (tn x1)) < x3 then (some (true, M)) else (g_b (f_X10_driven x1 x3 M) (fun r3 M2 => (if r3 = ((-2) : Int32) then (some (false, M2)) else (g_ck r3 2079 (if (M2.1 58 (tn r3)) < 0 then (some (false, M2)) else (g_ck r3 2079 (if (M2.1 58 (tn r3)) < x2 then (f_X10_comes_7 n x1 x2 (x3 + 1) M2) else (some (false, M2)))))))))))
set_option maxRecDepth 100000 in
set_option maxHeartbeats 4000000 in
theorem o_X10_comes_7 {X : gX} : ∀ (n : Nat) (x1 : Int32) (x2 : Int32) (x3 : Int32) (M : gM), G Y2 jX10_comes X (g_fin g_eb) 7 [(0, .ref (ad X 0)), (1, .int x1), (2, .int x2), (3, .int x3)] [] M (f_X10_comes_7 n x1 x2 x3 M) := by
  intro n
  induction n with
  | zero => intro x1 x2 x3 M; exact G_none
  | succ n ih =>
    intro x1 x2 x3 M
    rw [f_X10_comes_7]
    refine G_iload_n 3 dX10_comes_7 rfl rfl ?_
    refine G_aload_n 0 dX10_comes_8 rfl rfl ?_
    refine G_get 78 clX10 (y2_0) fl_X10_160 dX10_comes_9 (by decide) rfl rfl ?_
    refine G_iload_n 1 dX10_comes_12 rfl rfl ?_
    refine G_iald (y2_48) dX10_comes_13 ?_
    refine G_icmp_gt (tgt := 61) dX10_comes_14 (by decide) ?_ ?_
    · refine G_iconst (v := 1) dX10_comes_61 (by decide) ?_
      exact G_zret (b := true) rfl dX10_comes_62
    · refine G_aload_n 0 dX10_comes_17 rfl rfl ?_
      refine G_iload_n 1 dX10_comes_18 rfl rfl ?_
      refine G_iload_n 3 dX10_comes_19 rfl rfl ?_
      refine G_cVi (As := [.int x1, .int x3]) (rest := []) (ok_X10_driven x1 x3 M) rfl (y2_0) rfl mv_X10_564 dX10_comes_20 rfl rfl (Nat.le_of_ble_eq_true rfl) (g_fitN (by decide) (by decide)) (fun r3 M2 => ?_)
      refine G_istore (lv' := [(4, .int r3), (0, .ref (ad X 0)), (1, .int x1), (2, .int x2), (3, .int x3)]) dX10_comes_23 (by decide) rfl ?_
      refine G_iload 0 dX10_comes_25 rfl ?_
      refine G_bipush (v := (-2)) dX10_comes_27 (by decide) ?_
      refine G_icmp_eq (tgt := 53) dX10_comes_29 (by decide) ?_ ?_
      · refine G_iconst (v := 0) dX10_comes_53 (by decide) ?_
        exact G_zret (b := false) rfl dX10_comes_54
      · refine G_aload_n 1 dX10_comes_32 rfl rfl ?_
        refine G_get 88 clX10 (y2_0) fl_X10_191 dX10_comes_33 (by decide) rfl rfl ?_
        refine G_iload 0 dX10_comes_36 rfl ?_
        refine G_iald (y2_58) dX10_comes_38 ?_
        refine G_if_lt (tgt := 53) dX10_comes_39 (by decide) ?_ ?_
        · refine G_iconst (v := 0) dX10_comes_53 (by decide) ?_
          exact G_zret (b := false) rfl dX10_comes_54
        · refine G_aload_n 1 dX10_comes_42 rfl rfl ?_
          refine G_get 88 clX10 (y2_0) fl_X10_191 dX10_comes_43 (by decide) rfl rfl ?_
          refine G_iload 0 dX10_comes_46 rfl ?_
          refine G_iald (y2_58) dX10_comes_48 ?_
          refine G_iload_n 3 dX10_comes_49 rfl rfl ?_
          refine G_icmp_lt (tgt := 55) dX10_comes_50 (by decide) ?_ ?_
          · refine G_iinc (v := x3 + 1) (lv' := [(3, .int (x3 + 1)), (4, .int r3), (0, .ref (ad X 0)), (1, .int x1), (2, .int x2)]) 4 dX10_comes_55 rfl rfl (by decide) rfl ?_
            refine G_goto (tgt := 7) dX10_comes_58 (by decide) ?_
            exact G_sub [2, 3, 4, 0] rfl (ih x1 x2 (x3 + 1) M2)
          · refine G_iconst (v := 0) dX10_comes_53 (by decide) ?_
            exact G_zret (b := false) rfl dX10_comes_54
def f_X10_comes (a1 : Int32) (a2 : Int32) (M : gM) : Option (Bool × gM) := (g_ck a1 2079 (g_v (M.1 47 (tn a1)) (fun y1 => (f_X10_comes_7 FU a1 a2 y1 M))))
set_option maxRecDepth 100000 in
set_option maxHeartbeats 4000000 in
theorem ok_X10_comes (a1 : Int32) (a2 : Int32) (M : gM) : g_met Y2 yX10_comes jX10_comes g_eb (fun Z => [.ref (Z.2.1 0), .int a1, .int a2]) M (f_X10_comes a1 a2 M) := by
  refine g_enter (fun Z => [(0, .ref (Z.2.1 0)), (1, .int a1), (2, .int a2)]) (by decide) rfl (fun Z => Nat.le_of_ble_eq_true rfl) (fun Z => rfl) (fun X => ?_)
  rw [f_X10_comes]
  refine G_aload_n 0 dX10_comes_0 rfl rfl ?_
  refine G_get 77 clX10 (y2_0) fl_X10_157 dX10_comes_1 (by decide) rfl rfl ?_
  refine G_iload_n 1 dX10_comes_4 rfl rfl ?_
  refine G_iald (y2_47) dX10_comes_5 ?_
  refine G_vi (fun y1 => ?_)
  refine G_istore_n (lv' := [(3, .int y1), (0, .ref (ad X 0)), (1, .int a1), (2, .int a2)]) dX10_comes_6 rfl (by decide) rfl ?_
  exact G_sub [1, 2, 3, 0] rfl (o_X10_comes_7 FU a1 a2 y1 M)
-- X10_mayFall
def f_X10_mayFall_7 : Nat → Int32 → Int32 → Int32 → gM → Option (Bool × gM)
  | 0, _, _, _, _ => none
  | n + 1, x1, x2, x3, M => (g_ck x1 2079 (if (M.1 48 (tn x1)) < x3 then (some (false, M)) else (g_b (f_X10_driven x1 x3 M) (fun r3 M2 => (if x2 = (1 : Int32) then (if r3 = ((-2) : Int32) then (some (true, M2)) else (f_X10_mayFall_7 n x1 x2 (x3 + 1) M2)) else (if r3 = ((-2) : Int32) then (f_X10_mayFall_7 n x1 x2 (x3 + 1) M2) else (g_ck r3 2079 (if (M2.1 57 (tn r3)) = (x2 - (1 : Int32)) then (some (true, M2)) else (f_X10_mayFall_7 n x1 x2 (x3 + 1) M2)))))))))
set_option maxRecDepth 100000 in
set_option maxHeartbeats 4000000 in
theorem o_X10_mayFall_7 {X : gX} : ∀ (n : Nat) (x1 : Int32) (x2 : Int32) (x3 : Int32) (M : gM), G Y2 jX10_mayFall X (g_fin g_eb) 7 [(0, .ref (ad X 0)), (1, .int x1), (2, .int x2), (3, .int x3)] [] M (f_X10_mayFall_7 n x1 x2 x3 M) := by
  intro n
  induction n with
  | zero => intro x1 x2 x3 M; exact G_none
  | succ n ih =>
    intro x1 x2 x3 M
    rw [f_X10_mayFall_7]
    refine G_iload_n 3 dX10_mayFall_7 rfl rfl ?_
    refine G_aload_n 0 dX10_mayFall_8 rfl rfl ?_
    refine G_get 78 clX10 (y2_0) fl_X10_160 dX10_mayFall_9 (by decide) rfl rfl ?_
    refine G_iload_n 1 dX10_mayFall_12 rfl rfl ?_
    refine G_iald (y2_48) dX10_mayFall_13 ?_
    refine G_icmp_gt (tgt := 68) dX10_mayFall_14 (by decide) ?_ ?_
    · refine G_iconst (v := 0) dX10_mayFall_68 (by decide) ?_
      exact G_zret (b := false) rfl dX10_mayFall_69
    · refine G_aload_n 0 dX10_mayFall_17 rfl rfl ?_
      refine G_iload_n 1 dX10_mayFall_18 rfl rfl ?_
      refine G_iload_n 3 dX10_mayFall_19 rfl rfl ?_
      refine G_cVi (As := [.int x1, .int x3]) (rest := []) (ok_X10_driven x1 x3 M) rfl (y2_0) rfl mv_X10_564 dX10_mayFall_20 rfl rfl (Nat.le_of_ble_eq_true rfl) (g_fitN (by decide) (by decide)) (fun r3 M2 => ?_)
      refine G_istore (lv' := [(4, .int r3), (0, .ref (ad X 0)), (1, .int x1), (2, .int x2), (3, .int x3)]) dX10_mayFall_23 (by decide) rfl ?_
      refine G_iload_n 3 dX10_mayFall_25 rfl rfl ?_
      refine G_iconst (v := 1) dX10_mayFall_26 (by decide) ?_
      refine G_icmp_ne (tgt := 40) dX10_mayFall_27 (by decide) ?_ ?_
      · refine G_iload 0 dX10_mayFall_40 rfl ?_
        refine G_bipush (v := (-2)) dX10_mayFall_42 (by decide) ?_
        refine G_icmp_eq (tgt := 62) dX10_mayFall_44 (by decide) ?_ ?_
        · refine G_iinc (v := x3 + 1) (lv' := [(3, .int (x3 + 1)), (4, .int r3), (0, .ref (ad X 0)), (1, .int x1), (2, .int x2)]) 4 dX10_mayFall_62 rfl rfl (by decide) rfl ?_
          refine G_goto (tgt := 7) dX10_mayFall_65 (by decide) ?_
          exact G_sub [2, 3, 4, 0] rfl (ih x1 x2 (x3 + 1) M2)
        · refine G_aload_n 1 dX10_mayFall_47 rfl rfl ?_
          refine G_get 87 clX10 (y2_0) fl_X10_188 dX10_mayFall_48 (by decide) rfl rfl ?_
          refine G_iload 0 dX10_mayFall_51 rfl ?_
          refine G_iald (y2_57) dX10_mayFall_53 ?_
          refine G_iload_n 3 dX10_mayFall_54 rfl rfl ?_
          refine G_iconst (v := 1) dX10_mayFall_55 (by decide) ?_
          refine G_isub dX10_mayFall_56 ?_
          refine G_icmp_ne (tgt := 62) dX10_mayFall_57 (by decide) ?_ ?_
          · refine G_iinc (v := x3 + 1) (lv' := [(3, .int (x3 + 1)), (4, .int r3), (0, .ref (ad X 0)), (1, .int x1), (2, .int x2)]) 4 dX10_mayFall_62 rfl rfl (by decide) rfl ?_
            refine G_goto (tgt := 7) dX10_mayFall_65 (by decide) ?_
            exact G_sub [2, 3, 4, 0] rfl (ih x1 x2 (x3 + 1) M2)
          · refine G_iconst (v := 1) dX10_mayFall_60 (by decide) ?_
            exact G_zret (b := true) rfl dX10_mayFall_61
      · refine G_iload 0 dX10_mayFall_30 rfl ?_
        refine G_bipush (v := (-2)) dX10_mayFall_32 (by decide) ?_
        refine G_icmp_ne (tgt := 62) dX10_mayFall_34 (by decide) ?_ ?_
        · refine G_iinc (v := x3 + 1) (lv' := [(3, .int (x3 + 1)), (4, .int r3), (0, .ref (ad X 0)), (1, .int x1), (2, .int x2)]) 4 dX10_mayFall_62 rfl rfl (by decide) rfl ?_
          refine G_goto (tgt := 7) dX10_mayFall_65 (by decide) ?_
          exact G_sub [2, 3, 4, 0] rfl (ih x1 x2 (x3 + 1) M2)
        · refine G_goto (tgt := 60) dX10_mayFall_37 (by decide) ?_
          refine G_iconst (v := 1) dX10_mayFall_60 (by decide) ?_
          exact G_zret (b := true) rfl dX10_mayFall_61
def f_X10_mayFall (a1 : Int32) (a2 : Int32) (M : gM) : Option (Bool × gM) := (g_ck a1 2079 (g_v (M.1 47 (tn a1)) (fun y1 => (f_X10_mayFall_7 FU a1 a2 y1 M))))
set_option maxRecDepth 100000 in
set_option maxHeartbeats 4000000 in
theorem ok_X10_mayFall (a1 : Int32) (a2 : Int32) (M : gM) : g_met Y2 yX10_mayFall jX10_mayFall g_eb (fun Z => [.ref (Z.2.1 0), .int a1, .int a2]) M (f_X10_mayFall a1 a2 M) := by
  refine g_enter (fun Z => [(0, .ref (Z.2.1 0)), (1, .int a1), (2, .int a2)]) (by decide) rfl (fun Z => Nat.le_of_ble_eq_true rfl) (fun Z => rfl) (fun X => ?_)
  rw [f_X10_mayFall]
  refine G_aload_n 0 dX10_mayFall_0 rfl rfl ?_
  refine G_get 77 clX10 (y2_0) fl_X10_157 dX10_mayFall_1 (by decide) rfl rfl ?_
  refine G_iload_n 1 dX10_mayFall_4 rfl rfl ?_
  refine G_iald (y2_47) dX10_mayFall_5 ?_
  refine G_vi (fun y1 => ?_)
  refine G_istore_n (lv' := [(3, .int y1), (0, .ref (ad X 0)), (1, .int a1), (2, .int a2)]) dX10_mayFall_6 rfl (by decide) rfl ?_
  exact G_sub [1, 2, 3, 0] rfl (o_X10_mayFall_7 FU a1 a2 y1 M)
-- X10_reflexAll
def f_X10_reflexAll_149 (k96 : Int32 → Int32 → Int32 → gM → Option (Unit × gM)) (x1 : Int32) (x2 : Int32) (x3 : Int32) (M : gM) : Option (Unit × gM) := (g_ck x3 2079 (if 0 ≤ (M.1 58 (tn x3)) then (k96 x1 x2 (x3 + 1) M) else (g_b (f_X10_comes x3 x2 M) (fun r9 M8 => (if r9 then (g_ck x3 2079 (g_m (sI M8 58 (tn x3) x2) (fun M10 => (k96 (1 : Int32) x2 (x3 + 1) M10)))) else (k96 x1 x2 (x3 + 1) M8))))))
set_option maxRecDepth 100000 in
set_option maxHeartbeats 4000000 in
theorem o_X10_reflexAll_149 {X : gX} {k96 : Int32 → Int32 → Int32 → gM → Option (Unit × gM)} (hk96 : ∀ (x1 : Int32) (x2 : Int32) (x3 : Int32) (M : gM), G Y2 jX10_reflexAll X (g_fin g_ev) 96 [(0, .ref (ad X 0)), (1, .int x1), (2, .int x2), (3, .int x3)] [] M (k96 x1 x2 x3 M)) (x1 : Int32) (x2 : Int32) (x3 : Int32) (M : gM) : G Y2 jX10_reflexAll X (g_fin g_ev) 149 [(0, .ref (ad X 0)), (1, .int x1), (2, .int x2), (3, .int x3)] [] M (f_X10_reflexAll_149 k96 x1 x2 x3 M) := by
  rw [f_X10_reflexAll_149]
  refine G_aload_n 0 dX10_reflexAll_149 rfl rfl ?_
  refine G_get 88 clX10 (y2_0) fl_X10_191 dX10_reflexAll_150 (by decide) rfl rfl ?_
  refine G_iload_n 3 dX10_reflexAll_153 rfl rfl ?_
  refine G_iald (y2_58) dX10_reflexAll_154 ?_
  refine G_if_ge (tgt := 176) dX10_reflexAll_155 (by decide) ?_ ?_
  · refine G_iinc (v := x3 + 1) (lv' := [(3, .int (x3 + 1)), (0, .ref (ad X 0)), (1, .int x1), (2, .int x2)]) 3 dX10_reflexAll_176 rfl rfl (by decide) rfl ?_
    refine G_goto (tgt := 96) dX10_reflexAll_179 (by decide) ?_
    exact G_sub [1, 2, 3, 0] rfl (hk96 x1 x2 (x3 + 1) M)
  · refine G_aload_n 0 dX10_reflexAll_158 rfl rfl ?_
    refine G_iload_n 3 dX10_reflexAll_159 rfl rfl ?_
    refine G_iload_n 2 dX10_reflexAll_160 rfl rfl ?_
    refine G_cVb (As := [.int x3, .int x2]) (rest := []) (ok_X10_comes x3 x2 M) rfl (y2_0) rfl mv_X10_561 dX10_reflexAll_161 rfl rfl (Nat.le_of_ble_eq_true rfl) (g_fitN (by decide) (by decide)) (fun r9 M8 => ?_)
    refine G_ifB_eq (tgt := 176) dX10_reflexAll_164 (by decide) ?_ ?_
    · refine G_iinc (v := x3 + 1) (lv' := [(3, .int (x3 + 1)), (0, .ref (ad X 0)), (1, .int x1), (2, .int x2)]) 3 dX10_reflexAll_176 rfl rfl (by decide) rfl ?_
      refine G_goto (tgt := 96) dX10_reflexAll_179 (by decide) ?_
      exact G_sub [1, 2, 3, 0] rfl (hk96 x1 x2 (x3 + 1) M8)
    · refine G_aload_n 0 dX10_reflexAll_167 rfl rfl ?_
      refine G_get 88 clX10 (y2_0) fl_X10_191 dX10_reflexAll_168 (by decide) rfl rfl ?_
      refine G_iload_n 3 dX10_reflexAll_171 rfl rfl ?_
      refine G_iload_n 2 dX10_reflexAll_172 rfl rfl ?_
      refine G_iast (y2_58) dX10_reflexAll_173 ?_
      refine G_m (fun M10 => ?_)
      refine G_iconst (v := 1) dX10_reflexAll_174 (by decide) ?_
      refine G_istore_n (lv' := [(1, .int 1), (0, .ref (ad X 0)), (2, .int x2), (3, .int x3)]) dX10_reflexAll_175 rfl (by decide) rfl ?_
      refine G_iinc (v := x3 + 1) (lv' := [(3, .int (x3 + 1)), (1, .int 1), (0, .ref (ad X 0)), (2, .int x2)]) 3 dX10_reflexAll_176 rfl rfl (by decide) rfl ?_
      refine G_goto (tgt := 96) dX10_reflexAll_179 (by decide) ?_
      exact G_sub [2, 1, 3, 0] rfl (hk96 (1 : Int32) x2 (x3 + 1) M10)
def f_X10_reflexAll_96 (k88 : Int32 → Int32 → gM → Option (Unit × gM)) : Nat → Int32 → Int32 → Int32 → gM → Option (Unit × gM)
  | 0, _, _, _, _ => none
  | n + 1, x1, x2, x3, M => (if (2079 : Int32) ≤ x3 then (k88 x1 (x2 + 1) M) else (g_b (f_X10_isState x3 M) (fun r5 M4 => (if r5 then (g_b (f_X10_isOver x3 M4) (fun r7 M6 => (if r7 then (f_X10_reflexAll_96 k88 n x1 x2 (x3 + 1) M6) else (g_ck x3 2079 (if (M6.1 57 (tn x3)) = 0 then (g_b (f_X10_mayFall x3 x2 M6) (fun r12 M11 => (if r12 then (g_ck x3 2079 (g_m (sI M11 57 (tn x3) x2) (fun M13 => (f_X10_reflexAll_149 (f_X10_reflexAll_96 k88 n) (1 : Int32) x2 x3 M13)))) else (f_X10_reflexAll_149 (f_X10_reflexAll_96 k88 n) x1 x2 x3 M11)))) else (f_X10_reflexAll_149 (f_X10_reflexAll_96 k88 n) x1 x2 x3 M6)))))) else (f_X10_reflexAll_96 k88 n x1 x2 (x3 + 1) M4)))))
set_option maxRecDepth 100000 in
set_option maxHeartbeats 4000000 in
theorem o_X10_reflexAll_96 {X : gX} {k88 : Int32 → Int32 → gM → Option (Unit × gM)} (hk88 : ∀ (x1 : Int32) (x2 : Int32) (M : gM), G Y2 jX10_reflexAll X (g_fin g_ev) 88 [(0, .ref (ad X 0)), (1, .int x1), (2, .int x2)] [] M (k88 x1 x2 M)) : ∀ (n : Nat) (x1 : Int32) (x2 : Int32) (x3 : Int32) (M : gM), G Y2 jX10_reflexAll X (g_fin g_ev) 96 [(0, .ref (ad X 0)), (1, .int x1), (2, .int x2), (3, .int x3)] [] M (f_X10_reflexAll_96 k88 n x1 x2 x3 M) := by
  intro n
  induction n with
  | zero => intro x1 x2 x3 M; exact G_none
  | succ n ih =>
    intro x1 x2 x3 M
    rw [f_X10_reflexAll_96]
    refine G_iload_n 3 dX10_reflexAll_96 rfl rfl ?_
    refine G_sipush (v := 2079) dX10_reflexAll_97 (by decide) ?_
    refine G_icmp_ge (tgt := 182) dX10_reflexAll_100 (by decide) ?_ ?_
    · refine G_iinc (v := x2 + 1) (lv' := [(2, .int (x2 + 1)), (0, .ref (ad X 0)), (1, .int x1), (3, .int x3)]) 2 dX10_reflexAll_182 rfl rfl (by decide) rfl ?_
      refine G_goto (tgt := 88) dX10_reflexAll_185 (by decide) ?_
      exact G_sub [1, 2, 0] rfl (hk88 x1 (x2 + 1) M)
    · refine G_aload_n 0 dX10_reflexAll_103 rfl rfl ?_
      refine G_iload_n 3 dX10_reflexAll_104 rfl rfl ?_
      refine G_cVb (As := [.int x3]) (rest := []) (ok_X10_isState x3 M) rfl (y2_0) rfl mv_X10_476 dX10_reflexAll_105 rfl rfl (Nat.le_of_ble_eq_true rfl) (g_fitN (by decide) (by decide)) (fun r5 M4 => ?_)
      refine G_ifB_eq (tgt := 176) dX10_reflexAll_108 (by decide) ?_ ?_
      · refine G_iinc (v := x3 + 1) (lv' := [(3, .int (x3 + 1)), (0, .ref (ad X 0)), (1, .int x1), (2, .int x2)]) 3 dX10_reflexAll_176 rfl rfl (by decide) rfl ?_
        refine G_goto (tgt := 96) dX10_reflexAll_179 (by decide) ?_
        exact G_sub [1, 2, 3, 0] rfl (ih x1 x2 (x3 + 1) M4)
      · refine G_aload_n 0 dX10_reflexAll_111 rfl rfl ?_
        refine G_iload_n 3 dX10_reflexAll_112 rfl rfl ?_
        refine G_cVb (As := [.int x3]) (rest := []) (ok_X10_isOver x3 M4) rfl (y2_0) rfl mv_X10_460 dX10_reflexAll_113 rfl rfl (Nat.le_of_ble_eq_true rfl) (g_fitN (by decide) (by decide)) (fun r7 M6 => ?_)
        refine G_ifB_eq (tgt := 122) dX10_reflexAll_116 (by decide) ?_ ?_
        · refine G_aload_n 0 dX10_reflexAll_122 rfl rfl ?_
          refine G_get 87 clX10 (y2_0) fl_X10_188 dX10_reflexAll_123 (by decide) rfl rfl ?_
          refine G_iload_n 3 dX10_reflexAll_126 rfl rfl ?_
          refine G_iald (y2_57) dX10_reflexAll_127 ?_
          refine G_if_ne (tgt := 149) dX10_reflexAll_128 (by decide) ?_ ?_
          · exact G_sub [0, 1, 2, 3] rfl (o_X10_reflexAll_149 ih x1 x2 x3 M6)
          · refine G_aload_n 0 dX10_reflexAll_131 rfl rfl ?_
            refine G_iload_n 3 dX10_reflexAll_132 rfl rfl ?_
            refine G_iload_n 2 dX10_reflexAll_133 rfl rfl ?_
            refine G_cVb (As := [.int x3, .int x2]) (rest := []) (ok_X10_mayFall x3 x2 M6) rfl (y2_0) rfl mv_X10_558 dX10_reflexAll_134 rfl rfl (Nat.le_of_ble_eq_true rfl) (g_fitN (by decide) (by decide)) (fun r12 M11 => ?_)
            refine G_ifB_eq (tgt := 149) dX10_reflexAll_137 (by decide) ?_ ?_
            · exact G_sub [0, 1, 2, 3] rfl (o_X10_reflexAll_149 ih x1 x2 x3 M11)
            · refine G_aload_n 0 dX10_reflexAll_140 rfl rfl ?_
              refine G_get 87 clX10 (y2_0) fl_X10_188 dX10_reflexAll_141 (by decide) rfl rfl ?_
              refine G_iload_n 3 dX10_reflexAll_144 rfl rfl ?_
              refine G_iload_n 2 dX10_reflexAll_145 rfl rfl ?_
              refine G_iast (y2_57) dX10_reflexAll_146 ?_
              refine G_m (fun M13 => ?_)
              refine G_iconst (v := 1) dX10_reflexAll_147 (by decide) ?_
              refine G_istore_n (lv' := [(1, .int 1), (0, .ref (ad X 0)), (2, .int x2), (3, .int x3)]) dX10_reflexAll_148 rfl (by decide) rfl ?_
              exact G_sub [1, 0, 2, 3] rfl (o_X10_reflexAll_149 ih (1 : Int32) x2 x3 M13)
        · refine G_goto (tgt := 176) dX10_reflexAll_119 (by decide) ?_
          refine G_iinc (v := x3 + 1) (lv' := [(3, .int (x3 + 1)), (0, .ref (ad X 0)), (1, .int x1), (2, .int x2)]) 3 dX10_reflexAll_176 rfl rfl (by decide) rfl ?_
          refine G_goto (tgt := 96) dX10_reflexAll_179 (by decide) ?_
          exact G_sub [1, 2, 3, 0] rfl (ih x1 x2 (x3 + 1) M6)
def f_X10_reflexAll_88 : Nat → Int32 → Int32 → gM → Option (Unit × gM)
  | 0, _, _, _ => none
  | n + 1, x1, x2, M => (if x1 = 0 then (some ((), M)) else (f_X10_reflexAll_96 (f_X10_reflexAll_88 n) FU (0 : Int32) x2 (0 : Int32) M))
set_option maxRecDepth 100000 in
set_option maxHeartbeats 4000000 in
theorem o_X10_reflexAll_88 {X : gX} : ∀ (n : Nat) (x1 : Int32) (x2 : Int32) (M : gM), G Y2 jX10_reflexAll X (g_fin g_ev) 88 [(0, .ref (ad X 0)), (1, .int x1), (2, .int x2)] [] M (f_X10_reflexAll_88 n x1 x2 M) := by
  intro n
  induction n with
  | zero => intro x1 x2 M; exact G_none
  | succ n ih =>
    intro x1 x2 M
    rw [f_X10_reflexAll_88]
    refine G_iload_n 1 dX10_reflexAll_88 rfl rfl ?_
    refine G_if_eq (tgt := 188) dX10_reflexAll_89 (by decide) ?_ ?_
    · exact G_vret rfl dX10_reflexAll_188
    · refine G_iconst (v := 0) dX10_reflexAll_92 (by decide) ?_
      refine G_istore_n (lv' := [(1, .int 0), (0, .ref (ad X 0)), (2, .int x2)]) dX10_reflexAll_93 rfl (by decide) rfl ?_
      refine G_iconst (v := 0) dX10_reflexAll_94 (by decide) ?_
      refine G_istore_n (lv' := [(3, .int 0), (1, .int 0), (0, .ref (ad X 0)), (2, .int x2)]) dX10_reflexAll_95 rfl (by decide) rfl ?_
      exact G_sub [2, 1, 3, 0] rfl (o_X10_reflexAll_96 ih FU (0 : Int32) x2 (0 : Int32) M)
def f_X10_reflexAll_19 : Nat → Int32 → gM → Option (Unit × gM)
  | 0, _, _ => none
  | n + 1, x1, M => (if (2079 : Int32) ≤ x1 then (f_X10_reflexAll_88 FU (1 : Int32) (1 : Int32) M) else (g_ck x1 2079 (g_m (sI M 57 (tn x1) (0 : Int32)) (fun M14 => (g_ck x1 2079 (g_m (sI M14 58 (tn x1) ((-2) : Int32)) (fun M15 => (g_b (f_X10_isState x1 M15) (fun r17 M16 => (if r17 then (g_b (f_X10_reflexAt x1 M16) (fun r19 M18 => (g_ck x1 2079 (g_m (sI M18 56 (tn x1) r19) (fun M20 => (g_b (f_X10_isOver x1 M20) (fun r22 M21 => (if r22 then (g_ck x1 2079 (g_m (sI M21 58 (tn x1) (0 : Int32)) (fun M23 => (f_X10_reflexAll_19 n (x1 + 1) M23)))) else (f_X10_reflexAll_19 n (x1 + 1) M21))))))))) else (f_X10_reflexAll_19 n (x1 + 1) M16)))))))))))
set_option maxRecDepth 100000 in
set_option maxHeartbeats 4000000 in
theorem o_X10_reflexAll_19 {X : gX} : ∀ (n : Nat) (x1 : Int32) (M : gM), G Y2 jX10_reflexAll X (g_fin g_ev) 19 [(0, .ref (ad X 0)), (1, .int x1)] [] M (f_X10_reflexAll_19 n x1 M) := by
  intro n
  induction n with
  | zero => intro x1 M; exact G_none
  | succ n ih =>
    intro x1 M
    rw [f_X10_reflexAll_19]
    refine G_iload_n 1 dX10_reflexAll_19 rfl rfl ?_
    refine G_sipush (v := 2079) dX10_reflexAll_20 (by decide) ?_
    refine G_icmp_ge (tgt := 84) dX10_reflexAll_23 (by decide) ?_ ?_
    · refine G_iconst (v := 1) dX10_reflexAll_84 (by decide) ?_
      refine G_istore_n (lv' := [(1, .int 1), (0, .ref (ad X 0))]) dX10_reflexAll_85 rfl (by decide) rfl ?_
      refine G_iconst (v := 1) dX10_reflexAll_86 (by decide) ?_
      refine G_istore_n (lv' := [(2, .int 1), (1, .int 1), (0, .ref (ad X 0))]) dX10_reflexAll_87 rfl (by decide) rfl ?_
      exact G_sub [2, 1, 0] rfl (o_X10_reflexAll_88 FU (1 : Int32) (1 : Int32) M)
    · refine G_aload_n 0 dX10_reflexAll_26 rfl rfl ?_
      refine G_get 87 clX10 (y2_0) fl_X10_188 dX10_reflexAll_27 (by decide) rfl rfl ?_
      refine G_iload_n 1 dX10_reflexAll_30 rfl rfl ?_
      refine G_iconst (v := 0) dX10_reflexAll_31 (by decide) ?_
      refine G_iast (y2_57) dX10_reflexAll_32 ?_
      refine G_m (fun M14 => ?_)
      refine G_aload_n 0 dX10_reflexAll_33 rfl rfl ?_
      refine G_get 88 clX10 (y2_0) fl_X10_191 dX10_reflexAll_34 (by decide) rfl rfl ?_
      refine G_iload_n 1 dX10_reflexAll_37 rfl rfl ?_
      refine G_bipush (v := (-2)) dX10_reflexAll_38 (by decide) ?_
      refine G_iast (y2_58) dX10_reflexAll_40 ?_
      refine G_m (fun M15 => ?_)
      refine G_aload_n 0 dX10_reflexAll_41 rfl rfl ?_
      refine G_iload_n 1 dX10_reflexAll_42 rfl rfl ?_
      refine G_cVb (As := [.int x1]) (rest := []) (ok_X10_isState x1 M15) rfl (y2_0) rfl mv_X10_476 dX10_reflexAll_43 rfl rfl (Nat.le_of_ble_eq_true rfl) (g_fitN (by decide) (by decide)) (fun r17 M16 => ?_)
      refine G_ifB_ne (tgt := 52) dX10_reflexAll_46 (by decide) ?_ ?_
      · refine G_aload_n 0 dX10_reflexAll_52 rfl rfl ?_
        refine G_get 86 clX10 (y2_0) fl_X10_185 dX10_reflexAll_53 (by decide) rfl rfl ?_
        refine G_iload_n 1 dX10_reflexAll_56 rfl rfl ?_
        refine G_aload_n 0 dX10_reflexAll_57 rfl rfl ?_
        refine G_iload_n 1 dX10_reflexAll_58 rfl rfl ?_
        refine G_cVi (As := [.int x1]) (rest := [.int x1, .ref (ad X 56)]) (ok_X10_reflexAt x1 M16) rfl (y2_0) rfl mv_X10_555 dX10_reflexAll_59 rfl rfl (Nat.le_of_ble_eq_true rfl) (g_fitN (by decide) (by decide)) (fun r19 M18 => ?_)
        refine G_iast (y2_56) dX10_reflexAll_62 ?_
        refine G_m (fun M20 => ?_)
        refine G_aload_n 0 dX10_reflexAll_63 rfl rfl ?_
        refine G_iload_n 1 dX10_reflexAll_64 rfl rfl ?_
        refine G_cVb (As := [.int x1]) (rest := []) (ok_X10_isOver x1 M20) rfl (y2_0) rfl mv_X10_460 dX10_reflexAll_65 rfl rfl (Nat.le_of_ble_eq_true rfl) (g_fitN (by decide) (by decide)) (fun r22 M21 => ?_)
        refine G_ifB_eq (tgt := 78) dX10_reflexAll_68 (by decide) ?_ ?_
        · refine G_iinc (v := x1 + 1) (lv' := [(1, .int (x1 + 1)), (0, .ref (ad X 0))]) 1 dX10_reflexAll_78 rfl rfl (by decide) rfl ?_
          refine G_goto (tgt := 19) dX10_reflexAll_81 (by decide) ?_
          exact G_sub [1, 0] rfl (ih (x1 + 1) M21)
        · refine G_aload_n 0 dX10_reflexAll_71 rfl rfl ?_
          refine G_get 88 clX10 (y2_0) fl_X10_191 dX10_reflexAll_72 (by decide) rfl rfl ?_
          refine G_iload_n 1 dX10_reflexAll_75 rfl rfl ?_
          refine G_iconst (v := 0) dX10_reflexAll_76 (by decide) ?_
          refine G_iast (y2_58) dX10_reflexAll_77 ?_
          refine G_m (fun M23 => ?_)
          refine G_iinc (v := x1 + 1) (lv' := [(1, .int (x1 + 1)), (0, .ref (ad X 0))]) 1 dX10_reflexAll_78 rfl rfl (by decide) rfl ?_
          refine G_goto (tgt := 19) dX10_reflexAll_81 (by decide) ?_
          exact G_sub [1, 0] rfl (ih (x1 + 1) M23)
      · refine G_goto (tgt := 78) dX10_reflexAll_49 (by decide) ?_
        refine G_iinc (v := x1 + 1) (lv' := [(1, .int (x1 + 1)), (0, .ref (ad X 0))]) 1 dX10_reflexAll_78 rfl rfl (by decide) rfl ?_
        refine G_goto (tgt := 19) dX10_reflexAll_81 (by decide) ?_
        exact G_sub [1, 0] rfl (ih (x1 + 1) M16)
def f_X10_reflexAll (M : gM) : Option (Unit × gM) := (g_b (f_X10_lay M) (fun r2 M1 => (if (M1.1 0 76) = 0 then (g_m (sI M1 0 76 (1 : Int32)) (fun M3 => (f_X10_reflexAll_19 FU (0 : Int32) M3))) else (some ((), M1)))))
set_option maxRecDepth 100000 in
set_option maxHeartbeats 4000000 in
theorem ok_X10_reflexAll (M : gM) : g_met Y2 yX10_reflexAll jX10_reflexAll g_ev (fun Z => [.ref (Z.2.1 0)]) M (f_X10_reflexAll M) := by
  refine g_enter (fun Z => [(0, .ref (Z.2.1 0))]) (by decide) rfl (fun Z => Nat.le_of_ble_eq_true rfl) (fun Z => rfl) (fun X => ?_)
  rw [f_X10_reflexAll]
  refine G_aload_n 0 dX10_reflexAll_0 rfl rfl ?_
  refine G_cVv (As := []) (rest := []) (ok_X10_lay M) rfl (y2_0) rfl mv_X10_516 dX10_reflexAll_1 rfl rfl (Nat.le_of_ble_eq_true rfl) (g_fitN (by decide) (by decide)) (fun r2 M1 => ?_)
  refine G_aload_n 0 dX10_reflexAll_4 rfl rfl ?_
  refine G_get 76 clX10 (y2_0) fl_X10_498 dX10_reflexAll_5 (by decide) rfl rfl ?_
  refine G_if_eq (tgt := 12) dX10_reflexAll_8 (by decide) ?_ ?_
  · refine G_aload_n 0 dX10_reflexAll_12 rfl rfl ?_
    refine G_iconst (v := 1) dX10_reflexAll_13 (by decide) ?_
    refine G_putZ 76 clX10 (y2_0) fl_X10_498 dX10_reflexAll_14 (by decide) rfl rfl rfl ⟨rfl, rfl⟩ ?_
    refine G_m (fun M3 => ?_)
    refine G_iconst (v := 0) dX10_reflexAll_17 (by decide) ?_
    refine G_istore_n (lv' := [(1, .int 0), (0, .ref (ad X 0))]) dX10_reflexAll_18 rfl (by decide) rfl ?_
    exact G_sub [1, 0] rfl (o_X10_reflexAll_19 FU (0 : Int32) M3)
  · exact G_vret rfl dX10_reflexAll_11
-- X10_reflex
def f_X10_reflex (a1 : Int32) (M : gM) : Option (Int32 × gM) := (g_b (f_X10_isState a1 M) (fun r2 M1 => (if r2 then (g_b (f_X10_reflexAll M1) (fun r4 M3 => (g_ck a1 2079 (some ((M3.1 56 (tn a1)), M3))))) else (some (((-1) : Int32), M1)))))
set_option maxRecDepth 100000 in
set_option maxHeartbeats 4000000 in
theorem ok_X10_reflex (a1 : Int32) (M : gM) : g_met Y2 yX10_reflex jX10_reflex g_ei (fun Z => [.ref (Z.2.1 0), .int a1]) M (f_X10_reflex a1 M) := by
  refine g_enter (fun Z => [(0, .ref (Z.2.1 0)), (1, .int a1)]) (by decide) rfl (fun Z => Nat.le_of_ble_eq_true rfl) (fun Z => rfl) (fun X => ?_)
  rw [f_X10_reflex]
  refine G_aload_n 0 dX10_reflex_0 rfl rfl ?_
  refine G_iload_n 1 dX10_reflex_1 rfl rfl ?_
  refine G_cVb (As := [.int a1]) (rest := []) (ok_X10_isState a1 M) rfl (y2_0) rfl mv_X10_476 dX10_reflex_2 rfl rfl (Nat.le_of_ble_eq_true rfl) (g_fitN (by decide) (by decide)) (fun r2 M1 => ?_)
  refine G_ifB_ne (tgt := 10) dX10_reflex_5 (by decide) ?_ ?_
  · refine G_aload_n 0 dX10_reflex_10 rfl rfl ?_
    refine G_cVv (As := []) (rest := []) (ok_X10_reflexAll M1) rfl (y2_0) rfl mv_X10_567 dX10_reflex_11 rfl rfl (Nat.le_of_ble_eq_true rfl) (g_fitN (by decide) (by decide)) (fun r4 M3 => ?_)
    refine G_aload_n 0 dX10_reflex_14 rfl rfl ?_
    refine G_get 86 clX10 (y2_0) fl_X10_185 dX10_reflex_15 (by decide) rfl rfl ?_
    refine G_iload_n 1 dX10_reflex_18 rfl rfl ?_
    refine G_iald (y2_56) dX10_reflex_19 ?_
    exact G_iret rfl dX10_reflex_20
  · refine G_iconst (v := (-1)) dX10_reflex_8 (by decide) ?_
    exact G_iret rfl dX10_reflex_9
-- X10_proof
def f_X10_proof (a1 : Int32) (M : gM) : Option (Int32 × gM) := (g_b (f_X10_isState a1 M) (fun r2 M1 => (if r2 then (g_b (f_X10_reflexAll M1) (fun r4 M3 => (g_ck a1 2079 (some ((M3.1 57 (tn a1)), M3))))) else (some (((-1) : Int32), M1)))))
set_option maxRecDepth 100000 in
set_option maxHeartbeats 4000000 in
theorem ok_X10_proof (a1 : Int32) (M : gM) : g_met Y2 yX10_proof jX10_proof g_ei (fun Z => [.ref (Z.2.1 0), .int a1]) M (f_X10_proof a1 M) := by
  refine g_enter (fun Z => [(0, .ref (Z.2.1 0)), (1, .int a1)]) (by decide) rfl (fun Z => Nat.le_of_ble_eq_true rfl) (fun Z => rfl) (fun X => ?_)
  rw [f_X10_proof]
  refine G_aload_n 0 dX10_proof_0 rfl rfl ?_
  refine G_iload_n 1 dX10_proof_1 rfl rfl ?_
  refine G_cVb (As := [.int a1]) (rest := []) (ok_X10_isState a1 M) rfl (y2_0) rfl mv_X10_476 dX10_proof_2 rfl rfl (Nat.le_of_ble_eq_true rfl) (g_fitN (by decide) (by decide)) (fun r2 M1 => ?_)
  refine G_ifB_ne (tgt := 10) dX10_proof_5 (by decide) ?_ ?_
  · refine G_aload_n 0 dX10_proof_10 rfl rfl ?_
    refine G_cVv (As := []) (rest := []) (ok_X10_reflexAll M1) rfl (y2_0) rfl mv_X10_567 dX10_proof_11 rfl rfl (Nat.le_of_ble_eq_true rfl) (g_fitN (by decide) (by decide)) (fun r4 M3 => ?_)
    refine G_aload_n 0 dX10_proof_14 rfl rfl ?_
    refine G_get 87 clX10 (y2_0) fl_X10_188 dX10_proof_15 (by decide) rfl rfl ?_
    refine G_iload_n 1 dX10_proof_18 rfl rfl ?_
    refine G_iald (y2_57) dX10_proof_19 ?_
    exact G_iret rfl dX10_proof_20
  · refine G_iconst (v := (-1)) dX10_proof_8 (by decide) ?_
    exact G_iret rfl dX10_proof_9
-- X10_fatal
def f_X10_fatal_7 : Nat → Int32 → Int32 → gM → Option (Int32 × gM)
  | 0, _, _, _ => none
  | n + 1, x1, x2, M => (g_ck x1 2079 (if (M.1 48 (tn x1)) < x2 then (g_ck x1 2079 (some ((M.1 47 (tn x1)), M))) else (g_b (f_X10_driven x1 x2 M) (fun r3 M2 => (g_ck x1 2079 (if (M2.1 57 (tn x1)) = (1 : Int32) then (if r3 = ((-2) : Int32) then (some (x2, M2)) else (f_X10_fatal_7 n x1 (x2 + 1) M2)) else (if r3 = ((-2) : Int32) then (f_X10_fatal_7 n x1 (x2 + 1) M2) else (g_ck r3 2079 (g_ck x1 2079 (if (M2.1 57 (tn r3)) = ((M2.1 57 (tn x1)) - (1 : Int32)) then (some (x2, M2)) else (f_X10_fatal_7 n x1 (x2 + 1) M2)))))))))))
set_option maxRecDepth 100000 in
set_option maxHeartbeats 4000000 in
theorem o_X10_fatal_7 {X : gX} : ∀ (n : Nat) (x1 : Int32) (x2 : Int32) (M : gM), G Y2 jX10_fatal X (g_fin g_ei) 7 [(0, .ref (ad X 0)), (1, .int x1), (2, .int x2)] [] M (f_X10_fatal_7 n x1 x2 M) := by
  intro n
  induction n with
  | zero => intro x1 x2 M; exact G_none
  | succ n ih =>
    intro x1 x2 M
    rw [f_X10_fatal_7]
    refine G_iload_n 2 dX10_fatal_7 rfl rfl ?_
    refine G_aload_n 0 dX10_fatal_8 rfl rfl ?_
    refine G_get 78 clX10 (y2_0) fl_X10_160 dX10_fatal_9 (by decide) rfl rfl ?_
    refine G_iload_n 1 dX10_fatal_12 rfl rfl ?_
    refine G_iald (y2_48) dX10_fatal_13 ?_
    refine G_icmp_gt (tgt := 74) dX10_fatal_14 (by decide) ?_ ?_
    · refine G_aload_n 0 dX10_fatal_74 rfl rfl ?_
      refine G_get 77 clX10 (y2_0) fl_X10_157 dX10_fatal_75 (by decide) rfl rfl ?_
      refine G_iload_n 1 dX10_fatal_78 rfl rfl ?_
      refine G_iald (y2_47) dX10_fatal_79 ?_
      exact G_iret rfl dX10_fatal_80
    · refine G_aload_n 0 dX10_fatal_17 rfl rfl ?_
      refine G_iload_n 1 dX10_fatal_18 rfl rfl ?_
      refine G_iload_n 2 dX10_fatal_19 rfl rfl ?_
      refine G_cVi (As := [.int x1, .int x2]) (rest := []) (ok_X10_driven x1 x2 M) rfl (y2_0) rfl mv_X10_564 dX10_fatal_20 rfl rfl (Nat.le_of_ble_eq_true rfl) (g_fitN (by decide) (by decide)) (fun r3 M2 => ?_)
      refine G_istore_n (lv' := [(3, .int r3), (0, .ref (ad X 0)), (1, .int x1), (2, .int x2)]) dX10_fatal_23 rfl (by decide) rfl ?_
      refine G_aload_n 1 dX10_fatal_24 rfl rfl ?_
      refine G_get 87 clX10 (y2_0) fl_X10_188 dX10_fatal_25 (by decide) rfl rfl ?_
      refine G_iload_n 2 dX10_fatal_28 rfl rfl ?_
      refine G_iald (y2_57) dX10_fatal_29 ?_
      refine G_iconst (v := 1) dX10_fatal_30 (by decide) ?_
      refine G_icmp_ne (tgt := 43) dX10_fatal_31 (by decide) ?_ ?_
      · refine G_iload_n 0 dX10_fatal_43 rfl rfl ?_
        refine G_bipush (v := (-2)) dX10_fatal_44 (by decide) ?_
        refine G_icmp_eq (tgt := 68) dX10_fatal_46 (by decide) ?_ ?_
        · refine G_iinc (v := x2 + 1) (lv' := [(2, .int (x2 + 1)), (3, .int r3), (0, .ref (ad X 0)), (1, .int x1)]) 3 dX10_fatal_68 rfl rfl (by decide) rfl ?_
          refine G_goto (tgt := 7) dX10_fatal_71 (by decide) ?_
          exact G_sub [2, 3, 0] rfl (ih x1 (x2 + 1) M2)
        · refine G_aload_n 1 dX10_fatal_49 rfl rfl ?_
          refine G_get 87 clX10 (y2_0) fl_X10_188 dX10_fatal_50 (by decide) rfl rfl ?_
          refine G_iload_n 0 dX10_fatal_53 rfl rfl ?_
          refine G_iald (y2_57) dX10_fatal_54 ?_
          refine G_aload_n 1 dX10_fatal_55 rfl rfl ?_
          refine G_get 87 clX10 (y2_0) fl_X10_188 dX10_fatal_56 (by decide) rfl rfl ?_
          refine G_iload_n 2 dX10_fatal_59 rfl rfl ?_
          refine G_iald (y2_57) dX10_fatal_60 ?_
          refine G_iconst (v := 1) dX10_fatal_61 (by decide) ?_
          refine G_isub dX10_fatal_62 ?_
          refine G_icmp_ne (tgt := 68) dX10_fatal_63 (by decide) ?_ ?_
          · refine G_iinc (v := x2 + 1) (lv' := [(2, .int (x2 + 1)), (3, .int r3), (0, .ref (ad X 0)), (1, .int x1)]) 3 dX10_fatal_68 rfl rfl (by decide) rfl ?_
            refine G_goto (tgt := 7) dX10_fatal_71 (by decide) ?_
            exact G_sub [2, 3, 0] rfl (ih x1 (x2 + 1) M2)
          · refine G_iload_n 3 dX10_fatal_66 rfl rfl ?_
            exact G_iret rfl dX10_fatal_67
      · refine G_iload_n 0 dX10_fatal_34 rfl rfl ?_
        refine G_bipush (v := (-2)) dX10_fatal_35 (by decide) ?_
        refine G_icmp_ne (tgt := 68) dX10_fatal_37 (by decide) ?_ ?_
        · refine G_iinc (v := x2 + 1) (lv' := [(2, .int (x2 + 1)), (3, .int r3), (0, .ref (ad X 0)), (1, .int x1)]) 3 dX10_fatal_68 rfl rfl (by decide) rfl ?_
          refine G_goto (tgt := 7) dX10_fatal_71 (by decide) ?_
          exact G_sub [2, 3, 0] rfl (ih x1 (x2 + 1) M2)
        · refine G_goto (tgt := 66) dX10_fatal_40 (by decide) ?_
          refine G_iload_n 3 dX10_fatal_66 rfl rfl ?_
          exact G_iret rfl dX10_fatal_67
def f_X10_fatal (a1 : Int32) (M : gM) : Option (Int32 × gM) := (g_ck a1 2079 (g_v (M.1 47 (tn a1)) (fun y1 => (f_X10_fatal_7 FU a1 y1 M))))
set_option maxRecDepth 100000 in
set_option maxHeartbeats 4000000 in
theorem ok_X10_fatal (a1 : Int32) (M : gM) : g_met Y2 yX10_fatal jX10_fatal g_ei (fun Z => [.ref (Z.2.1 0), .int a1]) M (f_X10_fatal a1 M) := by
  refine g_enter (fun Z => [(0, .ref (Z.2.1 0)), (1, .int a1)]) (by decide) rfl (fun Z => Nat.le_of_ble_eq_true rfl) (fun Z => rfl) (fun X => ?_)
  rw [f_X10_fatal]
  refine G_aload_n 0 dX10_fatal_0 rfl rfl ?_
  refine G_get 77 clX10 (y2_0) fl_X10_157 dX10_fatal_1 (by decide) rfl rfl ?_
  refine G_iload_n 1 dX10_fatal_4 rfl rfl ?_
  refine G_iald (y2_47) dX10_fatal_5 ?_
  refine G_vi (fun y1 => ?_)
  refine G_istore_n (lv' := [(2, .int y1), (0, .ref (ad X 0)), (1, .int a1)]) dX10_fatal_6 rfl (by decide) rfl ?_
  exact G_sub [1, 2, 0] rfl (o_X10_fatal_7 FU a1 y1 M)
-- X10_witness
def f_X10_witness_37 : Nat → Int32 → Int32 → Int32 → gM → Option (Int32 × gM)
  | 0, _, _, _, _ => none
  | n + 1, x2, x3, x4, M => (if x2 ≤ x4 then (g_b (f_X10_fatal x3 M) (fun r6 M5 => (some (r6, M5)))) else (g_b (f_X10_fatal x3 M) (fun r8 M7 => (g_b (f_X10_driven x3 r8 M7) (fun r10 M9 => (f_X10_witness_37 n x2 r10 (x4 + 1) M9))))))
set_option maxRecDepth 100000 in
set_option maxHeartbeats 4000000 in
theorem o_X10_witness_37 {X : gX} : ∀ (n : Nat) (x2 : Int32) (x3 : Int32) (x4 : Int32) (M : gM), G Y2 jX10_witness X (g_fin g_ei) 37 [(0, .ref (ad X 0)), (2, .int x2), (3, .int x3), (4, .int x4)] [] M (f_X10_witness_37 n x2 x3 x4 M) := by
  intro n
  induction n with
  | zero => intro x2 x3 x4 M; exact G_none
  | succ n ih =>
    intro x2 x3 x4 M
    rw [f_X10_witness_37]
    refine G_iload 3 dX10_witness_37 rfl ?_
    refine G_iload_n 1 dX10_witness_39 rfl rfl ?_
    refine G_icmp_ge (tgt := 60) dX10_witness_40 (by decide) ?_ ?_
    · refine G_aload_n 0 dX10_witness_60 rfl rfl ?_
      refine G_iload_n 2 dX10_witness_61 rfl rfl ?_
      refine G_cVi (As := [.int x3]) (rest := []) (ok_X10_fatal x3 M) rfl (y2_0) rfl mv_X10_570 dX10_witness_62 rfl rfl (Nat.le_of_ble_eq_true rfl) (g_fitN (by decide) (by decide)) (fun r6 M5 => ?_)
      exact G_iret rfl dX10_witness_65
    · refine G_aload_n 0 dX10_witness_43 rfl rfl ?_
      refine G_iload_n 2 dX10_witness_44 rfl rfl ?_
      refine G_aload_n 0 dX10_witness_45 rfl rfl ?_
      refine G_iload_n 2 dX10_witness_46 rfl rfl ?_
      refine G_cVi (As := [.int x3]) (rest := [.int x3, .ref (ad X 0)]) (ok_X10_fatal x3 M) rfl (y2_0) rfl mv_X10_570 dX10_witness_47 rfl rfl (Nat.le_of_ble_eq_true rfl) (g_fitN (by decide) (by decide)) (fun r8 M7 => ?_)
      refine G_cVi (As := [.int x3, .int r8]) (rest := []) (ok_X10_driven x3 r8 M7) rfl (y2_0) rfl mv_X10_564 dX10_witness_50 rfl rfl (Nat.le_of_ble_eq_true rfl) (g_fitN (by decide) (by decide)) (fun r10 M9 => ?_)
      refine G_istore_n (lv' := [(3, .int r10), (0, .ref (ad X 0)), (2, .int x2), (4, .int x4)]) dX10_witness_53 rfl (by decide) rfl ?_
      refine G_iinc (v := x4 + 1) (lv' := [(4, .int (x4 + 1)), (3, .int r10), (0, .ref (ad X 0)), (2, .int x2)]) 3 dX10_witness_54 rfl rfl (by decide) rfl ?_
      refine G_goto (tgt := 37) dX10_witness_57 (by decide) ?_
      exact G_sub [2, 3, 1, 0] rfl (ih x2 r10 (x4 + 1) M9)
def f_X10_witness (a1 : Int32) (a2 : Int32) (M : gM) : Option (Int32 × gM) := (g_b (f_X10_isState a1 M) (fun r2 M1 => (if r2 then (if 0 ≤ a2 then (g_b (f_X10_reflexAll M1) (fun r4 M3 => (g_ck a1 2079 (if a2 < (M3.1 57 (tn a1)) then (f_X10_witness_37 FU a2 a1 (0 : Int32) M3) else (some (((-100) : Int32), M3)))))) else (some (((-100) : Int32), M1))) else (some (((-100) : Int32), M1)))))
set_option maxRecDepth 100000 in
set_option maxHeartbeats 4000000 in
theorem ok_X10_witness (a1 : Int32) (a2 : Int32) (M : gM) : g_met Y2 yX10_witness jX10_witness g_ei (fun Z => [.ref (Z.2.1 0), .int a1, .int a2]) M (f_X10_witness a1 a2 M) := by
  refine g_enter (fun Z => [(0, .ref (Z.2.1 0)), (1, .int a1), (2, .int a2)]) (by decide) rfl (fun Z => Nat.le_of_ble_eq_true rfl) (fun Z => rfl) (fun X => ?_)
  rw [f_X10_witness]
  refine G_aload_n 0 dX10_witness_0 rfl rfl ?_
  refine G_iload_n 1 dX10_witness_1 rfl rfl ?_
  refine G_cVb (As := [.int a1]) (rest := []) (ok_X10_isState a1 M) rfl (y2_0) rfl mv_X10_476 dX10_witness_2 rfl rfl (Nat.le_of_ble_eq_true rfl) (g_fitN (by decide) (by decide)) (fun r2 M1 => ?_)
  refine G_ifB_eq (tgt := 12) dX10_witness_5 (by decide) ?_ ?_
  · refine G_bipush (v := (-100)) dX10_witness_12 (by decide) ?_
    exact G_iret rfl dX10_witness_14
  · refine G_iload_n 2 dX10_witness_8 rfl rfl ?_
    refine G_if_ge (tgt := 15) dX10_witness_9 (by decide) ?_ ?_
    · refine G_aload_n 0 dX10_witness_15 rfl rfl ?_
      refine G_cVv (As := []) (rest := []) (ok_X10_reflexAll M1) rfl (y2_0) rfl mv_X10_567 dX10_witness_16 rfl rfl (Nat.le_of_ble_eq_true rfl) (g_fitN (by decide) (by decide)) (fun r4 M3 => ?_)
      refine G_iload_n 2 dX10_witness_19 rfl rfl ?_
      refine G_aload_n 0 dX10_witness_20 rfl rfl ?_
      refine G_get 87 clX10 (y2_0) fl_X10_188 dX10_witness_21 (by decide) rfl rfl ?_
      refine G_iload_n 1 dX10_witness_24 rfl rfl ?_
      refine G_iald (y2_57) dX10_witness_25 ?_
      refine G_icmp_lt (tgt := 32) dX10_witness_26 (by decide) ?_ ?_
      · refine G_iload_n 1 dX10_witness_32 rfl rfl ?_
        refine G_istore_n (lv' := [(3, .int a1), (0, .ref (ad X 0)), (1, .int a1), (2, .int a2)]) dX10_witness_33 rfl (by decide) rfl ?_
        refine G_iconst (v := 0) dX10_witness_34 (by decide) ?_
        refine G_istore (lv' := [(4, .int 0), (3, .int a1), (0, .ref (ad X 0)), (1, .int a1), (2, .int a2)]) dX10_witness_35 (by decide) rfl ?_
        exact G_sub [2, 4, 1, 0] rfl (o_X10_witness_37 FU a2 a1 (0 : Int32) M3)
      · refine G_bipush (v := (-100)) dX10_witness_29 (by decide) ?_
        exact G_iret rfl dX10_witness_31
    · refine G_bipush (v := (-100)) dX10_witness_12 (by decide) ?_
      exact G_iret rfl dX10_witness_14
-- X10_arrives
def f_X10_arrives (a1 : Int32) (M : gM) : Option (Int32 × gM) := (g_b (f_X10_isState a1 M) (fun r2 M1 => (if r2 then (g_b (f_X10_reflexAll M1) (fun r4 M3 => (g_ck a1 2079 (some ((M3.1 58 (tn a1)), M3))))) else (some (((-1) : Int32), M1)))))
set_option maxRecDepth 100000 in
set_option maxHeartbeats 4000000 in
theorem ok_X10_arrives (a1 : Int32) (M : gM) : g_met Y2 yX10_arrives jX10_arrives g_ei (fun Z => [.ref (Z.2.1 0), .int a1]) M (f_X10_arrives a1 M) := by
  refine g_enter (fun Z => [(0, .ref (Z.2.1 0)), (1, .int a1)]) (by decide) rfl (fun Z => Nat.le_of_ble_eq_true rfl) (fun Z => rfl) (fun X => ?_)
  rw [f_X10_arrives]
  refine G_aload_n 0 dX10_arrives_0 rfl rfl ?_
  refine G_iload_n 1 dX10_arrives_1 rfl rfl ?_
  refine G_cVb (As := [.int a1]) (rest := []) (ok_X10_isState a1 M) rfl (y2_0) rfl mv_X10_476 dX10_arrives_2 rfl rfl (Nat.le_of_ble_eq_true rfl) (g_fitN (by decide) (by decide)) (fun r2 M1 => ?_)
  refine G_ifB_ne (tgt := 10) dX10_arrives_5 (by decide) ?_ ?_
  · refine G_aload_n 0 dX10_arrives_10 rfl rfl ?_
    refine G_cVv (As := []) (rest := []) (ok_X10_reflexAll M1) rfl (y2_0) rfl mv_X10_567 dX10_arrives_11 rfl rfl (Nat.le_of_ble_eq_true rfl) (g_fitN (by decide) (by decide)) (fun r4 M3 => ?_)
    refine G_aload_n 0 dX10_arrives_14 rfl rfl ?_
    refine G_get 88 clX10 (y2_0) fl_X10_191 dX10_arrives_15 (by decide) rfl rfl ?_
    refine G_iload_n 1 dX10_arrives_18 rfl rfl ?_
    refine G_iald (y2_58) dX10_arrives_19 ?_
    exact G_iret rfl dX10_arrives_20
  · refine G_iconst (v := (-1)) dX10_arrives_8 (by decide) ?_
    exact G_iret rfl dX10_arrives_9
-- X10_countRows
def f_X10_countRows_137 (k82 : Int32 → Int32 → Int32 → gM → Option (Unit × gM)) : Nat → Int32 → Int32 → Int32 → Int32 → Int32 → gM → Option (Unit × gM)
  | 0, _, _, _, _, _, _ => none
  | n + 1, x1, x2, x3, x4, x5, M => (if (3 : Int32) ≤ x5 then (k82 x1 x2 (x3 + 1) M) else (g_ck (x2 + ((2079 : Int32) * x5)) 12474 (g_ck (((2079 : Int32) * x5) + x4) 12474 (g_ck (x2 + ((2079 : Int32) * x5)) 12474 (g_m (sL M 62 (tn (x2 + ((2079 : Int32) * x5))) ((M.2.1 62 (tn (x2 + ((2079 : Int32) * x5)))) + (M.2.1 62 (tn (((2079 : Int32) * x5) + x4))))) (fun M12 => (f_X10_countRows_137 k82 n x1 x2 x3 x4 (x5 + 1) M12)))))))
set_option maxRecDepth 100000 in
set_option maxHeartbeats 4000000 in
theorem o_X10_countRows_137 {X : gX} {k82 : Int32 → Int32 → Int32 → gM → Option (Unit × gM)} (hk82 : ∀ (x1 : Int32) (x2 : Int32) (x3 : Int32) (M : gM), G Y2 jX10_countRows X (g_fin g_ev) 82 [(0, .ref (ad X 0)), (1, .int x1), (2, .int x2), (3, .int x3)] [] M (k82 x1 x2 x3 M)) : ∀ (n : Nat) (x1 : Int32) (x2 : Int32) (x3 : Int32) (x4 : Int32) (x5 : Int32) (M : gM), G Y2 jX10_countRows X (g_fin g_ev) 137 [(0, .ref (ad X 0)), (1, .int x1), (2, .int x2), (3, .int x3), (4, .int x4), (5, .int x5)] [] M (f_X10_countRows_137 k82 n x1 x2 x3 x4 x5 M) := by
  intro n
  induction n with
  | zero => intro x1 x2 x3 x4 x5 M; exact G_none
  | succ n ih =>
    intro x1 x2 x3 x4 x5 M
    rw [f_X10_countRows_137]
    refine G_iload 5 dX10_countRows_137 rfl ?_
    refine G_iconst (v := 3) dX10_countRows_139 (by decide) ?_
    refine G_icmp_ge (tgt := 179) dX10_countRows_140 (by decide) ?_ ?_
    · refine G_iinc (v := x3 + 1) (lv' := [(3, .int (x3 + 1)), (0, .ref (ad X 0)), (1, .int x1), (2, .int x2), (4, .int x4), (5, .int x5)]) 3 dX10_countRows_179 rfl rfl (by decide) rfl ?_
      refine G_goto (tgt := 82) dX10_countRows_182 (by decide) ?_
      exact G_sub [1, 2, 3, 0] rfl (hk82 x1 x2 (x3 + 1) M)
    · refine G_aload_n 0 dX10_countRows_143 rfl rfl ?_
      refine G_get 92 clX10 (y2_0) fl_X10_204 dX10_countRows_144 (by decide) rfl rfl ?_
      refine G_iload_n 2 dX10_countRows_147 rfl rfl ?_
      refine G_sipush (v := 2079) dX10_countRows_148 (by decide) ?_
      refine G_iload 5 dX10_countRows_151 rfl ?_
      refine G_imul dX10_countRows_153 ?_
      refine G_iadd dX10_countRows_154 ?_
      refine G_dup2 dX10_countRows_155 rfl rfl ?_
      refine G_lald (y2_62) dX10_countRows_156 ?_
      refine G_aload_n 0 dX10_countRows_157 rfl rfl ?_
      refine G_get 92 clX10 (y2_0) fl_X10_204 dX10_countRows_158 (by decide) rfl rfl ?_
      refine G_sipush (v := 2079) dX10_countRows_161 (by decide) ?_
      refine G_iload 5 dX10_countRows_164 rfl ?_
      refine G_imul dX10_countRows_166 ?_
      refine G_iload 4 dX10_countRows_167 rfl ?_
      refine G_iadd dX10_countRows_169 ?_
      refine G_lald (y2_62) dX10_countRows_170 ?_
      refine G_ladd dX10_countRows_171 ?_
      refine G_last (y2_62) dX10_countRows_172 ?_
      refine G_m (fun M12 => ?_)
      refine G_iinc (v := x5 + 1) (lv' := [(5, .int (x5 + 1)), (0, .ref (ad X 0)), (1, .int x1), (2, .int x2), (3, .int x3), (4, .int x4)]) 5 dX10_countRows_173 rfl rfl (by decide) rfl ?_
      refine G_goto (tgt := 137) dX10_countRows_176 (by decide) ?_
      exact G_sub [1, 2, 3, 4, 5, 0] rfl (ih x1 x2 x3 x4 (x5 + 1) M12)
def f_X10_countRows_82 : Nat → Int32 → Int32 → Int32 → gM → Option (Unit × gM)
  | 0, _, _, _, _ => none
  | n + 1, x1, x2, x3, M => (g_ck x1 2079 (if (M.1 48 (tn x1)) < x3 then (some ((), M)) else (g_b (f_X10_driven x1 x3 M) (fun r11 M10 => (if r11 = ((-2) : Int32) then (g_ck x2 12474 (g_ck x2 12474 (g_m (sL M10 62 (tn x2) ((M10.2.1 62 (tn x2)) + (1 : Int64))) (fun M13 => (g_ck (x2 + (4158 : Int32)) 12474 (g_ck (x2 + (4158 : Int32)) 12474 (g_m (sL M13 62 (tn (x2 + (4158 : Int32))) ((M13.2.1 62 (tn (x2 + (4158 : Int32)))) + (1 : Int64))) (fun M14 => (f_X10_countRows_82 n x1 x2 (x3 + 1) M14))))))))) else (f_X10_countRows_137 (f_X10_countRows_82 n) FU x1 x2 x3 r11 (0 : Int32) M10))))))
set_option maxRecDepth 100000 in
set_option maxHeartbeats 4000000 in
theorem o_X10_countRows_82 {X : gX} : ∀ (n : Nat) (x1 : Int32) (x2 : Int32) (x3 : Int32) (M : gM), G Y2 jX10_countRows X (g_fin g_ev) 82 [(0, .ref (ad X 0)), (1, .int x1), (2, .int x2), (3, .int x3)] [] M (f_X10_countRows_82 n x1 x2 x3 M) := by
  intro n
  induction n with
  | zero => intro x1 x2 x3 M; exact G_none
  | succ n ih =>
    intro x1 x2 x3 M
    rw [f_X10_countRows_82]
    refine G_iload_n 3 dX10_countRows_82 rfl rfl ?_
    refine G_aload_n 0 dX10_countRows_83 rfl rfl ?_
    refine G_get 78 clX10 (y2_0) fl_X10_160 dX10_countRows_84 (by decide) rfl rfl ?_
    refine G_iload_n 1 dX10_countRows_87 rfl rfl ?_
    refine G_iald (y2_48) dX10_countRows_88 ?_
    refine G_icmp_gt (tgt := 185) dX10_countRows_89 (by decide) ?_ ?_
    · exact G_vret rfl dX10_countRows_185
    · refine G_aload_n 0 dX10_countRows_92 rfl rfl ?_
      refine G_iload_n 1 dX10_countRows_93 rfl rfl ?_
      refine G_iload_n 3 dX10_countRows_94 rfl rfl ?_
      refine G_cVi (As := [.int x1, .int x3]) (rest := []) (ok_X10_driven x1 x3 M) rfl (y2_0) rfl mv_X10_564 dX10_countRows_95 rfl rfl (Nat.le_of_ble_eq_true rfl) (g_fitN (by decide) (by decide)) (fun r11 M10 => ?_)
      refine G_istore (lv' := [(4, .int r11), (0, .ref (ad X 0)), (1, .int x1), (2, .int x2), (3, .int x3)]) dX10_countRows_98 (by decide) rfl ?_
      refine G_iload 0 dX10_countRows_100 rfl ?_
      refine G_bipush (v := (-2)) dX10_countRows_102 (by decide) ?_
      refine G_icmp_ne (tgt := 134) dX10_countRows_104 (by decide) ?_ ?_
      · refine G_iconst (v := 0) dX10_countRows_134 (by decide) ?_
        refine G_istore (lv' := [(5, .int 0), (4, .int r11), (0, .ref (ad X 0)), (1, .int x1), (2, .int x2), (3, .int x3)]) dX10_countRows_135 (by decide) rfl ?_
        exact G_sub [2, 3, 4, 5, 1, 0] rfl (o_X10_countRows_137 ih FU x1 x2 x3 r11 (0 : Int32) M10)
      · refine G_aload_n 1 dX10_countRows_107 rfl rfl ?_
        refine G_get 92 clX10 (y2_0) fl_X10_204 dX10_countRows_108 (by decide) rfl rfl ?_
        refine G_iload_n 3 dX10_countRows_111 rfl rfl ?_
        refine G_dup2 dX10_countRows_112 rfl rfl ?_
        refine G_lald (y2_62) dX10_countRows_113 ?_
        refine G_lconst (v := 1) dX10_countRows_114 (by decide) ?_
        refine G_ladd dX10_countRows_115 ?_
        refine G_last (y2_62) dX10_countRows_116 ?_
        refine G_m (fun M13 => ?_)
        refine G_aload_n 1 dX10_countRows_117 rfl rfl ?_
        refine G_get 92 clX10 (y2_0) fl_X10_204 dX10_countRows_118 (by decide) rfl rfl ?_
        refine G_iload_n 3 dX10_countRows_121 rfl rfl ?_
        refine G_sipush (v := 4158) dX10_countRows_122 (by decide) ?_
        refine G_iadd dX10_countRows_125 ?_
        refine G_dup2 dX10_countRows_126 rfl rfl ?_
        refine G_lald (y2_62) dX10_countRows_127 ?_
        refine G_lconst (v := 1) dX10_countRows_128 (by decide) ?_
        refine G_ladd dX10_countRows_129 ?_
        refine G_last (y2_62) dX10_countRows_130 ?_
        refine G_m (fun M14 => ?_)
        refine G_goto (tgt := 179) dX10_countRows_131 (by decide) ?_
        refine G_iinc (v := x3 + 1) (lv' := [(3, .int (x3 + 1)), (4, .int r11), (0, .ref (ad X 0)), (1, .int x1), (2, .int x2)]) 4 dX10_countRows_179 rfl rfl (by decide) rfl ?_
        refine G_goto (tgt := 82) dX10_countRows_182 (by decide) ?_
        exact G_sub [2, 3, 4, 0] rfl (ih x1 x2 (x3 + 1) M14)
def f_X10_countRows (a1 : Int32) (M : gM) : Option (Unit × gM) := (g_v ((6237 : Int32) + a1) (fun y1 => (g_ck y1 12474 (g_m (sL M 62 (tn y1) (0 : Int64)) (fun M2 => (g_ck (y1 + (2079 : Int32)) 12474 (g_m (sL M2 62 (tn (y1 + (2079 : Int32))) (0 : Int64)) (fun M3 => (g_ck (y1 + (4158 : Int32)) 12474 (g_m (sL M3 62 (tn (y1 + (4158 : Int32))) (0 : Int64)) (fun M4 => (g_b (f_X10_isState a1 M4) (fun r6 M5 => (if r6 then (g_b (f_X10_isOver a1 M5) (fun r8 M7 => (if r8 then (g_ck (y1 + (2079 : Int32)) 12474 (g_m (sL M7 62 (tn (y1 + (2079 : Int32))) (1 : Int64)) (fun M15 => (g_ck (y1 + (4158 : Int32)) 12474 (g_m (sL M15 62 (tn (y1 + (4158 : Int32))) (1 : Int64)) (fun M16 => (some ((), M16)))))))) else (g_ck a1 2079 (g_v (M7.1 47 (tn a1)) (fun y9 => (f_X10_countRows_82 FU a1 y1 y9 M7))))))) else (some ((), M5))))))))))))))))
set_option maxRecDepth 100000 in
set_option maxHeartbeats 4000000 in
theorem ok_X10_countRows (a1 : Int32) (M : gM) : g_met Y2 yX10_countRows jX10_countRows g_ev (fun Z => [.ref (Z.2.1 0), .int a1]) M (f_X10_countRows a1 M) := by
  refine g_enter (fun Z => [(0, .ref (Z.2.1 0)), (1, .int a1)]) (by decide) rfl (fun Z => Nat.le_of_ble_eq_true rfl) (fun Z => rfl) (fun X => ?_)
  rw [f_X10_countRows]
  refine G_sipush (v := 6237) dX10_countRows_0 (by decide) ?_
  refine G_iload_n 1 dX10_countRows_3 rfl rfl ?_
  refine G_iadd dX10_countRows_4 ?_
  refine G_vi (fun y1 => ?_)
  refine G_istore_n (lv' := [(2, .int y1), (0, .ref (ad X 0)), (1, .int a1)]) dX10_countRows_5 rfl (by decide) rfl ?_
  refine G_aload_n 1 dX10_countRows_6 rfl rfl ?_
  refine G_get 92 clX10 (y2_0) fl_X10_204 dX10_countRows_7 (by decide) rfl rfl ?_
  refine G_iload_n 0 dX10_countRows_10 rfl rfl ?_
  refine G_lconst (v := 0) dX10_countRows_11 (by decide) ?_
  refine G_last (y2_62) dX10_countRows_12 ?_
  refine G_m (fun M2 => ?_)
  refine G_aload_n 1 dX10_countRows_13 rfl rfl ?_
  refine G_get 92 clX10 (y2_0) fl_X10_204 dX10_countRows_14 (by decide) rfl rfl ?_
  refine G_iload_n 0 dX10_countRows_17 rfl rfl ?_
  refine G_sipush (v := 2079) dX10_countRows_18 (by decide) ?_
  refine G_iadd dX10_countRows_21 ?_
  refine G_lconst (v := 0) dX10_countRows_22 (by decide) ?_
  refine G_last (y2_62) dX10_countRows_23 ?_
  refine G_m (fun M3 => ?_)
  refine G_aload_n 1 dX10_countRows_24 rfl rfl ?_
  refine G_get 92 clX10 (y2_0) fl_X10_204 dX10_countRows_25 (by decide) rfl rfl ?_
  refine G_iload_n 0 dX10_countRows_28 rfl rfl ?_
  refine G_sipush (v := 4158) dX10_countRows_29 (by decide) ?_
  refine G_iadd dX10_countRows_32 ?_
  refine G_lconst (v := 0) dX10_countRows_33 (by decide) ?_
  refine G_last (y2_62) dX10_countRows_34 ?_
  refine G_m (fun M4 => ?_)
  refine G_aload_n 1 dX10_countRows_35 rfl rfl ?_
  refine G_iload_n 2 dX10_countRows_36 rfl rfl ?_
  refine G_cVb (As := [.int a1]) (rest := []) (ok_X10_isState a1 M4) rfl (y2_0) rfl mv_X10_476 dX10_countRows_37 rfl rfl (Nat.le_of_ble_eq_true rfl) (g_fitN (by decide) (by decide)) (fun r6 M5 => ?_)
  refine G_ifB_ne (tgt := 44) dX10_countRows_40 (by decide) ?_ ?_
  · refine G_aload_n 1 dX10_countRows_44 rfl rfl ?_
    refine G_iload_n 2 dX10_countRows_45 rfl rfl ?_
    refine G_cVb (As := [.int a1]) (rest := []) (ok_X10_isOver a1 M5) rfl (y2_0) rfl mv_X10_460 dX10_countRows_46 rfl rfl (Nat.le_of_ble_eq_true rfl) (g_fitN (by decide) (by decide)) (fun r8 M7 => ?_)
    refine G_ifB_eq (tgt := 75) dX10_countRows_49 (by decide) ?_ ?_
    · refine G_aload_n 1 dX10_countRows_75 rfl rfl ?_
      refine G_get 77 clX10 (y2_0) fl_X10_157 dX10_countRows_76 (by decide) rfl rfl ?_
      refine G_iload_n 2 dX10_countRows_79 rfl rfl ?_
      refine G_iald (y2_47) dX10_countRows_80 ?_
      refine G_vi (fun y9 => ?_)
      refine G_istore_n (lv' := [(3, .int y9), (2, .int y1), (0, .ref (ad X 0)), (1, .int a1)]) dX10_countRows_81 rfl (by decide) rfl ?_
      exact G_sub [2, 3, 1, 0] rfl (o_X10_countRows_82 FU a1 y1 y9 M7)
    · refine G_aload_n 1 dX10_countRows_52 rfl rfl ?_
      refine G_get 92 clX10 (y2_0) fl_X10_204 dX10_countRows_53 (by decide) rfl rfl ?_
      refine G_iload_n 0 dX10_countRows_56 rfl rfl ?_
      refine G_sipush (v := 2079) dX10_countRows_57 (by decide) ?_
      refine G_iadd dX10_countRows_60 ?_
      refine G_lconst (v := 1) dX10_countRows_61 (by decide) ?_
      refine G_last (y2_62) dX10_countRows_62 ?_
      refine G_m (fun M15 => ?_)
      refine G_aload_n 1 dX10_countRows_63 rfl rfl ?_
      refine G_get 92 clX10 (y2_0) fl_X10_204 dX10_countRows_64 (by decide) rfl rfl ?_
      refine G_iload_n 0 dX10_countRows_67 rfl rfl ?_
      refine G_sipush (v := 4158) dX10_countRows_68 (by decide) ?_
      refine G_iadd dX10_countRows_71 ?_
      refine G_lconst (v := 1) dX10_countRows_72 (by decide) ?_
      refine G_last (y2_62) dX10_countRows_73 ?_
      refine G_m (fun M16 => ?_)
      exact G_vret rfl dX10_countRows_74
  · exact G_vret rfl dX10_countRows_43
-- X10_odds
def f_X10_odds_141 (k109 : Int32 → Int32 → Int32 → Int32 → gM → Option (Int64 × gM)) : Nat → Int32 → Int32 → Int32 → Int32 → Int32 → gM → Option (Int64 × gM)
  | 0, _, _, _, _, _, _ => none
  | n + 1, x1, x2, x3, x4, x5, M => (if (6237 : Int32) ≤ x5 then (k109 x1 x2 x3 (x4 + 1) M) else (g_ck ((6237 : Int32) + x5) 12474 (g_ck x5 12474 (g_m (sL M 62 (tn x5) (M.2.1 62 (tn ((6237 : Int32) + x5)))) (fun M5 => (f_X10_odds_141 k109 n x1 x2 x3 x4 (x5 + 1) M5))))))
set_option maxRecDepth 100000 in
set_option maxHeartbeats 4000000 in
theorem o_X10_odds_141 {X : gX} {k109 : Int32 → Int32 → Int32 → Int32 → gM → Option (Int64 × gM)} (hk109 : ∀ (x1 : Int32) (x2 : Int32) (x3 : Int32) (x4 : Int32) (M : gM), G Y2 jX10_odds X (g_fin g_el) 109 [(0, .ref (ad X 0)), (1, .int x1), (2, .int x2), (3, .int x3), (4, .int x4)] [] M (k109 x1 x2 x3 x4 M)) : ∀ (n : Nat) (x1 : Int32) (x2 : Int32) (x3 : Int32) (x4 : Int32) (x5 : Int32) (M : gM), G Y2 jX10_odds X (g_fin g_el) 141 [(0, .ref (ad X 0)), (1, .int x1), (2, .int x2), (3, .int x3), (4, .int x4), (5, .int x5)] [] M (f_X10_odds_141 k109 n x1 x2 x3 x4 x5 M) := by
  intro n
  induction n with
  | zero => intro x1 x2 x3 x4 x5 M; exact G_none
  | succ n ih =>
    intro x1 x2 x3 x4 x5 M
    rw [f_X10_odds_141]
    refine G_iload 5 dX10_odds_141 rfl ?_
    refine G_sipush (v := 6237) dX10_odds_143 (by decide) ?_
    refine G_icmp_ge (tgt := 173) dX10_odds_146 (by decide) ?_ ?_
    · refine G_iinc (v := x4 + 1) (lv' := [(4, .int (x4 + 1)), (0, .ref (ad X 0)), (1, .int x1), (2, .int x2), (3, .int x3), (5, .int x5)]) 4 dX10_odds_173 rfl rfl (by decide) rfl ?_
      refine G_goto (tgt := 109) dX10_odds_176 (by decide) ?_
      exact G_sub [1, 2, 3, 4, 0] rfl (hk109 x1 x2 x3 (x4 + 1) M)
    · refine G_aload_n 0 dX10_odds_149 rfl rfl ?_
      refine G_get 92 clX10 (y2_0) fl_X10_204 dX10_odds_150 (by decide) rfl rfl ?_
      refine G_iload 5 dX10_odds_153 rfl ?_
      refine G_aload_n 0 dX10_odds_155 rfl rfl ?_
      refine G_get 92 clX10 (y2_0) fl_X10_204 dX10_odds_156 (by decide) rfl rfl ?_
      refine G_sipush (v := 6237) dX10_odds_159 (by decide) ?_
      refine G_iload 5 dX10_odds_162 rfl ?_
      refine G_iadd dX10_odds_164 ?_
      refine G_lald (y2_62) dX10_odds_165 ?_
      refine G_last (y2_62) dX10_odds_166 ?_
      refine G_m (fun M5 => ?_)
      refine G_iinc (v := x5 + 1) (lv' := [(5, .int (x5 + 1)), (0, .ref (ad X 0)), (1, .int x1), (2, .int x2), (3, .int x3), (4, .int x4)]) 5 dX10_odds_167 rfl rfl (by decide) rfl ?_
      refine G_goto (tgt := 141) dX10_odds_170 (by decide) ?_
      exact G_sub [1, 2, 3, 4, 5, 0] rfl (ih x1 x2 x3 x4 (x5 + 1) M5)
def f_X10_odds_118 (k109 : Int32 → Int32 → Int32 → Int32 → gM → Option (Int64 × gM)) : Nat → Int32 → Int32 → Int32 → Int32 → Int32 → gM → Option (Int64 × gM)
  | 0, _, _, _, _, _, _ => none
  | n + 1, x1, x2, x3, x4, x5, M => (if (2079 : Int32) ≤ x5 then (f_X10_odds_141 k109 FU x1 x2 x3 x4 (0 : Int32) M) else (g_b (f_X10_countRows x5 M) (fun r7 M6 => (f_X10_odds_118 k109 n x1 x2 x3 x4 (x5 + 1) M6))))
set_option maxRecDepth 100000 in
set_option maxHeartbeats 4000000 in
theorem o_X10_odds_118 {X : gX} {k109 : Int32 → Int32 → Int32 → Int32 → gM → Option (Int64 × gM)} (hk109 : ∀ (x1 : Int32) (x2 : Int32) (x3 : Int32) (x4 : Int32) (M : gM), G Y2 jX10_odds X (g_fin g_el) 109 [(0, .ref (ad X 0)), (1, .int x1), (2, .int x2), (3, .int x3), (4, .int x4)] [] M (k109 x1 x2 x3 x4 M)) : ∀ (n : Nat) (x1 : Int32) (x2 : Int32) (x3 : Int32) (x4 : Int32) (x5 : Int32) (M : gM), G Y2 jX10_odds X (g_fin g_el) 118 [(0, .ref (ad X 0)), (1, .int x1), (2, .int x2), (3, .int x3), (4, .int x4), (5, .int x5)] [] M (f_X10_odds_118 k109 n x1 x2 x3 x4 x5 M) := by
  intro n
  induction n with
  | zero => intro x1 x2 x3 x4 x5 M; exact G_none
  | succ n ih =>
    intro x1 x2 x3 x4 x5 M
    rw [f_X10_odds_118]
    refine G_iload 5 dX10_odds_118 rfl ?_
    refine G_sipush (v := 2079) dX10_odds_120 (by decide) ?_
    refine G_icmp_ge (tgt := 138) dX10_odds_123 (by decide) ?_ ?_
    · refine G_iconst (v := 0) dX10_odds_138 (by decide) ?_
      refine G_istore (lv' := [(5, .int 0), (0, .ref (ad X 0)), (1, .int x1), (2, .int x2), (3, .int x3), (4, .int x4)]) dX10_odds_139 (by decide) rfl ?_
      exact G_sub [1, 2, 3, 4, 5, 0] rfl (o_X10_odds_141 hk109 FU x1 x2 x3 x4 (0 : Int32) M)
    · refine G_aload_n 0 dX10_odds_126 rfl rfl ?_
      refine G_iload 5 dX10_odds_127 rfl ?_
      refine G_cVv (As := [.int x5]) (rest := []) (ok_X10_countRows x5 M) rfl (y2_0) rfl mv_X10_575 dX10_odds_129 rfl rfl (Nat.le_of_ble_eq_true rfl) (g_fitN (by decide) (by decide)) (fun r7 M6 => ?_)
      refine G_iinc (v := x5 + 1) (lv' := [(5, .int (x5 + 1)), (0, .ref (ad X 0)), (1, .int x1), (2, .int x2), (3, .int x3), (4, .int x4)]) 5 dX10_odds_132 rfl rfl (by decide) rfl ?_
      refine G_goto (tgt := 118) dX10_odds_135 (by decide) ?_
      exact G_sub [1, 2, 3, 4, 5, 0] rfl (ih x1 x2 x3 x4 (x5 + 1) M6)
def f_X10_odds_109 : Nat → Int32 → Int32 → Int32 → Int32 → gM → Option (Int64 × gM)
  | 0, _, _, _, _, _ => none
  | n + 1, x1, x2, x3, x4, M => (if x2 ≤ x4 then (g_ck (((2079 : Int32) * x3) + x1) 12474 (some ((M.2.1 62 (tn (((2079 : Int32) * x3) + x1))), M))) else (f_X10_odds_118 (f_X10_odds_109 n) FU x1 x2 x3 x4 (0 : Int32) M))
set_option maxRecDepth 100000 in
set_option maxHeartbeats 4000000 in
theorem o_X10_odds_109 {X : gX} : ∀ (n : Nat) (x1 : Int32) (x2 : Int32) (x3 : Int32) (x4 : Int32) (M : gM), G Y2 jX10_odds X (g_fin g_el) 109 [(0, .ref (ad X 0)), (1, .int x1), (2, .int x2), (3, .int x3), (4, .int x4)] [] M (f_X10_odds_109 n x1 x2 x3 x4 M) := by
  intro n
  induction n with
  | zero => intro x1 x2 x3 x4 M; exact G_none
  | succ n ih =>
    intro x1 x2 x3 x4 M
    rw [f_X10_odds_109]
    refine G_iload 4 dX10_odds_109 rfl ?_
    refine G_iload_n 2 dX10_odds_111 rfl rfl ?_
    refine G_icmp_ge (tgt := 179) dX10_odds_112 (by decide) ?_ ?_
    · refine G_aload_n 0 dX10_odds_179 rfl rfl ?_
      refine G_get 92 clX10 (y2_0) fl_X10_204 dX10_odds_180 (by decide) rfl rfl ?_
      refine G_sipush (v := 2079) dX10_odds_183 (by decide) ?_
      refine G_iload_n 3 dX10_odds_186 rfl rfl ?_
      refine G_imul dX10_odds_187 ?_
      refine G_iload_n 1 dX10_odds_188 rfl rfl ?_
      refine G_iadd dX10_odds_189 ?_
      refine G_lald (y2_62) dX10_odds_190 ?_
      exact G_lret rfl dX10_odds_191
    · refine G_iconst (v := 0) dX10_odds_115 (by decide) ?_
      refine G_istore (lv' := [(5, .int 0), (0, .ref (ad X 0)), (1, .int x1), (2, .int x2), (3, .int x3), (4, .int x4)]) dX10_odds_116 (by decide) rfl ?_
      exact G_sub [1, 2, 3, 4, 5, 0] rfl (o_X10_odds_118 ih FU x1 x2 x3 x4 (0 : Int32) M)
def f_X10_odds_87 (k38 : Int32 → Int32 → Int32 → Int32 → gM → Option (Int64 × gM)) (x1 : Int32) (x2 : Int32) (x3 : Int32) (x4 : Int32) (s1 : Int32) (s2 : Int64) (M : gM) : Option (Int64 × gM) := (g_ck s1 12474 (g_m (sL M 62 (tn s1) s2) (fun M11 => (g_ck ((4158 : Int32) + x4) 12474 (g_m (sL M11 62 (tn ((4158 : Int32) + x4)) (1 : Int64)) (fun M12 => (k38 x1 x2 x3 (x4 + 1) M12)))))))
set_option maxRecDepth 100000 in
set_option maxHeartbeats 4000000 in
theorem o_X10_odds_87 {X : gX} {k38 : Int32 → Int32 → Int32 → Int32 → gM → Option (Int64 × gM)} (hk38 : ∀ (x1 : Int32) (x2 : Int32) (x3 : Int32) (x4 : Int32) (M : gM), G Y2 jX10_odds X (g_fin g_el) 38 [(0, .ref (ad X 0)), (1, .int x1), (2, .int x2), (3, .int x3), (4, .int x4)] [] M (k38 x1 x2 x3 x4 M)) (x1 : Int32) (x2 : Int32) (x3 : Int32) (x4 : Int32) (s1 : Int32) (s2 : Int64) (M : gM) : G Y2 jX10_odds X (g_fin g_el) 87 [(0, .ref (ad X 0)), (1, .int x1), (2, .int x2), (3, .int x3), (4, .int x4)] [.long s2, .int s1, .ref (ad X 62)] M (f_X10_odds_87 k38 x1 x2 x3 x4 s1 s2 M) := by
  rw [f_X10_odds_87]
  refine G_last (y2_62) dX10_odds_87 ?_
  refine G_m (fun M11 => ?_)
  refine G_aload_n 0 dX10_odds_88 rfl rfl ?_
  refine G_get 92 clX10 (y2_0) fl_X10_204 dX10_odds_89 (by decide) rfl rfl ?_
  refine G_sipush (v := 4158) dX10_odds_92 (by decide) ?_
  refine G_iload 4 dX10_odds_95 rfl ?_
  refine G_iadd dX10_odds_97 ?_
  refine G_lconst (v := 1) dX10_odds_98 (by decide) ?_
  refine G_last (y2_62) dX10_odds_99 ?_
  refine G_m (fun M12 => ?_)
  refine G_iinc (v := x4 + 1) (lv' := [(4, .int (x4 + 1)), (0, .ref (ad X 0)), (1, .int x1), (2, .int x2), (3, .int x3)]) 4 dX10_odds_100 rfl rfl (by decide) rfl ?_
  refine G_goto (tgt := 38) dX10_odds_103 (by decide) ?_
  exact G_sub [1, 2, 3, 4, 0] rfl (hk38 x1 x2 x3 (x4 + 1) M12)
def f_X10_odds_86 (k87 : Int32 → Int32 → Int32 → Int32 → Int32 → Int64 → gM → Option (Int64 × gM)) (x1 : Int32) (x2 : Int32) (x3 : Int32) (x4 : Int32) (s1 : Int32) (M : gM) : Option (Int64 × gM) := (k87 x1 x2 x3 x4 s1 (0 : Int64) M)
set_option maxRecDepth 100000 in
set_option maxHeartbeats 4000000 in
theorem o_X10_odds_86 {X : gX} {k87 : Int32 → Int32 → Int32 → Int32 → Int32 → Int64 → gM → Option (Int64 × gM)} (hk87 : ∀ (x1 : Int32) (x2 : Int32) (x3 : Int32) (x4 : Int32) (s1 : Int32) (s2 : Int64) (M : gM), G Y2 jX10_odds X (g_fin g_el) 87 [(0, .ref (ad X 0)), (1, .int x1), (2, .int x2), (3, .int x3), (4, .int x4)] [.long s2, .int s1, .ref (ad X 62)] M (k87 x1 x2 x3 x4 s1 s2 M)) (x1 : Int32) (x2 : Int32) (x3 : Int32) (x4 : Int32) (s1 : Int32) (M : gM) : G Y2 jX10_odds X (g_fin g_el) 86 [(0, .ref (ad X 0)), (1, .int x1), (2, .int x2), (3, .int x3), (4, .int x4)] [.int s1, .ref (ad X 62)] M (f_X10_odds_86 k87 x1 x2 x3 x4 s1 M) := by
  rw [f_X10_odds_86]
  refine G_lconst (v := 0) dX10_odds_86 (by decide) ?_
  exact G_sub [0, 1, 2, 3, 4] rfl (hk87 x1 x2 x3 x4 s1 (0 : Int64) M)
def f_X10_odds_38 : Nat → Int32 → Int32 → Int32 → Int32 → gM → Option (Int64 × gM)
  | 0, _, _, _, _, _ => none
  | n + 1, x1, x2, x3, x4, M => (if (2079 : Int32) ≤ x4 then (f_X10_odds_109 FU x1 x2 x3 (0 : Int32) M) else (g_ck x4 12474 (g_m (sL M 62 (tn x4) (0 : Int64)) (fun M8 => (g_b (f_X10_isState x4 M8) (fun r10 M9 => (if r10 then (g_b (f_X10_isOver x4 M9) (fun r14 M13 => (if r14 then (f_X10_odds_87 (f_X10_odds_38 n) x1 x2 x3 x4 ((2079 : Int32) + x4) (1 : Int64) M13) else (f_X10_odds_86 (f_X10_odds_87 (f_X10_odds_38 n)) x1 x2 x3 x4 ((2079 : Int32) + x4) M13)))) else (f_X10_odds_86 (f_X10_odds_87 (f_X10_odds_38 n)) x1 x2 x3 x4 ((2079 : Int32) + x4) M9))))))))
set_option maxRecDepth 100000 in
set_option maxHeartbeats 4000000 in
theorem o_X10_odds_38 {X : gX} : ∀ (n : Nat) (x1 : Int32) (x2 : Int32) (x3 : Int32) (x4 : Int32) (M : gM), G Y2 jX10_odds X (g_fin g_el) 38 [(0, .ref (ad X 0)), (1, .int x1), (2, .int x2), (3, .int x3), (4, .int x4)] [] M (f_X10_odds_38 n x1 x2 x3 x4 M) := by
  intro n
  induction n with
  | zero => intro x1 x2 x3 x4 M; exact G_none
  | succ n ih =>
    intro x1 x2 x3 x4 M
    rw [f_X10_odds_38]
    refine G_iload 4 dX10_odds_38 rfl ?_
    refine G_sipush (v := 2079) dX10_odds_40 (by decide) ?_
    refine G_icmp_ge (tgt := 106) dX10_odds_43 (by decide) ?_ ?_
    · refine G_iconst (v := 0) dX10_odds_106 (by decide) ?_
      refine G_istore (lv' := [(4, .int 0), (0, .ref (ad X 0)), (1, .int x1), (2, .int x2), (3, .int x3)]) dX10_odds_107 (by decide) rfl ?_
      exact G_sub [1, 2, 3, 4, 0] rfl (o_X10_odds_109 FU x1 x2 x3 (0 : Int32) M)
    · refine G_aload_n 0 dX10_odds_46 rfl rfl ?_
      refine G_get 92 clX10 (y2_0) fl_X10_204 dX10_odds_47 (by decide) rfl rfl ?_
      refine G_iload 4 dX10_odds_50 rfl ?_
      refine G_lconst (v := 0) dX10_odds_52 (by decide) ?_
      refine G_last (y2_62) dX10_odds_53 ?_
      refine G_m (fun M8 => ?_)
      refine G_aload_n 0 dX10_odds_54 rfl rfl ?_
      refine G_get 92 clX10 (y2_0) fl_X10_204 dX10_odds_55 (by decide) rfl rfl ?_
      refine G_sipush (v := 2079) dX10_odds_58 (by decide) ?_
      refine G_iload 4 dX10_odds_61 rfl ?_
      refine G_iadd dX10_odds_63 ?_
      refine G_aload_n 0 dX10_odds_64 rfl rfl ?_
      refine G_iload 4 dX10_odds_65 rfl ?_
      refine G_cVb (As := [.int x4]) (rest := [.int ((2079 : Int32) + x4), .ref (ad X 62)]) (ok_X10_isState x4 M8) rfl (y2_0) rfl mv_X10_476 dX10_odds_67 rfl rfl (Nat.le_of_ble_eq_true rfl) (g_fitN (by decide) (by decide)) (fun r10 M9 => ?_)
      refine G_ifB_eq (tgt := 86) dX10_odds_70 (by decide) ?_ ?_
      · exact G_sub [0, 1, 2, 3, 4] rfl (o_X10_odds_86 (o_X10_odds_87 ih) x1 x2 x3 x4 ((2079 : Int32) + x4) M9)
      · refine G_aload_n 0 dX10_odds_73 rfl rfl ?_
        refine G_iload 4 dX10_odds_74 rfl ?_
        refine G_cVb (As := [.int x4]) (rest := [.int ((2079 : Int32) + x4), .ref (ad X 62)]) (ok_X10_isOver x4 M9) rfl (y2_0) rfl mv_X10_460 dX10_odds_76 rfl rfl (Nat.le_of_ble_eq_true rfl) (g_fitN (by decide) (by decide)) (fun r14 M13 => ?_)
        refine G_ifB_eq (tgt := 86) dX10_odds_79 (by decide) ?_ ?_
        · exact G_sub [0, 1, 2, 3, 4] rfl (o_X10_odds_86 (o_X10_odds_87 ih) x1 x2 x3 x4 ((2079 : Int32) + x4) M13)
        · refine G_lconst (v := 1) dX10_odds_82 (by decide) ?_
          refine G_goto (tgt := 87) dX10_odds_83 (by decide) ?_
          exact G_sub [0, 1, 2, 3, 4] rfl (o_X10_odds_87 ih x1 x2 x3 x4 ((2079 : Int32) + x4) (1 : Int64) M13)
def f_X10_odds (a1 : Int32) (a2 : Int32) (a3 : Int32) (M : gM) : Option (Int64 × gM) := (g_b (f_X10_isState a1 M) (fun r2 M1 => (if r2 then (if a2 < 0 then (some (((-1) : Int64), M1)) else (if (12 : Int32) < a2 then (some (((-1) : Int64), M1)) else (if a3 < 0 then (some (((-1) : Int64), M1)) else (if a3 ≤ (2 : Int32) then (g_b (f_X10_reflexAll M1) (fun r4 M3 => (f_X10_odds_38 FU a1 a2 a3 (0 : Int32) M3))) else (some (((-1) : Int64), M1)))))) else (some (((-1) : Int64), M1)))))
set_option maxRecDepth 100000 in
set_option maxHeartbeats 4000000 in
theorem ok_X10_odds (a1 : Int32) (a2 : Int32) (a3 : Int32) (M : gM) : g_met Y2 yX10_odds jX10_odds g_el (fun Z => [.ref (Z.2.1 0), .int a1, .int a2, .int a3]) M (f_X10_odds a1 a2 a3 M) := by
  refine g_enter (fun Z => [(0, .ref (Z.2.1 0)), (1, .int a1), (2, .int a2), (3, .int a3)]) (by decide) rfl (fun Z => Nat.le_of_ble_eq_true rfl) (fun Z => rfl) (fun X => ?_)
  rw [f_X10_odds]
  refine G_aload_n 0 dX10_odds_0 rfl rfl ?_
  refine G_iload_n 1 dX10_odds_1 rfl rfl ?_
  refine G_cVb (As := [.int a1]) (rest := []) (ok_X10_isState a1 M) rfl (y2_0) rfl mv_X10_476 dX10_odds_2 rfl rfl (Nat.le_of_ble_eq_true rfl) (g_fitN (by decide) (by decide)) (fun r2 M1 => ?_)
  refine G_ifB_eq (tgt := 27) dX10_odds_5 (by decide) ?_ ?_
  · refine G_ldc2 (v := (-1)) cl_X10_573 dX10_odds_27 ?_
    exact G_lret rfl dX10_odds_30
  · refine G_iload_n 2 dX10_odds_8 rfl rfl ?_
    refine G_if_lt (tgt := 27) dX10_odds_9 (by decide) ?_ ?_
    · refine G_ldc2 (v := (-1)) cl_X10_573 dX10_odds_27 ?_
      exact G_lret rfl dX10_odds_30
    · refine G_iload_n 2 dX10_odds_12 rfl rfl ?_
      refine G_bipush (v := 12) dX10_odds_13 (by decide) ?_
      refine G_icmp_gt (tgt := 27) dX10_odds_15 (by decide) ?_ ?_
      · refine G_ldc2 (v := (-1)) cl_X10_573 dX10_odds_27 ?_
        exact G_lret rfl dX10_odds_30
      · refine G_iload_n 3 dX10_odds_18 rfl rfl ?_
        refine G_if_lt (tgt := 27) dX10_odds_19 (by decide) ?_ ?_
        · refine G_ldc2 (v := (-1)) cl_X10_573 dX10_odds_27 ?_
          exact G_lret rfl dX10_odds_30
        · refine G_iload_n 3 dX10_odds_22 rfl rfl ?_
          refine G_iconst (v := 2) dX10_odds_23 (by decide) ?_
          refine G_icmp_le (tgt := 31) dX10_odds_24 (by decide) ?_ ?_
          · refine G_aload_n 0 dX10_odds_31 rfl rfl ?_
            refine G_cVv (As := []) (rest := []) (ok_X10_reflexAll M1) rfl (y2_0) rfl mv_X10_567 dX10_odds_32 rfl rfl (Nat.le_of_ble_eq_true rfl) (g_fitN (by decide) (by decide)) (fun r4 M3 => ?_)
            refine G_iconst (v := 0) dX10_odds_35 (by decide) ?_
            refine G_istore (lv' := [(4, .int 0), (0, .ref (ad X 0)), (1, .int a1), (2, .int a2), (3, .int a3)]) dX10_odds_36 (by decide) rfl ?_
            exact G_sub [1, 2, 3, 4, 0] rfl (o_X10_odds_38 FU a1 a2 a3 (0 : Int32) M3)
          · refine G_ldc2 (v := (-1)) cl_X10_573 dX10_odds_27 ?_
            exact G_lret rfl dX10_odds_30
-- X10_learn
def f_X10_learn_119 (k17 : Int32 → Int32 → Int32 → gM → Option (Int32 × gM)) (x1 : Int32) (x2 : Int32) (x4 : Int32) (s0 : Int32) (M : gM) : Option (Int32 × gM) := (if s0 = 0 then (k17 x1 x2 s0 M) else (g_ck (M.1 0 50) 40 (g_m (sI M 39 (tn (M.1 0 50)) x4) (fun M7 => (g_b (f_X10_keepOf x4 M7) (fun r9 M8 => (g_ck (M7.1 0 50) 40 (g_m (sI M8 40 (tn (M7.1 0 50)) r9) (fun M10 => (g_m (sI M10 0 50 ((M10.1 0 50) + (1 : Int32))) (fun M11 => (g_m (sI M11 0 76 (0 : Int32)) (fun M12 => (k17 x1 x2 s0 M12))))))))))))))
set_option maxRecDepth 100000 in
set_option maxHeartbeats 4000000 in
theorem o_X10_learn_119 {X : gX} {k17 : Int32 → Int32 → Int32 → gM → Option (Int32 × gM)} (hk17 : ∀ (x1 : Int32) (x2 : Int32) (x3 : Int32) (M : gM), G Y2 jX10_learn X (g_fin g_ei) 17 [(0, .ref (ad X 0)), (1, .int x1), (2, .int x2), (3, .int x3)] [] M (k17 x1 x2 x3 M)) (x1 : Int32) (x2 : Int32) (x4 : Int32) (s0 : Int32) (M : gM) : G Y2 jX10_learn X (g_fin g_ei) 119 [(0, .ref (ad X 0)), (1, .int x1), (2, .int x2), (4, .int x4)] [.int s0] M (f_X10_learn_119 k17 x1 x2 x4 s0 M) := by
  rw [f_X10_learn_119]
  refine G_istore_n (lv' := [(3, .int s0), (0, .ref (ad X 0)), (1, .int x1), (2, .int x2), (4, .int x4)]) dX10_learn_119 rfl (by decide) rfl ?_
  refine G_iload_n 0 dX10_learn_120 rfl rfl ?_
  refine G_if_ne (tgt := 127) dX10_learn_121 (by decide) ?_ ?_
  · refine G_aload_n 1 dX10_learn_127 rfl rfl ?_
    refine G_get 51 clX10 (y2_0) fl_X10_133 dX10_learn_128 (by decide) rfl rfl ?_
    refine G_aload_n 1 dX10_learn_131 rfl rfl ?_
    refine G_get 50 clX10 (y2_0) fl_X10_400 dX10_learn_132 (by decide) rfl rfl ?_
    refine G_iload 4 dX10_learn_135 rfl ?_
    refine G_iast (y2_39) dX10_learn_137 ?_
    refine G_m (fun M7 => ?_)
    refine G_aload_n 1 dX10_learn_138 rfl rfl ?_
    refine G_get 52 clX10 (y2_0) fl_X10_136 dX10_learn_139 (by decide) rfl rfl ?_
    refine G_aload_n 1 dX10_learn_142 rfl rfl ?_
    refine G_get 50 clX10 (y2_0) fl_X10_400 dX10_learn_143 (by decide) rfl rfl ?_
    refine G_aload_n 1 dX10_learn_146 rfl rfl ?_
    refine G_iload 4 dX10_learn_147 rfl ?_
    refine G_cVi (As := [.int x4]) (rest := [.int (M7.1 0 50), .ref (ad X 40)]) (ok_X10_keepOf x4 M7) rfl (y2_0) rfl mv_X10_525 dX10_learn_149 rfl rfl (Nat.le_of_ble_eq_true rfl) (g_fitN (by decide) (by decide)) (fun r9 M8 => ?_)
    refine G_iast (y2_40) dX10_learn_152 ?_
    refine G_m (fun M10 => ?_)
    refine G_aload_n 1 dX10_learn_153 rfl rfl ?_
    refine G_dup dX10_learn_154 rfl ?_
    refine G_get 50 clX10 (y2_0) fl_X10_400 dX10_learn_155 (by decide) rfl rfl ?_
    refine G_iconst (v := 1) dX10_learn_158 (by decide) ?_
    refine G_iadd dX10_learn_159 ?_
    refine G_putI 50 clX10 (y2_0) fl_X10_400 dX10_learn_160 (by decide) rfl rfl rfl ?_
    refine G_m (fun M11 => ?_)
    refine G_aload_n 1 dX10_learn_163 rfl rfl ?_
    refine G_iconst (v := 0) dX10_learn_164 (by decide) ?_
    refine G_putZ 76 clX10 (y2_0) fl_X10_498 dX10_learn_165 (by decide) rfl rfl rfl ⟨rfl, rfl⟩ ?_
    refine G_m (fun M12 => ?_)
    refine G_goto (tgt := 17) dX10_learn_168 (by decide) ?_
    exact G_sub [1, 2, 3, 0] rfl (hk17 x1 x2 s0 M12)
  · refine G_goto (tgt := 17) dX10_learn_124 (by decide) ?_
    exact G_sub [1, 2, 3, 0] rfl (hk17 x1 x2 s0 M)
def f_X10_learn_80 (k51 : Int32 → Int32 → Int32 → Int32 → Int32 → Int32 → gM → Option (Int32 × gM)) (x1 : Int32) (x2 : Int32) (x4 : Int32) (x5 : Int32) (x6 : Int32) (x7 : Int32) (M : gM) : Option (Int32 × gM) := (if (x6 - (1 : Int32)) ≤ x7 then (k51 x1 x2 x4 x5 x6 (x7 + 1) M) else (g_b (f_X10_fatal x5 M) (fun r16 M15 => (g_b (f_X10_driven x5 r16 M15) (fun r18 M17 => (k51 x1 x2 x4 r18 x6 (x7 + 1) M17))))))
set_option maxRecDepth 100000 in
set_option maxHeartbeats 4000000 in
theorem o_X10_learn_80 {X : gX} {k51 : Int32 → Int32 → Int32 → Int32 → Int32 → Int32 → gM → Option (Int32 × gM)} (hk51 : ∀ (x1 : Int32) (x2 : Int32) (x4 : Int32) (x5 : Int32) (x6 : Int32) (x7 : Int32) (M : gM), G Y2 jX10_learn X (g_fin g_ei) 51 [(0, .ref (ad X 0)), (1, .int x1), (2, .int x2), (4, .int x4), (5, .int x5), (6, .int x6), (7, .int x7)] [] M (k51 x1 x2 x4 x5 x6 x7 M)) (x1 : Int32) (x2 : Int32) (x4 : Int32) (x5 : Int32) (x6 : Int32) (x7 : Int32) (M : gM) : G Y2 jX10_learn X (g_fin g_ei) 80 [(0, .ref (ad X 0)), (1, .int x1), (2, .int x2), (4, .int x4), (5, .int x5), (6, .int x6), (7, .int x7)] [] M (f_X10_learn_80 k51 x1 x2 x4 x5 x6 x7 M) := by
  rw [f_X10_learn_80]
  refine G_iload 6 dX10_learn_80 rfl ?_
  refine G_iload 5 dX10_learn_82 rfl ?_
  refine G_iconst (v := 1) dX10_learn_84 (by decide) ?_
  refine G_isub dX10_learn_85 ?_
  refine G_icmp_ge (tgt := 103) dX10_learn_86 (by decide) ?_ ?_
  · refine G_iinc (v := x7 + 1) (lv' := [(7, .int (x7 + 1)), (0, .ref (ad X 0)), (1, .int x1), (2, .int x2), (4, .int x4), (5, .int x5), (6, .int x6)]) 6 dX10_learn_103 rfl rfl (by decide) rfl ?_
    refine G_goto (tgt := 51) dX10_learn_106 (by decide) ?_
    exact G_sub [1, 2, 3, 4, 5, 6, 0] rfl (hk51 x1 x2 x4 x5 x6 (x7 + 1) M)
  · refine G_aload_n 0 dX10_learn_89 rfl rfl ?_
    refine G_iload 4 dX10_learn_90 rfl ?_
    refine G_aload_n 0 dX10_learn_92 rfl rfl ?_
    refine G_iload 4 dX10_learn_93 rfl ?_
    refine G_cVi (As := [.int x5]) (rest := [.int x5, .ref (ad X 0)]) (ok_X10_fatal x5 M) rfl (y2_0) rfl mv_X10_570 dX10_learn_95 rfl rfl (Nat.le_of_ble_eq_true rfl) (g_fitN (by decide) (by decide)) (fun r16 M15 => ?_)
    refine G_cVi (As := [.int x5, .int r16]) (rest := []) (ok_X10_driven x5 r16 M15) rfl (y2_0) rfl mv_X10_564 dX10_learn_98 rfl rfl (Nat.le_of_ble_eq_true rfl) (g_fitN (by decide) (by decide)) (fun r18 M17 => ?_)
    refine G_istore (lv' := [(5, .int r18), (0, .ref (ad X 0)), (1, .int x1), (2, .int x2), (4, .int x4), (6, .int x6), (7, .int x7)]) dX10_learn_101 (by decide) rfl ?_
    refine G_iinc (v := x7 + 1) (lv' := [(7, .int (x7 + 1)), (5, .int r18), (0, .ref (ad X 0)), (1, .int x1), (2, .int x2), (4, .int x4), (6, .int x6)]) 6 dX10_learn_103 rfl rfl (by decide) rfl ?_
    refine G_goto (tgt := 51) dX10_learn_106 (by decide) ?_
    exact G_sub [2, 3, 4, 5, 1, 6, 0] rfl (hk51 x1 x2 x4 r18 x6 (x7 + 1) M17)
def f_X10_learn_51 (k17 : Int32 → Int32 → Int32 → gM → Option (Int32 × gM)) : Nat → Int32 → Int32 → Int32 → Int32 → Int32 → Int32 → gM → Option (Int32 × gM)
  | 0, _, _, _, _, _, _, _ => none
  | n + 1, x1, x2, x4, x5, x6, x7, M => (if x6 ≤ x7 then (if x4 < 0 then (f_X10_learn_119 k17 x1 x2 x4 (0 : Int32) M) else (f_X10_learn_119 k17 x1 x2 x4 (1 : Int32) M)) else (g_b (f_X10_isSafe x5 M) (fun r14 M13 => (if r14 then (g_b (f_X10_learnedAt x5 M13) (fun r20 M19 => (if 0 ≤ r20 then (f_X10_learn_80 (f_X10_learn_51 k17 n) x1 x2 x4 x5 x6 x7 M19) else (f_X10_learn_80 (f_X10_learn_51 k17 n) x1 x2 x5 x5 x6 x7 M19)))) else (f_X10_learn_80 (f_X10_learn_51 k17 n) x1 x2 x4 x5 x6 x7 M13)))))
set_option maxRecDepth 100000 in
set_option maxHeartbeats 4000000 in
theorem o_X10_learn_51 {X : gX} {k17 : Int32 → Int32 → Int32 → gM → Option (Int32 × gM)} (hk17 : ∀ (x1 : Int32) (x2 : Int32) (x3 : Int32) (M : gM), G Y2 jX10_learn X (g_fin g_ei) 17 [(0, .ref (ad X 0)), (1, .int x1), (2, .int x2), (3, .int x3)] [] M (k17 x1 x2 x3 M)) : ∀ (n : Nat) (x1 : Int32) (x2 : Int32) (x4 : Int32) (x5 : Int32) (x6 : Int32) (x7 : Int32) (M : gM), G Y2 jX10_learn X (g_fin g_ei) 51 [(0, .ref (ad X 0)), (1, .int x1), (2, .int x2), (4, .int x4), (5, .int x5), (6, .int x6), (7, .int x7)] [] M (f_X10_learn_51 k17 n x1 x2 x4 x5 x6 x7 M) := by
  intro n
  induction n with
  | zero => intro x1 x2 x4 x5 x6 x7 M; exact G_none
  | succ n ih =>
    intro x1 x2 x4 x5 x6 x7 M
    rw [f_X10_learn_51]
    refine G_iload 6 dX10_learn_51 rfl ?_
    refine G_iload 5 dX10_learn_53 rfl ?_
    refine G_icmp_ge (tgt := 109) dX10_learn_55 (by decide) ?_ ?_
    · refine G_iload 3 dX10_learn_109 rfl ?_
      refine G_if_lt (tgt := 118) dX10_learn_111 (by decide) ?_ ?_
      · refine G_iconst (v := 0) dX10_learn_118 (by decide) ?_
        exact G_sub [0, 1, 2, 3] rfl (o_X10_learn_119 hk17 x1 x2 x4 (0 : Int32) M)
      · refine G_iconst (v := 1) dX10_learn_114 (by decide) ?_
        refine G_goto (tgt := 119) dX10_learn_115 (by decide) ?_
        exact G_sub [0, 1, 2, 3] rfl (o_X10_learn_119 hk17 x1 x2 x4 (1 : Int32) M)
    · refine G_aload_n 0 dX10_learn_58 rfl rfl ?_
      refine G_iload 4 dX10_learn_59 rfl ?_
      refine G_cVb (As := [.int x5]) (rest := []) (ok_X10_isSafe x5 M) rfl (y2_0) rfl mv_X10_519 dX10_learn_61 rfl rfl (Nat.le_of_ble_eq_true rfl) (g_fitN (by decide) (by decide)) (fun r14 M13 => ?_)
      refine G_ifB_eq (tgt := 80) dX10_learn_64 (by decide) ?_ ?_
      · exact G_sub [0, 1, 2, 3, 4, 5, 6] rfl (o_X10_learn_80 ih x1 x2 x4 x5 x6 x7 M13)
      · refine G_aload_n 0 dX10_learn_67 rfl rfl ?_
        refine G_iload 4 dX10_learn_68 rfl ?_
        refine G_cVi (As := [.int x5]) (rest := []) (ok_X10_learnedAt x5 M13) rfl (y2_0) rfl mv_X10_552 dX10_learn_70 rfl rfl (Nat.le_of_ble_eq_true rfl) (g_fitN (by decide) (by decide)) (fun r20 M19 => ?_)
        refine G_if_ge (tgt := 80) dX10_learn_73 (by decide) ?_ ?_
        · exact G_sub [0, 1, 2, 3, 4, 5, 6] rfl (o_X10_learn_80 ih x1 x2 x4 x5 x6 x7 M19)
        · refine G_iload 4 dX10_learn_76 rfl ?_
          refine G_istore (lv' := [(4, .int x5), (0, .ref (ad X 0)), (1, .int x1), (2, .int x2), (5, .int x5), (6, .int x6), (7, .int x7)]) dX10_learn_78 (by decide) rfl ?_
          exact G_sub [1, 2, 3, 0, 4, 5, 6] rfl (o_X10_learn_80 ih x1 x2 x5 x5 x6 x7 M19)
def f_X10_learn_17 : Nat → Int32 → Int32 → Int32 → gM → Option (Int32 × gM)
  | 0, _, _, _, _ => none
  | n + 1, x1, x2, x3, M => (if x3 = 0 then (some (((M.1 0 50) - x2), M)) else (if (40 : Int32) ≤ (M.1 0 50) then (some (((M.1 0 50) - x2), M)) else (g_b (f_X10_reflexAll M) (fun r5 M4 => (g_ck x1 2079 (g_v (M4.1 57 (tn x1)) (fun y6 => (f_X10_learn_51 (f_X10_learn_17 n) FU x1 x2 ((-1) : Int32) x1 y6 (0 : Int32) M4))))))))
set_option maxRecDepth 100000 in
set_option maxHeartbeats 4000000 in
theorem o_X10_learn_17 {X : gX} : ∀ (n : Nat) (x1 : Int32) (x2 : Int32) (x3 : Int32) (M : gM), G Y2 jX10_learn X (g_fin g_ei) 17 [(0, .ref (ad X 0)), (1, .int x1), (2, .int x2), (3, .int x3)] [] M (f_X10_learn_17 n x1 x2 x3 M) := by
  intro n
  induction n with
  | zero => intro x1 x2 x3 M; exact G_none
  | succ n ih =>
    intro x1 x2 x3 M
    rw [f_X10_learn_17]
    refine G_iload_n 3 dX10_learn_17 rfl rfl ?_
    refine G_if_eq (tgt := 171) dX10_learn_18 (by decide) ?_ ?_
    · refine G_aload_n 0 dX10_learn_171 rfl rfl ?_
      refine G_get 50 clX10 (y2_0) fl_X10_400 dX10_learn_172 (by decide) rfl rfl ?_
      refine G_iload_n 2 dX10_learn_175 rfl rfl ?_
      refine G_isub dX10_learn_176 ?_
      exact G_iret rfl dX10_learn_177
    · refine G_aload_n 0 dX10_learn_21 rfl rfl ?_
      refine G_get 50 clX10 (y2_0) fl_X10_400 dX10_learn_22 (by decide) rfl rfl ?_
      refine G_bipush (v := 40) dX10_learn_25 (by decide) ?_
      refine G_icmp_ge (tgt := 171) dX10_learn_27 (by decide) ?_ ?_
      · refine G_aload_n 0 dX10_learn_171 rfl rfl ?_
        refine G_get 50 clX10 (y2_0) fl_X10_400 dX10_learn_172 (by decide) rfl rfl ?_
        refine G_iload_n 2 dX10_learn_175 rfl rfl ?_
        refine G_isub dX10_learn_176 ?_
        exact G_iret rfl dX10_learn_177
      · refine G_aload_n 0 dX10_learn_30 rfl rfl ?_
        refine G_cVv (As := []) (rest := []) (ok_X10_reflexAll M) rfl (y2_0) rfl mv_X10_567 dX10_learn_31 rfl rfl (Nat.le_of_ble_eq_true rfl) (g_fitN (by decide) (by decide)) (fun r5 M4 => ?_)
        refine G_iconst (v := (-1)) dX10_learn_34 (by decide) ?_
        refine G_istore (lv' := [(4, .int (-1)), (0, .ref (ad X 0)), (1, .int x1), (2, .int x2), (3, .int x3)]) dX10_learn_35 (by decide) rfl ?_
        refine G_iload_n 2 dX10_learn_37 rfl rfl ?_
        refine G_istore (lv' := [(5, .int x1), (4, .int (-1)), (0, .ref (ad X 0)), (1, .int x1), (2, .int x2), (3, .int x3)]) dX10_learn_38 (by decide) rfl ?_
        refine G_aload_n 2 dX10_learn_40 rfl rfl ?_
        refine G_get 87 clX10 (y2_0) fl_X10_188 dX10_learn_41 (by decide) rfl rfl ?_
        refine G_iload_n 3 dX10_learn_44 rfl rfl ?_
        refine G_iald (y2_57) dX10_learn_45 ?_
        refine G_vi (fun y6 => ?_)
        refine G_istore (lv' := [(6, .int y6), (5, .int x1), (4, .int (-1)), (0, .ref (ad X 0)), (1, .int x1), (2, .int x2), (3, .int x3)]) dX10_learn_46 (by decide) rfl ?_
        refine G_iconst (v := 0) dX10_learn_48 (by decide) ?_
        refine G_istore (lv' := [(7, .int 0), (6, .int y6), (5, .int x1), (4, .int (-1)), (0, .ref (ad X 0)), (1, .int x1), (2, .int x2), (3, .int x3)]) dX10_learn_49 (by decide) rfl ?_
        exact G_sub [4, 5, 6, 3, 2, 1, 0] rfl (o_X10_learn_51 ih FU x1 x2 ((-1) : Int32) x1 y6 (0 : Int32) M4)
def f_X10_learn (a1 : Int32) (M : gM) : Option (Int32 × gM) := (g_b (f_X10_isState a1 M) (fun r2 M1 => (if r2 then (g_v (M1.1 0 50) (fun y3 => (f_X10_learn_17 FU a1 y3 (1 : Int32) M1))) else (some (((-1) : Int32), M1)))))
set_option maxRecDepth 100000 in
set_option maxHeartbeats 4000000 in
theorem ok_X10_learn (a1 : Int32) (M : gM) : g_met Y2 yX10_learn jX10_learn g_ei (fun Z => [.ref (Z.2.1 0), .int a1]) M (f_X10_learn a1 M) := by
  refine g_enter (fun Z => [(0, .ref (Z.2.1 0)), (1, .int a1)]) (by decide) rfl (fun Z => Nat.le_of_ble_eq_true rfl) (fun Z => rfl) (fun X => ?_)
  rw [f_X10_learn]
  refine G_aload_n 0 dX10_learn_0 rfl rfl ?_
  refine G_iload_n 1 dX10_learn_1 rfl rfl ?_
  refine G_cVb (As := [.int a1]) (rest := []) (ok_X10_isState a1 M) rfl (y2_0) rfl mv_X10_476 dX10_learn_2 rfl rfl (Nat.le_of_ble_eq_true rfl) (g_fitN (by decide) (by decide)) (fun r2 M1 => ?_)
  refine G_ifB_ne (tgt := 10) dX10_learn_5 (by decide) ?_ ?_
  · refine G_aload_n 0 dX10_learn_10 rfl rfl ?_
    refine G_get 50 clX10 (y2_0) fl_X10_400 dX10_learn_11 (by decide) rfl rfl ?_
    refine G_vi (fun y3 => ?_)
    refine G_istore_n (lv' := [(2, .int y3), (0, .ref (ad X 0)), (1, .int a1)]) dX10_learn_14 rfl (by decide) rfl ?_
    refine G_iconst (v := 1) dX10_learn_15 (by decide) ?_
    refine G_istore_n (lv' := [(3, .int 1), (2, .int y3), (0, .ref (ad X 0)), (1, .int a1)]) dX10_learn_16 rfl (by decide) rfl ?_
    exact G_sub [2, 3, 1, 0] rfl (o_X10_learn_17 FU a1 y3 (1 : Int32) M1)
  · refine G_iconst (v := (-1)) dX10_learn_8 (by decide) ?_
    exact G_iret rfl dX10_learn_9
-- X10_learned
def f_X10_learned (a1 : Int32) (M : gM) : Option (Int32 × gM) := (if a1 < 0 then (some (((-1) : Int32), M)) else (if (M.1 0 50) ≤ a1 then (some (((-1) : Int32), M)) else (g_ck a1 40 (some ((M.1 39 (tn a1)), M)))))
set_option maxRecDepth 100000 in
set_option maxHeartbeats 4000000 in
theorem ok_X10_learned (a1 : Int32) (M : gM) : g_met Y2 yX10_learned jX10_learned g_ei (fun Z => [.ref (Z.2.1 0), .int a1]) M (f_X10_learned a1 M) := by
  refine g_enter (fun Z => [(0, .ref (Z.2.1 0)), (1, .int a1)]) (by decide) rfl (fun Z => Nat.le_of_ble_eq_true rfl) (fun Z => rfl) (fun X => ?_)
  rw [f_X10_learned]
  refine G_iload_n 1 dX10_learned_0 rfl rfl ?_
  refine G_if_lt (tgt := 21) dX10_learned_1 (by decide) ?_ ?_
  · refine G_iconst (v := (-1)) dX10_learned_21 (by decide) ?_
    exact G_iret rfl dX10_learned_22
  · refine G_iload_n 1 dX10_learned_4 rfl rfl ?_
    refine G_aload_n 0 dX10_learned_5 rfl rfl ?_
    refine G_get 50 clX10 (y2_0) fl_X10_400 dX10_learned_6 (by decide) rfl rfl ?_
    refine G_icmp_ge (tgt := 21) dX10_learned_9 (by decide) ?_ ?_
    · refine G_iconst (v := (-1)) dX10_learned_21 (by decide) ?_
      exact G_iret rfl dX10_learned_22
    · refine G_aload_n 0 dX10_learned_12 rfl rfl ?_
      refine G_get 51 clX10 (y2_0) fl_X10_133 dX10_learned_13 (by decide) rfl rfl ?_
      refine G_iload_n 1 dX10_learned_16 rfl rfl ?_
      refine G_iald (y2_39) dX10_learned_17 ?_
      refine G_goto (tgt := 22) dX10_learned_18 (by decide) ?_
      exact G_iret rfl dX10_learned_22
-- X10_forget
def f_X10_forget (M : gM) : Option (Int32 × gM) := (g_v (M.1 0 50) (fun y1 => (g_m (sI M 0 50 (0 : Int32)) (fun M2 => (g_m (sI M2 0 76 (0 : Int32)) (fun M3 => (some (y1, M3))))))))
set_option maxRecDepth 100000 in
set_option maxHeartbeats 4000000 in
theorem ok_X10_forget (M : gM) : g_met Y2 yX10_forget jX10_forget g_ei (fun Z => [.ref (Z.2.1 0)]) M (f_X10_forget M) := by
  refine g_enter (fun Z => [(0, .ref (Z.2.1 0))]) (by decide) rfl (fun Z => Nat.le_of_ble_eq_true rfl) (fun Z => rfl) (fun X => ?_)
  rw [f_X10_forget]
  refine G_aload_n 0 dX10_forget_0 rfl rfl ?_
  refine G_get 50 clX10 (y2_0) fl_X10_400 dX10_forget_1 (by decide) rfl rfl ?_
  refine G_vi (fun y1 => ?_)
  refine G_istore_n (lv' := [(1, .int y1), (0, .ref (ad X 0))]) dX10_forget_4 rfl (by decide) rfl ?_
  refine G_aload_n 1 dX10_forget_5 rfl rfl ?_
  refine G_iconst (v := 0) dX10_forget_6 (by decide) ?_
  refine G_putI 50 clX10 (y2_0) fl_X10_400 dX10_forget_7 (by decide) rfl rfl rfl ?_
  refine G_m (fun M2 => ?_)
  refine G_aload_n 1 dX10_forget_10 rfl rfl ?_
  refine G_iconst (v := 0) dX10_forget_11 (by decide) ?_
  refine G_putZ 76 clX10 (y2_0) fl_X10_498 dX10_forget_12 (by decide) rfl rfl rfl ⟨rfl, rfl⟩ ?_
  refine G_m (fun M3 => ?_)
  refine G_iload_n 0 dX10_forget_15 rfl rfl ?_
  exact G_iret rfl dX10_forget_16
-- X10_stand
def f_X10_stand (a1 : Int32) (M : gM) : Option (Bool × gM) := (g_b (f_X10_isState a1 M) (fun r2 M1 => (if r2 then (g_m (sI M1 0 53 (1 : Int32)) (fun M3 => (g_m (sI M3 0 54 (0 : Int32)) (fun M4 => (g_ck (0 : Int32) 201 (g_m (sI M4 41 (tn (0 : Int32)) a1) (fun M5 => (some (true, M5))))))))) else (some (false, M1)))))
set_option maxRecDepth 100000 in
set_option maxHeartbeats 4000000 in
theorem ok_X10_stand (a1 : Int32) (M : gM) : g_met Y2 yX10_stand jX10_stand g_eb (fun Z => [.ref (Z.2.1 0), .int a1]) M (f_X10_stand a1 M) := by
  refine g_enter (fun Z => [(0, .ref (Z.2.1 0)), (1, .int a1)]) (by decide) rfl (fun Z => Nat.le_of_ble_eq_true rfl) (fun Z => rfl) (fun X => ?_)
  rw [f_X10_stand]
  refine G_aload_n 0 dX10_stand_0 rfl rfl ?_
  refine G_iload_n 1 dX10_stand_1 rfl rfl ?_
  refine G_cVb (As := [.int a1]) (rest := []) (ok_X10_isState a1 M) rfl (y2_0) rfl mv_X10_476 dX10_stand_2 rfl rfl (Nat.le_of_ble_eq_true rfl) (g_fitN (by decide) (by decide)) (fun r2 M1 => ?_)
  refine G_ifB_ne (tgt := 10) dX10_stand_5 (by decide) ?_ ?_
  · refine G_aload_n 0 dX10_stand_10 rfl rfl ?_
    refine G_iconst (v := 1) dX10_stand_11 (by decide) ?_
    refine G_putZ 53 clX10 (y2_0) fl_X10_403 dX10_stand_12 (by decide) rfl rfl rfl ⟨rfl, rfl⟩ ?_
    refine G_m (fun M3 => ?_)
    refine G_aload_n 0 dX10_stand_15 rfl rfl ?_
    refine G_iconst (v := 0) dX10_stand_16 (by decide) ?_
    refine G_putI 54 clX10 (y2_0) fl_X10_407 dX10_stand_17 (by decide) rfl rfl rfl ?_
    refine G_m (fun M4 => ?_)
    refine G_aload_n 0 dX10_stand_20 rfl rfl ?_
    refine G_get 55 clX10 (y2_0) fl_X10_139 dX10_stand_21 (by decide) rfl rfl ?_
    refine G_iconst (v := 0) dX10_stand_24 (by decide) ?_
    refine G_iload_n 1 dX10_stand_25 rfl rfl ?_
    refine G_iast (y2_41) dX10_stand_26 ?_
    refine G_m (fun M5 => ?_)
    refine G_iconst (v := 1) dX10_stand_27 (by decide) ?_
    exact G_zret (b := true) rfl dX10_stand_28
  · refine G_iconst (v := 0) dX10_stand_8 (by decide) ?_
    exact G_zret (b := false) rfl dX10_stand_9
-- X10_beat
def f_X10_beat_21 (x1 : Int32) (x2 : Int32) (s0 : Int32) (M : gM) : Option (Int32 × gM) := (if (M.1 0 53) = 0 then (g_b (f_X10_raise (1 : Int32) M) (fun r2 M1 => (some (r2, M1)))) else (if s0 = ((-2) : Int32) then (g_b (f_X10_raise (1 : Int32) M) (fun r4 M3 => (some (r4, M3)))) else (g_b (f_X10_isOver s0 M) (fun r6 M5 => (if r6 then (g_b (f_X10_raise (1 : Int32) M5) (fun r8 M7 => (some (r8, M7)))) else (if (M5.1 0 54) = (200 : Int32) then (g_b (f_X10_raise (1 : Int32) M5) (fun r29 M28 => (some (r29, M28)))) else (g_b (f_X10_lay M5) (fun r10 M9 => (g_b (f_X10_isAct x1 M9) (fun r12 M11 => (if r12 then (g_ck (((6 : Int32) * s0) + x1) 12474 (if (M11.1 49 (tn (((6 : Int32) * s0) + x1))) = 0 then (g_b (f_X10_raise (2 : Int32) M11) (fun r16 M15 => (some (r16, M15)))) else (g_ck s0 2079 (if x2 < (M11.1 47 (tn s0)) then (g_b (f_X10_raise (2 : Int32) M11) (fun r18 M17 => (some (r18, M17)))) else (g_ck s0 2079 (if x2 ≤ (M11.1 48 (tn s0)) then (g_m (sI M11 0 0 (0 : Int32)) (fun M19 => (g_ck (M19.1 0 54) 200 (g_m (sI M19 42 (tn (M19.1 0 54)) x1) (fun M20 => (g_ck (M20.1 0 54) 200 (g_m (sI M20 43 (tn (M20.1 0 54)) x2) (fun M21 => (g_m (sI M21 0 54 ((M21.1 0 54) + (1 : Int32))) (fun M22 => (g_b (f_X10_leads s0 x1 x2 M22) (fun r24 M23 => (g_ck (M22.1 0 54) 201 (g_m (sI M23 41 (tn (M22.1 0 54)) r24) (fun M25 => (g_ck (M25.1 0 54) 201 (some ((M25.1 41 (tn (M25.1 0 54))), M25)))))))))))))))))) else (g_b (f_X10_raise (2 : Int32) M11) (fun r27 M26 => (some (r27, M26)))))))))) else (g_b (f_X10_raise (2 : Int32) M11) (fun r14 M13 => (some (r14, M13)))))))))))))))
set_option maxRecDepth 100000 in
set_option maxHeartbeats 4000000 in
theorem o_X10_beat_21 {X : gX} (x1 : Int32) (x2 : Int32) (s0 : Int32) (M : gM) : G Y2 jX10_beat X (g_fin g_ei) 21 [(0, .ref (ad X 0)), (1, .int x1), (2, .int x2)] [.int s0] M (f_X10_beat_21 x1 x2 s0 M) := by
  rw [f_X10_beat_21]
  refine G_istore_n (lv' := [(3, .int s0), (0, .ref (ad X 0)), (1, .int x1), (2, .int x2)]) dX10_beat_21 rfl (by decide) rfl ?_
  refine G_aload_n 1 dX10_beat_22 rfl rfl ?_
  refine G_get 53 clX10 (y2_0) fl_X10_403 dX10_beat_23 (by decide) rfl rfl ?_
  refine G_if_eq (tgt := 53) dX10_beat_26 (by decide) ?_ ?_
  · refine G_aload_n 1 dX10_beat_53 rfl rfl ?_
    refine G_iconst (v := 1) dX10_beat_54 (by decide) ?_
    refine G_cVi (As := [.int 1]) (rest := []) (ok_X10_raise (1 : Int32) M) rfl (y2_0) rfl mv_X10_578 dX10_beat_55 rfl rfl (Nat.le_of_ble_eq_true rfl) (g_fitN (by decide) (by decide)) (fun r2 M1 => ?_)
    exact G_iret rfl dX10_beat_58
  · refine G_iload_n 0 dX10_beat_29 rfl rfl ?_
    refine G_bipush (v := (-2)) dX10_beat_30 (by decide) ?_
    refine G_icmp_eq (tgt := 53) dX10_beat_32 (by decide) ?_ ?_
    · refine G_aload_n 1 dX10_beat_53 rfl rfl ?_
      refine G_iconst (v := 1) dX10_beat_54 (by decide) ?_
      refine G_cVi (As := [.int 1]) (rest := []) (ok_X10_raise (1 : Int32) M) rfl (y2_0) rfl mv_X10_578 dX10_beat_55 rfl rfl (Nat.le_of_ble_eq_true rfl) (g_fitN (by decide) (by decide)) (fun r4 M3 => ?_)
      exact G_iret rfl dX10_beat_58
    · refine G_aload_n 1 dX10_beat_35 rfl rfl ?_
      refine G_iload_n 0 dX10_beat_36 rfl rfl ?_
      refine G_cVb (As := [.int s0]) (rest := []) (ok_X10_isOver s0 M) rfl (y2_0) rfl mv_X10_460 dX10_beat_37 rfl rfl (Nat.le_of_ble_eq_true rfl) (g_fitN (by decide) (by decide)) (fun r6 M5 => ?_)
      refine G_ifB_ne (tgt := 53) dX10_beat_40 (by decide) ?_ ?_
      · refine G_aload_n 1 dX10_beat_53 rfl rfl ?_
        refine G_iconst (v := 1) dX10_beat_54 (by decide) ?_
        refine G_cVi (As := [.int 1]) (rest := []) (ok_X10_raise (1 : Int32) M5) rfl (y2_0) rfl mv_X10_578 dX10_beat_55 rfl rfl (Nat.le_of_ble_eq_true rfl) (g_fitN (by decide) (by decide)) (fun r8 M7 => ?_)
        exact G_iret rfl dX10_beat_58
      · refine G_aload_n 1 dX10_beat_43 rfl rfl ?_
        refine G_get 54 clX10 (y2_0) fl_X10_407 dX10_beat_44 (by decide) rfl rfl ?_
        refine G_sipush (v := 200) dX10_beat_47 (by decide) ?_
        refine G_icmp_ne (tgt := 59) dX10_beat_50 (by decide) ?_ ?_
        · refine G_aload_n 1 dX10_beat_59 rfl rfl ?_
          refine G_cVv (As := []) (rest := []) (ok_X10_lay M5) rfl (y2_0) rfl mv_X10_516 dX10_beat_60 rfl rfl (Nat.le_of_ble_eq_true rfl) (g_fitN (by decide) (by decide)) (fun r10 M9 => ?_)
          refine G_aload_n 1 dX10_beat_63 rfl rfl ?_
          refine G_iload_n 2 dX10_beat_64 rfl rfl ?_
          refine G_cVb (As := [.int x1]) (rest := []) (ok_X10_isAct x1 M9) rfl (y2_0) rfl mv_X10_513 dX10_beat_65 rfl rfl (Nat.le_of_ble_eq_true rfl) (g_fitN (by decide) (by decide)) (fun r12 M11 => ?_)
          refine G_ifB_eq (tgt := 105) dX10_beat_68 (by decide) ?_ ?_
          · refine G_aload_n 1 dX10_beat_105 rfl rfl ?_
            refine G_iconst (v := 2) dX10_beat_106 (by decide) ?_
            refine G_cVi (As := [.int 2]) (rest := []) (ok_X10_raise (2 : Int32) M11) rfl (y2_0) rfl mv_X10_578 dX10_beat_107 rfl rfl (Nat.le_of_ble_eq_true rfl) (g_fitN (by decide) (by decide)) (fun r14 M13 => ?_)
            exact G_iret rfl dX10_beat_110
          · refine G_aload_n 1 dX10_beat_71 rfl rfl ?_
            refine G_get 79 clX10 (y2_0) fl_X10_163 dX10_beat_72 (by decide) rfl rfl ?_
            refine G_bipush (v := 6) dX10_beat_75 (by decide) ?_
            refine G_iload_n 0 dX10_beat_77 rfl rfl ?_
            refine G_imul dX10_beat_78 ?_
            refine G_iload_n 2 dX10_beat_79 rfl rfl ?_
            refine G_iadd dX10_beat_80 ?_
            refine G_zald (y2_49) dX10_beat_81 ?_
            refine G_if_eq (tgt := 105) dX10_beat_82 (by decide) ?_ ?_
            · refine G_aload_n 1 dX10_beat_105 rfl rfl ?_
              refine G_iconst (v := 2) dX10_beat_106 (by decide) ?_
              refine G_cVi (As := [.int 2]) (rest := []) (ok_X10_raise (2 : Int32) M11) rfl (y2_0) rfl mv_X10_578 dX10_beat_107 rfl rfl (Nat.le_of_ble_eq_true rfl) (g_fitN (by decide) (by decide)) (fun r16 M15 => ?_)
              exact G_iret rfl dX10_beat_110
            · refine G_iload_n 3 dX10_beat_85 rfl rfl ?_
              refine G_aload_n 1 dX10_beat_86 rfl rfl ?_
              refine G_get 77 clX10 (y2_0) fl_X10_157 dX10_beat_87 (by decide) rfl rfl ?_
              refine G_iload_n 0 dX10_beat_90 rfl rfl ?_
              refine G_iald (y2_47) dX10_beat_91 ?_
              refine G_icmp_lt (tgt := 105) dX10_beat_92 (by decide) ?_ ?_
              · refine G_aload_n 1 dX10_beat_105 rfl rfl ?_
                refine G_iconst (v := 2) dX10_beat_106 (by decide) ?_
                refine G_cVi (As := [.int 2]) (rest := []) (ok_X10_raise (2 : Int32) M11) rfl (y2_0) rfl mv_X10_578 dX10_beat_107 rfl rfl (Nat.le_of_ble_eq_true rfl) (g_fitN (by decide) (by decide)) (fun r18 M17 => ?_)
                exact G_iret rfl dX10_beat_110
              · refine G_iload_n 3 dX10_beat_95 rfl rfl ?_
                refine G_aload_n 1 dX10_beat_96 rfl rfl ?_
                refine G_get 78 clX10 (y2_0) fl_X10_160 dX10_beat_97 (by decide) rfl rfl ?_
                refine G_iload_n 0 dX10_beat_100 rfl rfl ?_
                refine G_iald (y2_48) dX10_beat_101 ?_
                refine G_icmp_le (tgt := 111) dX10_beat_102 (by decide) ?_ ?_
                · refine G_aload_n 1 dX10_beat_111 rfl rfl ?_
                  refine G_iconst (v := 0) dX10_beat_112 (by decide) ?_
                  refine G_putI 0 clX10 (y2_0) fl_X10_211 dX10_beat_113 (by decide) rfl rfl rfl ?_
                  refine G_m (fun M19 => ?_)
                  refine G_aload_n 1 dX10_beat_116 rfl rfl ?_
                  refine G_get 56 clX10 (y2_0) fl_X10_142 dX10_beat_117 (by decide) rfl rfl ?_
                  refine G_aload_n 1 dX10_beat_120 rfl rfl ?_
                  refine G_get 54 clX10 (y2_0) fl_X10_407 dX10_beat_121 (by decide) rfl rfl ?_
                  refine G_iload_n 2 dX10_beat_124 rfl rfl ?_
                  refine G_iast (y2_42) dX10_beat_125 ?_
                  refine G_m (fun M20 => ?_)
                  refine G_aload_n 1 dX10_beat_126 rfl rfl ?_
                  refine G_get 57 clX10 (y2_0) fl_X10_145 dX10_beat_127 (by decide) rfl rfl ?_
                  refine G_aload_n 1 dX10_beat_130 rfl rfl ?_
                  refine G_get 54 clX10 (y2_0) fl_X10_407 dX10_beat_131 (by decide) rfl rfl ?_
                  refine G_iload_n 3 dX10_beat_134 rfl rfl ?_
                  refine G_iast (y2_43) dX10_beat_135 ?_
                  refine G_m (fun M21 => ?_)
                  refine G_aload_n 1 dX10_beat_136 rfl rfl ?_
                  refine G_dup dX10_beat_137 rfl ?_
                  refine G_get 54 clX10 (y2_0) fl_X10_407 dX10_beat_138 (by decide) rfl rfl ?_
                  refine G_iconst (v := 1) dX10_beat_141 (by decide) ?_
                  refine G_iadd dX10_beat_142 ?_
                  refine G_putI 54 clX10 (y2_0) fl_X10_407 dX10_beat_143 (by decide) rfl rfl rfl ?_
                  refine G_m (fun M22 => ?_)
                  refine G_aload_n 1 dX10_beat_146 rfl rfl ?_
                  refine G_get 55 clX10 (y2_0) fl_X10_139 dX10_beat_147 (by decide) rfl rfl ?_
                  refine G_aload_n 1 dX10_beat_150 rfl rfl ?_
                  refine G_get 54 clX10 (y2_0) fl_X10_407 dX10_beat_151 (by decide) rfl rfl ?_
                  refine G_aload_n 1 dX10_beat_154 rfl rfl ?_
                  refine G_iload_n 0 dX10_beat_155 rfl rfl ?_
                  refine G_iload_n 2 dX10_beat_156 rfl rfl ?_
                  refine G_iload_n 3 dX10_beat_157 rfl rfl ?_
                  refine G_cVi (As := [.int s0, .int x1, .int x2]) (rest := [.int (M22.1 0 54), .ref (ad X 41)]) (ok_X10_leads s0 x1 x2 M22) rfl (y2_0) rfl mv_X10_507 dX10_beat_158 rfl rfl (Nat.le_of_ble_eq_true rfl) (g_fitN (by decide) (by decide)) (fun r24 M23 => ?_)
                  refine G_iast (y2_41) dX10_beat_161 ?_
                  refine G_m (fun M25 => ?_)
                  refine G_aload_n 1 dX10_beat_162 rfl rfl ?_
                  refine G_get 55 clX10 (y2_0) fl_X10_139 dX10_beat_163 (by decide) rfl rfl ?_
                  refine G_aload_n 1 dX10_beat_166 rfl rfl ?_
                  refine G_get 54 clX10 (y2_0) fl_X10_407 dX10_beat_167 (by decide) rfl rfl ?_
                  refine G_iald (y2_41) dX10_beat_170 ?_
                  exact G_iret rfl dX10_beat_171
                · refine G_aload_n 1 dX10_beat_105 rfl rfl ?_
                  refine G_iconst (v := 2) dX10_beat_106 (by decide) ?_
                  refine G_cVi (As := [.int 2]) (rest := []) (ok_X10_raise (2 : Int32) M11) rfl (y2_0) rfl mv_X10_578 dX10_beat_107 rfl rfl (Nat.le_of_ble_eq_true rfl) (g_fitN (by decide) (by decide)) (fun r27 M26 => ?_)
                  exact G_iret rfl dX10_beat_110
        · refine G_aload_n 1 dX10_beat_53 rfl rfl ?_
          refine G_iconst (v := 1) dX10_beat_54 (by decide) ?_
          refine G_cVi (As := [.int 1]) (rest := []) (ok_X10_raise (1 : Int32) M5) rfl (y2_0) rfl mv_X10_578 dX10_beat_55 rfl rfl (Nat.le_of_ble_eq_true rfl) (g_fitN (by decide) (by decide)) (fun r29 M28 => ?_)
          exact G_iret rfl dX10_beat_58
def f_X10_beat (a1 : Int32) (a2 : Int32) (M : gM) : Option (Int32 × gM) := (if (M.1 0 53) = 0 then (f_X10_beat_21 a1 a2 ((-2) : Int32) M) else (g_ck (M.1 0 54) 201 (f_X10_beat_21 a1 a2 (M.1 41 (tn (M.1 0 54))) M)))
set_option maxRecDepth 100000 in
set_option maxHeartbeats 4000000 in
theorem ok_X10_beat (a1 : Int32) (a2 : Int32) (M : gM) : g_met Y2 yX10_beat jX10_beat g_ei (fun Z => [.ref (Z.2.1 0), .int a1, .int a2]) M (f_X10_beat a1 a2 M) := by
  refine g_enter (fun Z => [(0, .ref (Z.2.1 0)), (1, .int a1), (2, .int a2)]) (by decide) rfl (fun Z => Nat.le_of_ble_eq_true rfl) (fun Z => rfl) (fun X => ?_)
  rw [f_X10_beat]
  refine G_aload_n 0 dX10_beat_0 rfl rfl ?_
  refine G_get 53 clX10 (y2_0) fl_X10_403 dX10_beat_1 (by decide) rfl rfl ?_
  refine G_if_eq (tgt := 19) dX10_beat_4 (by decide) ?_ ?_
  · refine G_bipush (v := (-2)) dX10_beat_19 (by decide) ?_
    exact G_sub [0, 1, 2] rfl (o_X10_beat_21 a1 a2 ((-2) : Int32) M)
  · refine G_aload_n 0 dX10_beat_7 rfl rfl ?_
    refine G_get 55 clX10 (y2_0) fl_X10_139 dX10_beat_8 (by decide) rfl rfl ?_
    refine G_aload_n 0 dX10_beat_11 rfl rfl ?_
    refine G_get 54 clX10 (y2_0) fl_X10_407 dX10_beat_12 (by decide) rfl rfl ?_
    refine G_iald (y2_41) dX10_beat_15 ?_
    refine G_goto (tgt := 21) dX10_beat_16 (by decide) ?_
    exact G_sub [0, 1, 2] rfl (o_X10_beat_21 a1 a2 (M.1 41 (tn (M.1 0 54))) M)
-- X10_undo
def f_X10_undo (M : gM) : Option (Bool × gM) := (if (M.1 0 53) = 0 then (some (false, M)) else (if (M.1 0 54) = 0 then (some (false, M)) else (g_m (sI M 0 54 ((M.1 0 54) - (1 : Int32))) (fun M1 => (some (true, M1))))))
set_option maxRecDepth 100000 in
set_option maxHeartbeats 4000000 in
theorem ok_X10_undo (M : gM) : g_met Y2 yX10_undo jX10_undo g_eb (fun Z => [.ref (Z.2.1 0)]) M (f_X10_undo M) := by
  refine g_enter (fun Z => [(0, .ref (Z.2.1 0))]) (by decide) rfl (fun Z => Nat.le_of_ble_eq_true rfl) (fun Z => rfl) (fun X => ?_)
  rw [f_X10_undo]
  refine G_aload_n 0 dX10_undo_0 rfl rfl ?_
  refine G_get 53 clX10 (y2_0) fl_X10_403 dX10_undo_1 (by decide) rfl rfl ?_
  refine G_if_eq (tgt := 14) dX10_undo_4 (by decide) ?_ ?_
  · refine G_iconst (v := 0) dX10_undo_14 (by decide) ?_
    exact G_zret (b := false) rfl dX10_undo_15
  · refine G_aload_n 0 dX10_undo_7 rfl rfl ?_
    refine G_get 54 clX10 (y2_0) fl_X10_407 dX10_undo_8 (by decide) rfl rfl ?_
    refine G_if_ne (tgt := 16) dX10_undo_11 (by decide) ?_ ?_
    · refine G_aload_n 0 dX10_undo_16 rfl rfl ?_
      refine G_dup dX10_undo_17 rfl ?_
      refine G_get 54 clX10 (y2_0) fl_X10_407 dX10_undo_18 (by decide) rfl rfl ?_
      refine G_iconst (v := 1) dX10_undo_21 (by decide) ?_
      refine G_isub dX10_undo_22 ?_
      refine G_putI 54 clX10 (y2_0) fl_X10_407 dX10_undo_23 (by decide) rfl rfl rfl ?_
      refine G_m (fun M1 => ?_)
      refine G_iconst (v := 1) dX10_undo_26 (by decide) ?_
      exact G_zret (b := true) rfl dX10_undo_27
    · refine G_iconst (v := 0) dX10_undo_14 (by decide) ?_
      exact G_zret (b := false) rfl dX10_undo_15
-- X10_walked
def f_X10_walked (a1 : Int32) (a2 : Int32) (M : gM) : Option (Int32 × gM) := (if (M.1 0 53) = 0 then (some (((-100) : Int32), M)) else (if a1 < 0 then (some (((-100) : Int32), M)) else (if (M.1 0 54) ≤ a1 then (some (((-100) : Int32), M)) else (if a2 < 0 then (some (((-100) : Int32), M)) else (if a2 ≤ (3 : Int32) then (if a2 = 0 then (g_ck a1 201 (some ((M.1 41 (tn a1)), M))) else (if a2 = (1 : Int32) then (g_ck a1 200 (some ((M.1 42 (tn a1)), M))) else (if a2 = (2 : Int32) then (g_ck a1 200 (some ((M.1 43 (tn a1)), M))) else (g_ck (a1 + (1 : Int32)) 201 (some ((M.1 41 (tn (a1 + (1 : Int32)))), M)))))) else (some (((-100) : Int32), M)))))))
set_option maxRecDepth 100000 in
set_option maxHeartbeats 4000000 in
theorem ok_X10_walked (a1 : Int32) (a2 : Int32) (M : gM) : g_met Y2 yX10_walked jX10_walked g_ei (fun Z => [.ref (Z.2.1 0), .int a1, .int a2]) M (f_X10_walked a1 a2 M) := by
  refine g_enter (fun Z => [(0, .ref (Z.2.1 0)), (1, .int a1), (2, .int a2)]) (by decide) rfl (fun Z => Nat.le_of_ble_eq_true rfl) (fun Z => rfl) (fun X => ?_)
  rw [f_X10_walked]
  refine G_aload_n 0 dX10_walked_0 rfl rfl ?_
  refine G_get 53 clX10 (y2_0) fl_X10_403 dX10_walked_1 (by decide) rfl rfl ?_
  refine G_if_eq (tgt := 28) dX10_walked_4 (by decide) ?_ ?_
  · refine G_bipush (v := (-100)) dX10_walked_28 (by decide) ?_
    exact G_iret rfl dX10_walked_30
  · refine G_iload_n 1 dX10_walked_7 rfl rfl ?_
    refine G_if_lt (tgt := 28) dX10_walked_8 (by decide) ?_ ?_
    · refine G_bipush (v := (-100)) dX10_walked_28 (by decide) ?_
      exact G_iret rfl dX10_walked_30
    · refine G_iload_n 1 dX10_walked_11 rfl rfl ?_
      refine G_aload_n 0 dX10_walked_12 rfl rfl ?_
      refine G_get 54 clX10 (y2_0) fl_X10_407 dX10_walked_13 (by decide) rfl rfl ?_
      refine G_icmp_ge (tgt := 28) dX10_walked_16 (by decide) ?_ ?_
      · refine G_bipush (v := (-100)) dX10_walked_28 (by decide) ?_
        exact G_iret rfl dX10_walked_30
      · refine G_iload_n 2 dX10_walked_19 rfl rfl ?_
        refine G_if_lt (tgt := 28) dX10_walked_20 (by decide) ?_ ?_
        · refine G_bipush (v := (-100)) dX10_walked_28 (by decide) ?_
          exact G_iret rfl dX10_walked_30
        · refine G_iload_n 2 dX10_walked_23 rfl rfl ?_
          refine G_iconst (v := 3) dX10_walked_24 (by decide) ?_
          refine G_icmp_le (tgt := 31) dX10_walked_25 (by decide) ?_ ?_
          · refine G_iload_n 2 dX10_walked_31 rfl rfl ?_
            refine G_if_ne (tgt := 44) dX10_walked_32 (by decide) ?_ ?_
            · refine G_iload_n 2 dX10_walked_44 rfl rfl ?_
              refine G_iconst (v := 1) dX10_walked_45 (by decide) ?_
              refine G_icmp_ne (tgt := 58) dX10_walked_46 (by decide) ?_ ?_
              · refine G_iload_n 2 dX10_walked_58 rfl rfl ?_
                refine G_iconst (v := 2) dX10_walked_59 (by decide) ?_
                refine G_icmp_ne (tgt := 72) dX10_walked_60 (by decide) ?_ ?_
                · refine G_aload_n 0 dX10_walked_72 rfl rfl ?_
                  refine G_get 55 clX10 (y2_0) fl_X10_139 dX10_walked_73 (by decide) rfl rfl ?_
                  refine G_iload_n 1 dX10_walked_76 rfl rfl ?_
                  refine G_iconst (v := 1) dX10_walked_77 (by decide) ?_
                  refine G_iadd dX10_walked_78 ?_
                  refine G_iald (y2_41) dX10_walked_79 ?_
                  exact G_iret rfl dX10_walked_80
                · refine G_aload_n 0 dX10_walked_63 rfl rfl ?_
                  refine G_get 57 clX10 (y2_0) fl_X10_145 dX10_walked_64 (by decide) rfl rfl ?_
                  refine G_iload_n 1 dX10_walked_67 rfl rfl ?_
                  refine G_iald (y2_43) dX10_walked_68 ?_
                  refine G_goto (tgt := 80) dX10_walked_69 (by decide) ?_
                  exact G_iret rfl dX10_walked_80
              · refine G_aload_n 0 dX10_walked_49 rfl rfl ?_
                refine G_get 56 clX10 (y2_0) fl_X10_142 dX10_walked_50 (by decide) rfl rfl ?_
                refine G_iload_n 1 dX10_walked_53 rfl rfl ?_
                refine G_iald (y2_42) dX10_walked_54 ?_
                refine G_goto (tgt := 80) dX10_walked_55 (by decide) ?_
                exact G_iret rfl dX10_walked_80
            · refine G_aload_n 0 dX10_walked_35 rfl rfl ?_
              refine G_get 55 clX10 (y2_0) fl_X10_139 dX10_walked_36 (by decide) rfl rfl ?_
              refine G_iload_n 1 dX10_walked_39 rfl rfl ?_
              refine G_iald (y2_41) dX10_walked_40 ?_
              refine G_goto (tgt := 80) dX10_walked_41 (by decide) ?_
              exact G_iret rfl dX10_walked_80
          · refine G_bipush (v := (-100)) dX10_walked_28 (by decide) ?_
            exact G_iret rfl dX10_walked_30
-- X10_blame
def f_X10_blame_15 : Nat → Int32 → gM → Option (Int32 × gM)
  | 0, _, _ => none
  | n + 1, x1, M => (if (M.1 0 54) ≤ x1 then (some (((-2) : Int32), M)) else (g_ck x1 201 (g_b (f_X10_isSafe (M.1 41 (tn x1)) M) (fun r4 M3 => (if r4 then (g_ck x1 201 (g_ck x1 200 (g_b (f_X10_isSafeBy (M3.1 41 (tn x1)) (M3.1 42 (tn x1)) M3) (fun r6 M5 => (if r6 then (f_X10_blame_15 n (x1 + 1) M5) else (some (x1, M5))))))) else (f_X10_blame_15 n (x1 + 1) M3))))))
set_option maxRecDepth 100000 in
set_option maxHeartbeats 4000000 in
theorem o_X10_blame_15 {X : gX} : ∀ (n : Nat) (x1 : Int32) (M : gM), G Y2 jX10_blame X (g_fin g_ei) 15 [(0, .ref (ad X 0)), (1, .int x1)] [] M (f_X10_blame_15 n x1 M) := by
  intro n
  induction n with
  | zero => intro x1 M; exact G_none
  | succ n ih =>
    intro x1 M
    rw [f_X10_blame_15]
    refine G_iload_n 1 dX10_blame_15 rfl rfl ?_
    refine G_aload_n 0 dX10_blame_16 rfl rfl ?_
    refine G_get 54 clX10 (y2_0) fl_X10_407 dX10_blame_17 (by decide) rfl rfl ?_
    refine G_icmp_ge (tgt := 63) dX10_blame_20 (by decide) ?_ ?_
    · refine G_bipush (v := (-2)) dX10_blame_63 (by decide) ?_
      exact G_iret rfl dX10_blame_65
    · refine G_aload_n 0 dX10_blame_23 rfl rfl ?_
      refine G_aload_n 0 dX10_blame_24 rfl rfl ?_
      refine G_get 55 clX10 (y2_0) fl_X10_139 dX10_blame_25 (by decide) rfl rfl ?_
      refine G_iload_n 1 dX10_blame_28 rfl rfl ?_
      refine G_iald (y2_41) dX10_blame_29 ?_
      refine G_cVb (As := [.int (M.1 41 (tn x1))]) (rest := []) (ok_X10_isSafe (M.1 41 (tn x1)) M) rfl (y2_0) rfl mv_X10_519 dX10_blame_30 rfl rfl (Nat.le_of_ble_eq_true rfl) (g_fitN (by decide) (by decide)) (fun r4 M3 => ?_)
      refine G_ifB_eq (tgt := 57) dX10_blame_33 (by decide) ?_ ?_
      · refine G_iinc (v := x1 + 1) (lv' := [(1, .int (x1 + 1)), (0, .ref (ad X 0))]) 1 dX10_blame_57 rfl rfl (by decide) rfl ?_
        refine G_goto (tgt := 15) dX10_blame_60 (by decide) ?_
        exact G_sub [1, 0] rfl (ih (x1 + 1) M3)
      · refine G_aload_n 0 dX10_blame_36 rfl rfl ?_
        refine G_aload_n 0 dX10_blame_37 rfl rfl ?_
        refine G_get 55 clX10 (y2_0) fl_X10_139 dX10_blame_38 (by decide) rfl rfl ?_
        refine G_iload_n 1 dX10_blame_41 rfl rfl ?_
        refine G_iald (y2_41) dX10_blame_42 ?_
        refine G_aload_n 0 dX10_blame_43 rfl rfl ?_
        refine G_get 56 clX10 (y2_0) fl_X10_142 dX10_blame_44 (by decide) rfl rfl ?_
        refine G_iload_n 1 dX10_blame_47 rfl rfl ?_
        refine G_iald (y2_42) dX10_blame_48 ?_
        refine G_cVb (As := [.int (M3.1 41 (tn x1)), .int (M3.1 42 (tn x1))]) (rest := []) (ok_X10_isSafeBy (M3.1 41 (tn x1)) (M3.1 42 (tn x1)) M3) rfl (y2_0) rfl mv_X10_522 dX10_blame_49 rfl rfl (Nat.le_of_ble_eq_true rfl) (g_fitN (by decide) (by decide)) (fun r6 M5 => ?_)
        refine G_ifB_ne (tgt := 57) dX10_blame_52 (by decide) ?_ ?_
        · refine G_iinc (v := x1 + 1) (lv' := [(1, .int (x1 + 1)), (0, .ref (ad X 0))]) 1 dX10_blame_57 rfl rfl (by decide) rfl ?_
          refine G_goto (tgt := 15) dX10_blame_60 (by decide) ?_
          exact G_sub [1, 0] rfl (ih (x1 + 1) M5)
        · refine G_iload_n 1 dX10_blame_55 rfl rfl ?_
          exact G_iret rfl dX10_blame_56
def f_X10_blame (M : gM) : Option (Int32 × gM) := (if (M.1 0 53) = 0 then (some (((-1) : Int32), M)) else (g_b (f_X10_lay M) (fun r2 M1 => (f_X10_blame_15 FU (0 : Int32) M1))))
set_option maxRecDepth 100000 in
set_option maxHeartbeats 4000000 in
theorem ok_X10_blame (M : gM) : g_met Y2 yX10_blame jX10_blame g_ei (fun Z => [.ref (Z.2.1 0)]) M (f_X10_blame M) := by
  refine g_enter (fun Z => [(0, .ref (Z.2.1 0))]) (by decide) rfl (fun Z => Nat.le_of_ble_eq_true rfl) (fun Z => rfl) (fun X => ?_)
  rw [f_X10_blame]
  refine G_aload_n 0 dX10_blame_0 rfl rfl ?_
  refine G_get 53 clX10 (y2_0) fl_X10_403 dX10_blame_1 (by decide) rfl rfl ?_
  refine G_if_ne (tgt := 9) dX10_blame_4 (by decide) ?_ ?_
  · refine G_aload_n 0 dX10_blame_9 rfl rfl ?_
    refine G_cVv (As := []) (rest := []) (ok_X10_lay M) rfl (y2_0) rfl mv_X10_516 dX10_blame_10 rfl rfl (Nat.le_of_ble_eq_true rfl) (g_fitN (by decide) (by decide)) (fun r2 M1 => ?_)
    refine G_iconst (v := 0) dX10_blame_13 (by decide) ?_
    refine G_istore_n (lv' := [(1, .int 0), (0, .ref (ad X 0))]) dX10_blame_14 rfl (by decide) rfl ?_
    exact G_sub [1, 0] rfl (o_X10_blame_15 FU (0 : Int32) M1)
  · refine G_iconst (v := (-1)) dX10_blame_7 (by decide) ?_
    exact G_iret rfl dX10_blame_8
-- X10_mixed
def f_X10_mixed (a0 : Int32) (a1 : Int32) (M : gM) : Option (Int32 × gM) := (g_v (((a0 ^^^ a1) * (1103515245 : Int32)) + (12345 : Int32)) (fun y1 => (some ((y1 ^^^ ((y1.toUInt32 >>> ((15 : Int32).toUInt32 &&& Int32.toUInt32 31)).toInt32)), M))))
set_option maxRecDepth 100000 in
set_option maxHeartbeats 4000000 in
theorem ok_X10_mixed (a0 : Int32) (a1 : Int32) (M : gM) : g_met Y2 yX10_mixed jX10_mixed g_ei (fun Z => [.int a0, .int a1]) M (f_X10_mixed a0 a1 M) := by
  refine g_enter (fun Z => [(0, .int a0), (1, .int a1)]) (by decide) rfl (fun Z => Nat.le_of_ble_eq_true rfl) (fun Z => rfl) (fun X => ?_)
  rw [f_X10_mixed]
  refine G_iload_n 0 dX10_mixed_0 rfl rfl ?_
  refine G_iload_n 1 dX10_mixed_1 rfl rfl ?_
  refine G_ixor dX10_mixed_2 ?_
  refine G_ldcw (v := 1103515245) ci_X10_581 dX10_mixed_3 ?_
  refine G_imul dX10_mixed_6 ?_
  refine G_sipush (v := 12345) dX10_mixed_7 (by decide) ?_
  refine G_iadd dX10_mixed_10 ?_
  refine G_vi (fun y1 => ?_)
  refine G_istore_n (lv' := [(2, .int y1), (0, .int a0), (1, .int a1)]) dX10_mixed_11 rfl (by decide) rfl ?_
  refine G_iload_n 0 dX10_mixed_12 rfl rfl ?_
  refine G_iload_n 0 dX10_mixed_13 rfl rfl ?_
  refine G_bipush (v := 15) dX10_mixed_14 (by decide) ?_
  refine G_iushr dX10_mixed_16 ?_
  refine G_ixor dX10_mixed_17 ?_
  exact G_iret rfl dX10_mixed_18
-- X10_lot
def f_X10_lot (a0 : Int32) (a1 : Int32) (a2 : Int32) (M : gM) : Option (Int32 × gM) := (g_b (f_X10_mixed a0 (3 : Int32) M) (fun r2 M1 => (g_b (f_X10_mixed r2 a1 M1) (fun r4 M3 => (g_nz a2 (some ((((r4.toUInt32 >>> ((1 : Int32).toUInt32 &&& Int32.toUInt32 31)).toInt32) - ((r4.toUInt32 >>> ((1 : Int32).toUInt32 &&& Int32.toUInt32 31)).toInt32) / a2 * a2), M3)))))))
set_option maxRecDepth 100000 in
set_option maxHeartbeats 4000000 in
theorem ok_X10_lot (a0 : Int32) (a1 : Int32) (a2 : Int32) (M : gM) : g_met Y2 yX10_lot jX10_lot g_ei (fun Z => [.int a0, .int a1, .int a2]) M (f_X10_lot a0 a1 a2 M) := by
  refine g_enter (fun Z => [(0, .int a0), (1, .int a1), (2, .int a2)]) (by decide) rfl (fun Z => Nat.le_of_ble_eq_true rfl) (fun Z => rfl) (fun X => ?_)
  rw [f_X10_lot]
  refine G_iload_n 0 dX10_lot_0 rfl rfl ?_
  refine G_iconst (v := 3) dX10_lot_1 (by decide) ?_
  refine G_cSi (As := [.int a0, .int 3]) (rest := []) (ok_X10_mixed a0 (3 : Int32) M) rfl ms_X10_582 dX10_lot_2 rfl rfl (Nat.le_of_ble_eq_true rfl) (g_fitN (by decide) (by decide)) (fun r2 M1 => ?_)
  refine G_iload_n 1 dX10_lot_5 rfl rfl ?_
  refine G_cSi (As := [.int r2, .int a1]) (rest := []) (ok_X10_mixed r2 a1 M1) rfl ms_X10_582 dX10_lot_6 rfl rfl (Nat.le_of_ble_eq_true rfl) (g_fitN (by decide) (by decide)) (fun r4 M3 => ?_)
  refine G_iconst (v := 1) dX10_lot_9 (by decide) ?_
  refine G_iushr dX10_lot_10 ?_
  refine G_iload_n 2 dX10_lot_11 rfl rfl ?_
  refine G_irem dX10_lot_12 ?_
  exact G_iret rfl dX10_lot_13
-- X10_drilled
def f_X10_drilled_75 (x4 : Int32) (M : gM) : Option (Int32 × gM) := (g_b (f_X10_isOver x4 M) (fun r2 M1 => (if r2 then (some ((1 : Int32), M1)) else (some ((2 : Int32), M1)))))
set_option maxRecDepth 100000 in
set_option maxHeartbeats 4000000 in
theorem o_X10_drilled_75 {X : gX} (x4 : Int32) (M : gM) : G Y2 jX10_drilled X (g_fin g_ei) 75 [(0, .ref (ad X 0)), (4, .int x4)] [] M (f_X10_drilled_75 x4 M) := by
  rw [f_X10_drilled_75]
  refine G_aload_n 0 dX10_drilled_75 rfl rfl ?_
  refine G_iload 1 dX10_drilled_76 rfl ?_
  refine G_cVb (As := [.int x4]) (rest := []) (ok_X10_isOver x4 M) rfl (y2_0) rfl mv_X10_460 dX10_drilled_78 rfl rfl (Nat.le_of_ble_eq_true rfl) (g_fitN (by decide) (by decide)) (fun r2 M1 => ?_)
  refine G_ifB_eq (tgt := 88) dX10_drilled_81 (by decide) ?_ ?_
  · refine G_iconst (v := 2) dX10_drilled_88 (by decide) ?_
    exact G_iret rfl dX10_drilled_89
  · refine G_iconst (v := 1) dX10_drilled_84 (by decide) ?_
    refine G_goto (tgt := 89) dX10_drilled_85 (by decide) ?_
    exact G_iret rfl dX10_drilled_89
def f_X10_drilled_6 : Nat → Int32 → Int32 → Int32 → Int32 → gM → Option (Int32 × gM)
  | 0, _, _, _, _, _ => none
  | n + 1, x2, x3, x4, x5, M => (if x3 ≤ x5 then (f_X10_drilled_75 x4 M) else (g_b (f_X10_isOver x4 M) (fun r4 M3 => (if r4 then (f_X10_drilled_75 x4 M3) else (g_ck x4 2079 (g_ck x4 2079 (g_ck x4 2079 (g_b (f_X10_lot x2 x5 (((M3.1 48 (tn x4)) - (M3.1 47 (tn x4))) + (1 : Int32)) M3) (fun r6 M5 => (g_b (f_X10_driven x4 ((M3.1 47 (tn x4)) + r6) M5) (fun r8 M7 => (if r8 = ((-2) : Int32) then (some ((0 : Int32), M7)) else (f_X10_drilled_6 n x2 x3 r8 (x5 + 1) M7)))))))))))))
set_option maxRecDepth 100000 in
set_option maxHeartbeats 4000000 in
theorem o_X10_drilled_6 {X : gX} : ∀ (n : Nat) (x2 : Int32) (x3 : Int32) (x4 : Int32) (x5 : Int32) (M : gM), G Y2 jX10_drilled X (g_fin g_ei) 6 [(0, .ref (ad X 0)), (2, .int x2), (3, .int x3), (4, .int x4), (5, .int x5)] [] M (f_X10_drilled_6 n x2 x3 x4 x5 M) := by
  intro n
  induction n with
  | zero => intro x2 x3 x4 x5 M; exact G_none
  | succ n ih =>
    intro x2 x3 x4 x5 M
    rw [f_X10_drilled_6]
    refine G_iload 4 dX10_drilled_6 rfl ?_
    refine G_iload_n 2 dX10_drilled_8 rfl rfl ?_
    refine G_icmp_ge (tgt := 75) dX10_drilled_9 (by decide) ?_ ?_
    · exact G_sub [0, 3] rfl (o_X10_drilled_75 x4 M)
    · refine G_aload_n 0 dX10_drilled_12 rfl rfl ?_
      refine G_iload 3 dX10_drilled_13 rfl ?_
      refine G_cVb (As := [.int x4]) (rest := []) (ok_X10_isOver x4 M) rfl (y2_0) rfl mv_X10_460 dX10_drilled_15 rfl rfl (Nat.le_of_ble_eq_true rfl) (g_fitN (by decide) (by decide)) (fun r4 M3 => ?_)
      refine G_ifB_ne (tgt := 75) dX10_drilled_18 (by decide) ?_ ?_
      · exact G_sub [0, 3] rfl (o_X10_drilled_75 x4 M3)
      · refine G_aload_n 0 dX10_drilled_21 rfl rfl ?_
        refine G_iload 3 dX10_drilled_22 rfl ?_
        refine G_aload_n 0 dX10_drilled_24 rfl rfl ?_
        refine G_get 77 clX10 (y2_0) fl_X10_157 dX10_drilled_25 (by decide) rfl rfl ?_
        refine G_iload 3 dX10_drilled_28 rfl ?_
        refine G_iald (y2_47) dX10_drilled_30 ?_
        refine G_iload_n 1 dX10_drilled_31 rfl rfl ?_
        refine G_iload 4 dX10_drilled_32 rfl ?_
        refine G_aload_n 0 dX10_drilled_34 rfl rfl ?_
        refine G_get 78 clX10 (y2_0) fl_X10_160 dX10_drilled_35 (by decide) rfl rfl ?_
        refine G_iload 3 dX10_drilled_38 rfl ?_
        refine G_iald (y2_48) dX10_drilled_40 ?_
        refine G_aload_n 0 dX10_drilled_41 rfl rfl ?_
        refine G_get 77 clX10 (y2_0) fl_X10_157 dX10_drilled_42 (by decide) rfl rfl ?_
        refine G_iload 3 dX10_drilled_45 rfl ?_
        refine G_iald (y2_47) dX10_drilled_47 ?_
        refine G_isub dX10_drilled_48 ?_
        refine G_iconst (v := 1) dX10_drilled_49 (by decide) ?_
        refine G_iadd dX10_drilled_50 ?_
        refine G_cSi (As := [.int x2, .int x5, .int (((M3.1 48 (tn x4)) - (M3.1 47 (tn x4))) + (1 : Int32))]) (rest := [.int (M3.1 47 (tn x4)), .int x4, .ref (ad X 0)]) (ok_X10_lot x2 x5 (((M3.1 48 (tn x4)) - (M3.1 47 (tn x4))) + (1 : Int32)) M3) rfl ms_X10_585 dX10_drilled_51 rfl rfl (Nat.le_of_ble_eq_true rfl) (g_fitN (by decide) (by decide)) (fun r6 M5 => ?_)
        refine G_iadd dX10_drilled_54 ?_
        refine G_cVi (As := [.int x4, .int ((M3.1 47 (tn x4)) + r6)]) (rest := []) (ok_X10_driven x4 ((M3.1 47 (tn x4)) + r6) M5) rfl (y2_0) rfl mv_X10_564 dX10_drilled_55 rfl rfl (Nat.le_of_ble_eq_true rfl) (g_fitN (by decide) (by decide)) (fun r8 M7 => ?_)
        refine G_istore (lv' := [(4, .int r8), (0, .ref (ad X 0)), (2, .int x2), (3, .int x3), (5, .int x5)]) dX10_drilled_58 (by decide) rfl ?_
        refine G_iload 0 dX10_drilled_60 rfl ?_
        refine G_bipush (v := (-2)) dX10_drilled_62 (by decide) ?_
        refine G_icmp_ne (tgt := 69) dX10_drilled_64 (by decide) ?_ ?_
        · refine G_iinc (v := x5 + 1) (lv' := [(5, .int (x5 + 1)), (4, .int r8), (0, .ref (ad X 0)), (2, .int x2), (3, .int x3)]) 4 dX10_drilled_69 rfl rfl (by decide) rfl ?_
          refine G_goto (tgt := 6) dX10_drilled_72 (by decide) ?_
          exact G_sub [2, 3, 4, 1, 0] rfl (ih x2 x3 r8 (x5 + 1) M7)
        · refine G_iconst (v := 0) dX10_drilled_67 (by decide) ?_
          exact G_iret rfl dX10_drilled_68
def f_X10_drilled (a1 : Int32) (a2 : Int32) (a3 : Int32) (M : gM) : Option (Int32 × gM) := (f_X10_drilled_6 FU a2 a3 a1 (0 : Int32) M)
set_option maxRecDepth 100000 in
set_option maxHeartbeats 4000000 in
theorem ok_X10_drilled (a1 : Int32) (a2 : Int32) (a3 : Int32) (M : gM) : g_met Y2 yX10_drilled jX10_drilled g_ei (fun Z => [.ref (Z.2.1 0), .int a1, .int a2, .int a3]) M (f_X10_drilled a1 a2 a3 M) := by
  refine g_enter (fun Z => [(0, .ref (Z.2.1 0)), (1, .int a1), (2, .int a2), (3, .int a3)]) (by decide) rfl (fun Z => Nat.le_of_ble_eq_true rfl) (fun Z => rfl) (fun X => ?_)
  rw [f_X10_drilled]
  refine G_iload_n 1 dX10_drilled_0 rfl rfl ?_
  refine G_istore (lv' := [(4, .int a1), (0, .ref (ad X 0)), (1, .int a1), (2, .int a2), (3, .int a3)]) dX10_drilled_1 (by decide) rfl ?_
  refine G_iconst (v := 0) dX10_drilled_3 (by decide) ?_
  refine G_istore (lv' := [(5, .int 0), (4, .int a1), (0, .ref (ad X 0)), (1, .int a1), (2, .int a2), (3, .int a3)]) dX10_drilled_4 (by decide) rfl ?_
  exact G_sub [2, 4, 5, 1, 0] rfl (o_X10_drilled_6 FU a2 a3 a1 (0 : Int32) M)
-- X10_drill
def f_X10_drill_54 : Nat → Int32 → Int32 → Int32 → Int32 → Int32 → Int32 → Int32 → gM → Option (Int32 × gM)
  | 0, _, _, _, _, _, _, _, _ => none
  | n + 1, x1, x2, x3, x4, x5, x6, x7, M => (if x3 ≤ x7 then (some (x6, M)) else (g_b (f_X10_drilled x1 (x2 + x7) x4 M) (fun r6 M5 => (if r6 = x5 then (g_v (x6 + (1 : Int32)) (fun y8 => (f_X10_drill_54 n x1 x2 x3 x4 x5 y8 (x7 + 1) M5))) else (g_v (x6 + (0 : Int32)) (fun y7 => (f_X10_drill_54 n x1 x2 x3 x4 x5 y7 (x7 + 1) M5)))))))
set_option maxRecDepth 100000 in
set_option maxHeartbeats 4000000 in
theorem o_X10_drill_54 {X : gX} : ∀ (n : Nat) (x1 : Int32) (x2 : Int32) (x3 : Int32) (x4 : Int32) (x5 : Int32) (x6 : Int32) (x7 : Int32) (M : gM), G Y2 jX10_drill X (g_fin g_ei) 54 [(0, .ref (ad X 0)), (1, .int x1), (2, .int x2), (3, .int x3), (4, .int x4), (5, .int x5), (6, .int x6), (7, .int x7)] [] M (f_X10_drill_54 n x1 x2 x3 x4 x5 x6 x7 M) := by
  intro n
  induction n with
  | zero => intro x1 x2 x3 x4 x5 x6 x7 M; exact G_none
  | succ n ih =>
    intro x1 x2 x3 x4 x5 x6 x7 M
    rw [f_X10_drill_54]
    refine G_iload 7 dX10_drill_54 rfl ?_
    refine G_iload_n 3 dX10_drill_56 rfl rfl ?_
    refine G_icmp_ge (tgt := 92) dX10_drill_57 (by decide) ?_ ?_
    · refine G_iload 6 dX10_drill_92 rfl ?_
      exact G_iret rfl dX10_drill_94
    · refine G_iload 6 dX10_drill_60 rfl ?_
      refine G_aload_n 0 dX10_drill_62 rfl rfl ?_
      refine G_iload_n 1 dX10_drill_63 rfl rfl ?_
      refine G_iload_n 2 dX10_drill_64 rfl rfl ?_
      refine G_iload 7 dX10_drill_65 rfl ?_
      refine G_iadd dX10_drill_67 ?_
      refine G_iload 4 dX10_drill_68 rfl ?_
      refine G_cVi (As := [.int x1, .int (x2 + x7), .int x4]) (rest := [.int x6]) (ok_X10_drilled x1 (x2 + x7) x4 M) rfl (y2_0) rfl mv_X10_588 dX10_drill_70 rfl rfl (Nat.le_of_ble_eq_true rfl) (g_fitN (by decide) (by decide)) (fun r6 M5 => ?_)
      refine G_iload 5 dX10_drill_73 rfl ?_
      refine G_icmp_ne (tgt := 82) dX10_drill_75 (by decide) ?_ ?_
      · refine G_iconst (v := 0) dX10_drill_82 (by decide) ?_
        refine G_iadd dX10_drill_83 ?_
        refine G_vi (fun y7 => ?_)
        refine G_istore (lv' := [(6, .int y7), (0, .ref (ad X 0)), (1, .int x1), (2, .int x2), (3, .int x3), (4, .int x4), (5, .int x5), (7, .int x7)]) dX10_drill_84 (by decide) rfl ?_
        refine G_iinc (v := x7 + 1) (lv' := [(7, .int (x7 + 1)), (6, .int y7), (0, .ref (ad X 0)), (1, .int x1), (2, .int x2), (3, .int x3), (4, .int x4), (5, .int x5)]) 7 dX10_drill_86 rfl rfl (by decide) rfl ?_
        refine G_goto (tgt := 54) dX10_drill_89 (by decide) ?_
        exact G_sub [2, 3, 4, 5, 6, 7, 1, 0] rfl (ih x1 x2 x3 x4 x5 y7 (x7 + 1) M5)
      · refine G_iconst (v := 1) dX10_drill_78 (by decide) ?_
        refine G_goto (tgt := 83) dX10_drill_79 (by decide) ?_
        refine G_iadd dX10_drill_83 ?_
        refine G_vi (fun y8 => ?_)
        refine G_istore (lv' := [(6, .int y8), (0, .ref (ad X 0)), (1, .int x1), (2, .int x2), (3, .int x3), (4, .int x4), (5, .int x5), (7, .int x7)]) dX10_drill_84 (by decide) rfl ?_
        refine G_iinc (v := x7 + 1) (lv' := [(7, .int (x7 + 1)), (6, .int y8), (0, .ref (ad X 0)), (1, .int x1), (2, .int x2), (3, .int x3), (4, .int x4), (5, .int x5)]) 7 dX10_drill_86 rfl rfl (by decide) rfl ?_
        refine G_goto (tgt := 54) dX10_drill_89 (by decide) ?_
        exact G_sub [2, 3, 4, 5, 6, 7, 1, 0] rfl (ih x1 x2 x3 x4 x5 y8 (x7 + 1) M5)
def f_X10_drill (a1 : Int32) (a2 : Int32) (a3 : Int32) (a4 : Int32) (a5 : Int32) (M : gM) : Option (Int32 × gM) := (g_b (f_X10_isState a1 M) (fun r2 M1 => (if r2 then (if a3 < (1 : Int32) then (some (((-1) : Int32), M1)) else (if (100 : Int32) < a3 then (some (((-1) : Int32), M1)) else (if a4 < 0 then (some (((-1) : Int32), M1)) else (if (60 : Int32) < a4 then (some (((-1) : Int32), M1)) else (if a5 < 0 then (some (((-1) : Int32), M1)) else (if a5 ≤ (1 : Int32) then (g_b (f_X10_reflexAll M1) (fun r4 M3 => (f_X10_drill_54 FU a1 a2 a3 a4 a5 (0 : Int32) (0 : Int32) M3))) else (some (((-1) : Int32), M1)))))))) else (some (((-1) : Int32), M1)))))
set_option maxRecDepth 100000 in
set_option maxHeartbeats 4000000 in
theorem ok_X10_drill (a1 : Int32) (a2 : Int32) (a3 : Int32) (a4 : Int32) (a5 : Int32) (M : gM) : g_met Y2 yX10_drill jX10_drill g_ei (fun Z => [.ref (Z.2.1 0), .int a1, .int a2, .int a3, .int a4, .int a5]) M (f_X10_drill a1 a2 a3 a4 a5 M) := by
  refine g_enter (fun Z => [(0, .ref (Z.2.1 0)), (1, .int a1), (2, .int a2), (3, .int a3), (4, .int a4), (5, .int a5)]) (by decide) rfl (fun Z => Nat.le_of_ble_eq_true rfl) (fun Z => rfl) (fun X => ?_)
  rw [f_X10_drill]
  refine G_aload_n 0 dX10_drill_0 rfl rfl ?_
  refine G_iload_n 1 dX10_drill_1 rfl rfl ?_
  refine G_cVb (As := [.int a1]) (rest := []) (ok_X10_isState a1 M) rfl (y2_0) rfl mv_X10_476 dX10_drill_2 rfl rfl (Nat.le_of_ble_eq_true rfl) (g_fitN (by decide) (by decide)) (fun r2 M1 => ?_)
  refine G_ifB_eq (tgt := 42) dX10_drill_5 (by decide) ?_ ?_
  · refine G_iconst (v := (-1)) dX10_drill_42 (by decide) ?_
    exact G_iret rfl dX10_drill_43
  · refine G_iload_n 3 dX10_drill_8 rfl rfl ?_
    refine G_iconst (v := 1) dX10_drill_9 (by decide) ?_
    refine G_icmp_lt (tgt := 42) dX10_drill_10 (by decide) ?_ ?_
    · refine G_iconst (v := (-1)) dX10_drill_42 (by decide) ?_
      exact G_iret rfl dX10_drill_43
    · refine G_iload_n 3 dX10_drill_13 rfl rfl ?_
      refine G_bipush (v := 100) dX10_drill_14 (by decide) ?_
      refine G_icmp_gt (tgt := 42) dX10_drill_16 (by decide) ?_ ?_
      · refine G_iconst (v := (-1)) dX10_drill_42 (by decide) ?_
        exact G_iret rfl dX10_drill_43
      · refine G_iload 4 dX10_drill_19 rfl ?_
        refine G_if_lt (tgt := 42) dX10_drill_21 (by decide) ?_ ?_
        · refine G_iconst (v := (-1)) dX10_drill_42 (by decide) ?_
          exact G_iret rfl dX10_drill_43
        · refine G_iload 4 dX10_drill_24 rfl ?_
          refine G_bipush (v := 60) dX10_drill_26 (by decide) ?_
          refine G_icmp_gt (tgt := 42) dX10_drill_28 (by decide) ?_ ?_
          · refine G_iconst (v := (-1)) dX10_drill_42 (by decide) ?_
            exact G_iret rfl dX10_drill_43
          · refine G_iload 5 dX10_drill_31 rfl ?_
            refine G_if_lt (tgt := 42) dX10_drill_33 (by decide) ?_ ?_
            · refine G_iconst (v := (-1)) dX10_drill_42 (by decide) ?_
              exact G_iret rfl dX10_drill_43
            · refine G_iload 5 dX10_drill_36 rfl ?_
              refine G_iconst (v := 1) dX10_drill_38 (by decide) ?_
              refine G_icmp_le (tgt := 44) dX10_drill_39 (by decide) ?_ ?_
              · refine G_aload_n 0 dX10_drill_44 rfl rfl ?_
                refine G_cVv (As := []) (rest := []) (ok_X10_reflexAll M1) rfl (y2_0) rfl mv_X10_567 dX10_drill_45 rfl rfl (Nat.le_of_ble_eq_true rfl) (g_fitN (by decide) (by decide)) (fun r4 M3 => ?_)
                refine G_iconst (v := 0) dX10_drill_48 (by decide) ?_
                refine G_istore (lv' := [(6, .int 0), (0, .ref (ad X 0)), (1, .int a1), (2, .int a2), (3, .int a3), (4, .int a4), (5, .int a5)]) dX10_drill_49 (by decide) rfl ?_
                refine G_iconst (v := 0) dX10_drill_51 (by decide) ?_
                refine G_istore (lv' := [(7, .int 0), (6, .int 0), (0, .ref (ad X 0)), (1, .int a1), (2, .int a2), (3, .int a3), (4, .int a4), (5, .int a5)]) dX10_drill_52 (by decide) rfl ?_
                exact G_sub [2, 3, 4, 5, 6, 7, 1, 0] rfl (o_X10_drill_54 FU a1 a2 a3 a4 a5 (0 : Int32) (0 : Int32) M3)
              · refine G_iconst (v := (-1)) dX10_drill_42 (by decide) ?_
                exact G_iret rfl dX10_drill_43
-- X10_hold
def f_X10_hold_47 (k19 : Int32 → Int32 → Int32 → gM → Option (Int32 × gM)) (x1 : Int32) (x2 : Int32) (x3 : Int32) (s0 : Int32) (M : gM) : Option (Int32 × gM) := (g_ck (((2079 : Int32) * x1) + x3) 6237 (g_m (sI M 44 (tn (((2079 : Int32) * x1) + x3)) (zb s0)) (fun M5 => (if s0 = 0 then (g_v (x2 + (0 : Int32)) (fun y6 => (k19 x1 y6 (x3 + 1) M5))) else (g_v (x2 + (1 : Int32)) (fun y7 => (k19 x1 y7 (x3 + 1) M5)))))))
set_option maxRecDepth 100000 in
set_option maxHeartbeats 4000000 in
theorem o_X10_hold_47 {X : gX} {k19 : Int32 → Int32 → Int32 → gM → Option (Int32 × gM)} (hk19 : ∀ (x1 : Int32) (x2 : Int32) (x3 : Int32) (M : gM), G Y2 jX10_hold X (g_fin g_ei) 19 [(0, .ref (ad X 0)), (1, .int x1), (2, .int x2), (3, .int x3)] [] M (k19 x1 x2 x3 M)) (x1 : Int32) (x2 : Int32) (x3 : Int32) (s0 : Int32) (M : gM) : G Y2 jX10_hold X (g_fin g_ei) 47 [(0, .ref (ad X 0)), (1, .int x1), (2, .int x2), (3, .int x3)] [.int s0] M (f_X10_hold_47 k19 x1 x2 x3 s0 M) := by
  rw [f_X10_hold_47]
  refine G_istore (lv' := [(4, .int s0), (0, .ref (ad X 0)), (1, .int x1), (2, .int x2), (3, .int x3)]) dX10_hold_47 (by decide) rfl ?_
  refine G_aload_n 1 dX10_hold_49 rfl rfl ?_
  refine G_get 58 clX10 (y2_0) fl_X10_148 dX10_hold_50 (by decide) rfl rfl ?_
  refine G_sipush (v := 2079) dX10_hold_53 (by decide) ?_
  refine G_iload_n 2 dX10_hold_56 rfl rfl ?_
  refine G_imul dX10_hold_57 ?_
  refine G_iload_n 4 dX10_hold_58 rfl rfl ?_
  refine G_iadd dX10_hold_59 ?_
  refine G_iload 0 dX10_hold_60 rfl ?_
  refine G_zast (y2_44) dX10_hold_62 ?_
  refine G_m (fun M5 => ?_)
  refine G_iload_n 3 dX10_hold_63 rfl rfl ?_
  refine G_iload 0 dX10_hold_64 rfl ?_
  refine G_if_eq (tgt := 73) dX10_hold_66 (by decide) ?_ ?_
  · refine G_iconst (v := 0) dX10_hold_73 (by decide) ?_
    refine G_iadd dX10_hold_74 ?_
    refine G_vi (fun y6 => ?_)
    refine G_istore_n (lv' := [(2, .int y6), (4, .int s0), (0, .ref (ad X 0)), (1, .int x1), (3, .int x3)]) dX10_hold_75 rfl (by decide) rfl ?_
    refine G_iinc (v := x3 + 1) (lv' := [(3, .int (x3 + 1)), (2, .int y6), (4, .int s0), (0, .ref (ad X 0)), (1, .int x1)]) 4 dX10_hold_76 rfl rfl (by decide) rfl ?_
    refine G_goto (tgt := 19) dX10_hold_79 (by decide) ?_
    exact G_sub [3, 4, 1, 0] rfl (hk19 x1 y6 (x3 + 1) M5)
  · refine G_iconst (v := 1) dX10_hold_69 (by decide) ?_
    refine G_goto (tgt := 74) dX10_hold_70 (by decide) ?_
    refine G_iadd dX10_hold_74 ?_
    refine G_vi (fun y7 => ?_)
    refine G_istore_n (lv' := [(2, .int y7), (4, .int s0), (0, .ref (ad X 0)), (1, .int x1), (3, .int x3)]) dX10_hold_75 rfl (by decide) rfl ?_
    refine G_iinc (v := x3 + 1) (lv' := [(3, .int (x3 + 1)), (2, .int y7), (4, .int s0), (0, .ref (ad X 0)), (1, .int x1)]) 4 dX10_hold_76 rfl rfl (by decide) rfl ?_
    refine G_goto (tgt := 19) dX10_hold_79 (by decide) ?_
    exact G_sub [3, 4, 1, 0] rfl (hk19 x1 y7 (x3 + 1) M5)
def f_X10_hold_46 (k47 : Int32 → Int32 → Int32 → Int32 → gM → Option (Int32 × gM)) (x1 : Int32) (x2 : Int32) (x3 : Int32) (M : gM) : Option (Int32 × gM) := (k47 x1 x2 x3 (0 : Int32) M)
set_option maxRecDepth 100000 in
set_option maxHeartbeats 4000000 in
theorem o_X10_hold_46 {X : gX} {k47 : Int32 → Int32 → Int32 → Int32 → gM → Option (Int32 × gM)} (hk47 : ∀ (x1 : Int32) (x2 : Int32) (x3 : Int32) (s0 : Int32) (M : gM), G Y2 jX10_hold X (g_fin g_ei) 47 [(0, .ref (ad X 0)), (1, .int x1), (2, .int x2), (3, .int x3)] [.int s0] M (k47 x1 x2 x3 s0 M)) (x1 : Int32) (x2 : Int32) (x3 : Int32) (M : gM) : G Y2 jX10_hold X (g_fin g_ei) 46 [(0, .ref (ad X 0)), (1, .int x1), (2, .int x2), (3, .int x3)] [] M (f_X10_hold_46 k47 x1 x2 x3 M) := by
  rw [f_X10_hold_46]
  refine G_iconst (v := 0) dX10_hold_46 (by decide) ?_
  exact G_sub [0, 1, 2, 3] rfl (hk47 x1 x2 x3 (0 : Int32) M)
def f_X10_hold_19 : Nat → Int32 → Int32 → Int32 → gM → Option (Int32 × gM)
  | 0, _, _, _, _ => none
  | n + 1, x1, x2, x3, M => (if (2079 : Int32) ≤ x3 then (some (x2, M)) else (g_b (f_X10_isState x3 M) (fun r4 M3 => (if r4 then (g_b (f_X10_isSafe x3 M3) (fun r9 M8 => (if r9 then (f_X10_hold_47 (f_X10_hold_19 n) x1 x2 x3 (1 : Int32) M8) else (f_X10_hold_46 (f_X10_hold_47 (f_X10_hold_19 n)) x1 x2 x3 M8)))) else (f_X10_hold_46 (f_X10_hold_47 (f_X10_hold_19 n)) x1 x2 x3 M3)))))
set_option maxRecDepth 100000 in
set_option maxHeartbeats 4000000 in
theorem o_X10_hold_19 {X : gX} : ∀ (n : Nat) (x1 : Int32) (x2 : Int32) (x3 : Int32) (M : gM), G Y2 jX10_hold X (g_fin g_ei) 19 [(0, .ref (ad X 0)), (1, .int x1), (2, .int x2), (3, .int x3)] [] M (f_X10_hold_19 n x1 x2 x3 M) := by
  intro n
  induction n with
  | zero => intro x1 x2 x3 M; exact G_none
  | succ n ih =>
    intro x1 x2 x3 M
    rw [f_X10_hold_19]
    refine G_iload_n 3 dX10_hold_19 rfl rfl ?_
    refine G_sipush (v := 2079) dX10_hold_20 (by decide) ?_
    refine G_icmp_ge (tgt := 82) dX10_hold_23 (by decide) ?_ ?_
    · refine G_iload_n 2 dX10_hold_82 rfl rfl ?_
      exact G_iret rfl dX10_hold_83
    · refine G_aload_n 0 dX10_hold_26 rfl rfl ?_
      refine G_iload_n 3 dX10_hold_27 rfl rfl ?_
      refine G_cVb (As := [.int x3]) (rest := []) (ok_X10_isState x3 M) rfl (y2_0) rfl mv_X10_476 dX10_hold_28 rfl rfl (Nat.le_of_ble_eq_true rfl) (g_fitN (by decide) (by decide)) (fun r4 M3 => ?_)
      refine G_ifB_eq (tgt := 46) dX10_hold_31 (by decide) ?_ ?_
      · exact G_sub [0, 1, 2, 3] rfl (o_X10_hold_46 (o_X10_hold_47 ih) x1 x2 x3 M3)
      · refine G_aload_n 0 dX10_hold_34 rfl rfl ?_
        refine G_iload_n 3 dX10_hold_35 rfl rfl ?_
        refine G_cVb (As := [.int x3]) (rest := []) (ok_X10_isSafe x3 M3) rfl (y2_0) rfl mv_X10_519 dX10_hold_36 rfl rfl (Nat.le_of_ble_eq_true rfl) (g_fitN (by decide) (by decide)) (fun r9 M8 => ?_)
        refine G_ifB_eq (tgt := 46) dX10_hold_39 (by decide) ?_ ?_
        · exact G_sub [0, 1, 2, 3] rfl (o_X10_hold_46 (o_X10_hold_47 ih) x1 x2 x3 M8)
        · refine G_iconst (v := 1) dX10_hold_42 (by decide) ?_
          refine G_goto (tgt := 47) dX10_hold_43 (by decide) ?_
          exact G_sub [0, 1, 2, 3] rfl (o_X10_hold_47 ih x1 x2 x3 (1 : Int32) M8)
def f_X10_hold (a1 : Int32) (M : gM) : Option (Int32 × gM) := (if a1 < 0 then (some (((-1) : Int32), M)) else (if a1 ≤ (2 : Int32) then (g_b (f_X10_lay M) (fun r2 M1 => (f_X10_hold_19 FU a1 (0 : Int32) (0 : Int32) M1))) else (some (((-1) : Int32), M))))
set_option maxRecDepth 100000 in
set_option maxHeartbeats 4000000 in
theorem ok_X10_hold (a1 : Int32) (M : gM) : g_met Y2 yX10_hold jX10_hold g_ei (fun Z => [.ref (Z.2.1 0), .int a1]) M (f_X10_hold a1 M) := by
  refine g_enter (fun Z => [(0, .ref (Z.2.1 0)), (1, .int a1)]) (by decide) rfl (fun Z => Nat.le_of_ble_eq_true rfl) (fun Z => rfl) (fun X => ?_)
  rw [f_X10_hold]
  refine G_iload_n 1 dX10_hold_0 rfl rfl ?_
  refine G_if_lt (tgt := 9) dX10_hold_1 (by decide) ?_ ?_
  · refine G_iconst (v := (-1)) dX10_hold_9 (by decide) ?_
    exact G_iret rfl dX10_hold_10
  · refine G_iload_n 1 dX10_hold_4 rfl rfl ?_
    refine G_iconst (v := 2) dX10_hold_5 (by decide) ?_
    refine G_icmp_le (tgt := 11) dX10_hold_6 (by decide) ?_ ?_
    · refine G_aload_n 0 dX10_hold_11 rfl rfl ?_
      refine G_cVv (As := []) (rest := []) (ok_X10_lay M) rfl (y2_0) rfl mv_X10_516 dX10_hold_12 rfl rfl (Nat.le_of_ble_eq_true rfl) (g_fitN (by decide) (by decide)) (fun r2 M1 => ?_)
      refine G_iconst (v := 0) dX10_hold_15 (by decide) ?_
      refine G_istore_n (lv' := [(2, .int 0), (0, .ref (ad X 0)), (1, .int a1)]) dX10_hold_16 rfl (by decide) rfl ?_
      refine G_iconst (v := 0) dX10_hold_17 (by decide) ?_
      refine G_istore_n (lv' := [(3, .int 0), (2, .int 0), (0, .ref (ad X 0)), (1, .int a1)]) dX10_hold_18 rfl (by decide) rfl ?_
      exact G_sub [2, 3, 1, 0] rfl (o_X10_hold_19 FU a1 (0 : Int32) (0 : Int32) M1)
    · refine G_iconst (v := (-1)) dX10_hold_9 (by decide) ?_
      exact G_iret rfl dX10_hold_10
-- X10_compare
def f_X10_compare_60 (k29 : Int32 → Int32 → Int32 → Int32 → gM → Option (Int32 × gM)) (x1 : Int32) (x2 : Int32) (x3 : Int32) (x4 : Int32) (s0 : Int32) (M : gM) : Option (Int32 × gM) := (g_ck (((2079 : Int32) * x1) + x4) 6237 (g_v (M.1 44 (tn (((2079 : Int32) * x1) + x4))) (fun y5 => (if x2 = 0 then (if s0 = 0 then (k29 x1 x2 x3 (x4 + 1) M) else (if y5 = 0 then (k29 x1 x2 x3 (x4 + 1) M) else (k29 x1 x2 (x3 + 1) (x4 + 1) M))) else (if x2 = (1 : Int32) then (if s0 = 0 then (k29 x1 x2 x3 (x4 + 1) M) else (if y5 = 0 then (k29 x1 x2 (x3 + 1) (x4 + 1) M) else (k29 x1 x2 x3 (x4 + 1) M))) else (if s0 = 0 then (if y5 = 0 then (k29 x1 x2 x3 (x4 + 1) M) else (k29 x1 x2 (x3 + 1) (x4 + 1) M)) else (k29 x1 x2 x3 (x4 + 1) M)))))))
set_option maxRecDepth 100000 in
set_option maxHeartbeats 4000000 in
theorem o_X10_compare_60 {X : gX} {k29 : Int32 → Int32 → Int32 → Int32 → gM → Option (Int32 × gM)} (hk29 : ∀ (x1 : Int32) (x2 : Int32) (x3 : Int32) (x4 : Int32) (M : gM), G Y2 jX10_compare X (g_fin g_ei) 29 [(0, .ref (ad X 0)), (1, .int x1), (2, .int x2), (3, .int x3), (4, .int x4)] [] M (k29 x1 x2 x3 x4 M)) (x1 : Int32) (x2 : Int32) (x3 : Int32) (x4 : Int32) (s0 : Int32) (M : gM) : G Y2 jX10_compare X (g_fin g_ei) 60 [(0, .ref (ad X 0)), (1, .int x1), (2, .int x2), (3, .int x3), (4, .int x4)] [.int s0] M (f_X10_compare_60 k29 x1 x2 x3 x4 s0 M) := by
  rw [f_X10_compare_60]
  refine G_istore (lv' := [(5, .int s0), (0, .ref (ad X 0)), (1, .int x1), (2, .int x2), (3, .int x3), (4, .int x4)]) dX10_compare_60 (by decide) rfl ?_
  refine G_aload_n 1 dX10_compare_62 rfl rfl ?_
  refine G_get 58 clX10 (y2_0) fl_X10_148 dX10_compare_63 (by decide) rfl rfl ?_
  refine G_sipush (v := 2079) dX10_compare_66 (by decide) ?_
  refine G_iload_n 2 dX10_compare_69 rfl rfl ?_
  refine G_imul dX10_compare_70 ?_
  refine G_iload 5 dX10_compare_71 rfl ?_
  refine G_iadd dX10_compare_73 ?_
  refine G_zald (y2_44) dX10_compare_74 ?_
  refine G_vi (fun y5 => ?_)
  refine G_istore (lv' := [(6, .int y5), (5, .int s0), (0, .ref (ad X 0)), (1, .int x1), (2, .int x2), (3, .int x3), (4, .int x4)]) dX10_compare_75 (by decide) rfl ?_
  refine G_iload_n 4 dX10_compare_77 rfl rfl ?_
  refine G_if_ne (tgt := 94) dX10_compare_78 (by decide) ?_ ?_
  · refine G_iload_n 4 dX10_compare_94 rfl rfl ?_
    refine G_iconst (v := 1) dX10_compare_95 (by decide) ?_
    refine G_icmp_ne (tgt := 112) dX10_compare_96 (by decide) ?_ ?_
    · refine G_iload 1 dX10_compare_112 rfl ?_
      refine G_if_ne (tgt := 125) dX10_compare_114 (by decide) ?_ ?_
      · refine G_iinc (v := x4 + 1) (lv' := [(4, .int (x4 + 1)), (6, .int y5), (5, .int s0), (0, .ref (ad X 0)), (1, .int x1), (2, .int x2), (3, .int x3)]) 6 dX10_compare_125 rfl rfl (by decide) rfl ?_
        refine G_goto (tgt := 29) dX10_compare_128 (by decide) ?_
        exact G_sub [3, 4, 5, 6, 0] rfl (hk29 x1 x2 x3 (x4 + 1) M)
      · refine G_iload 0 dX10_compare_117 rfl ?_
        refine G_if_eq (tgt := 125) dX10_compare_119 (by decide) ?_ ?_
        · refine G_iinc (v := x4 + 1) (lv' := [(4, .int (x4 + 1)), (6, .int y5), (5, .int s0), (0, .ref (ad X 0)), (1, .int x1), (2, .int x2), (3, .int x3)]) 6 dX10_compare_125 rfl rfl (by decide) rfl ?_
          refine G_goto (tgt := 29) dX10_compare_128 (by decide) ?_
          exact G_sub [3, 4, 5, 6, 0] rfl (hk29 x1 x2 x3 (x4 + 1) M)
        · refine G_iinc (v := x3 + 1) (lv' := [(3, .int (x3 + 1)), (6, .int y5), (5, .int s0), (0, .ref (ad X 0)), (1, .int x1), (2, .int x2), (4, .int x4)]) 5 dX10_compare_122 rfl rfl (by decide) rfl ?_
          refine G_iinc (v := x4 + 1) (lv' := [(4, .int (x4 + 1)), (3, .int (x3 + 1)), (6, .int y5), (5, .int s0), (0, .ref (ad X 0)), (1, .int x1), (2, .int x2)]) 6 dX10_compare_125 rfl rfl (by decide) rfl ?_
          refine G_goto (tgt := 29) dX10_compare_128 (by decide) ?_
          exact G_sub [4, 5, 6, 1, 0] rfl (hk29 x1 x2 (x3 + 1) (x4 + 1) M)
    · refine G_iload 1 dX10_compare_99 rfl ?_
      refine G_if_eq (tgt := 125) dX10_compare_101 (by decide) ?_ ?_
      · refine G_iinc (v := x4 + 1) (lv' := [(4, .int (x4 + 1)), (6, .int y5), (5, .int s0), (0, .ref (ad X 0)), (1, .int x1), (2, .int x2), (3, .int x3)]) 6 dX10_compare_125 rfl rfl (by decide) rfl ?_
        refine G_goto (tgt := 29) dX10_compare_128 (by decide) ?_
        exact G_sub [3, 4, 5, 6, 0] rfl (hk29 x1 x2 x3 (x4 + 1) M)
      · refine G_iload 0 dX10_compare_104 rfl ?_
        refine G_if_ne (tgt := 125) dX10_compare_106 (by decide) ?_ ?_
        · refine G_iinc (v := x4 + 1) (lv' := [(4, .int (x4 + 1)), (6, .int y5), (5, .int s0), (0, .ref (ad X 0)), (1, .int x1), (2, .int x2), (3, .int x3)]) 6 dX10_compare_125 rfl rfl (by decide) rfl ?_
          refine G_goto (tgt := 29) dX10_compare_128 (by decide) ?_
          exact G_sub [3, 4, 5, 6, 0] rfl (hk29 x1 x2 x3 (x4 + 1) M)
        · refine G_goto (tgt := 122) dX10_compare_109 (by decide) ?_
          refine G_iinc (v := x3 + 1) (lv' := [(3, .int (x3 + 1)), (6, .int y5), (5, .int s0), (0, .ref (ad X 0)), (1, .int x1), (2, .int x2), (4, .int x4)]) 5 dX10_compare_122 rfl rfl (by decide) rfl ?_
          refine G_iinc (v := x4 + 1) (lv' := [(4, .int (x4 + 1)), (3, .int (x3 + 1)), (6, .int y5), (5, .int s0), (0, .ref (ad X 0)), (1, .int x1), (2, .int x2)]) 6 dX10_compare_125 rfl rfl (by decide) rfl ?_
          refine G_goto (tgt := 29) dX10_compare_128 (by decide) ?_
          exact G_sub [4, 5, 6, 1, 0] rfl (hk29 x1 x2 (x3 + 1) (x4 + 1) M)
  · refine G_iload 1 dX10_compare_81 rfl ?_
    refine G_if_eq (tgt := 125) dX10_compare_83 (by decide) ?_ ?_
    · refine G_iinc (v := x4 + 1) (lv' := [(4, .int (x4 + 1)), (6, .int y5), (5, .int s0), (0, .ref (ad X 0)), (1, .int x1), (2, .int x2), (3, .int x3)]) 6 dX10_compare_125 rfl rfl (by decide) rfl ?_
      refine G_goto (tgt := 29) dX10_compare_128 (by decide) ?_
      exact G_sub [3, 4, 5, 6, 0] rfl (hk29 x1 x2 x3 (x4 + 1) M)
    · refine G_iload 0 dX10_compare_86 rfl ?_
      refine G_if_eq (tgt := 125) dX10_compare_88 (by decide) ?_ ?_
      · refine G_iinc (v := x4 + 1) (lv' := [(4, .int (x4 + 1)), (6, .int y5), (5, .int s0), (0, .ref (ad X 0)), (1, .int x1), (2, .int x2), (3, .int x3)]) 6 dX10_compare_125 rfl rfl (by decide) rfl ?_
        refine G_goto (tgt := 29) dX10_compare_128 (by decide) ?_
        exact G_sub [3, 4, 5, 6, 0] rfl (hk29 x1 x2 x3 (x4 + 1) M)
      · refine G_goto (tgt := 122) dX10_compare_91 (by decide) ?_
        refine G_iinc (v := x3 + 1) (lv' := [(3, .int (x3 + 1)), (6, .int y5), (5, .int s0), (0, .ref (ad X 0)), (1, .int x1), (2, .int x2), (4, .int x4)]) 5 dX10_compare_122 rfl rfl (by decide) rfl ?_
        refine G_iinc (v := x4 + 1) (lv' := [(4, .int (x4 + 1)), (3, .int (x3 + 1)), (6, .int y5), (5, .int s0), (0, .ref (ad X 0)), (1, .int x1), (2, .int x2)]) 6 dX10_compare_125 rfl rfl (by decide) rfl ?_
        refine G_goto (tgt := 29) dX10_compare_128 (by decide) ?_
        exact G_sub [4, 5, 6, 1, 0] rfl (hk29 x1 x2 (x3 + 1) (x4 + 1) M)
def f_X10_compare_59 (k60 : Int32 → Int32 → Int32 → Int32 → Int32 → gM → Option (Int32 × gM)) (x1 : Int32) (x2 : Int32) (x3 : Int32) (x4 : Int32) (M : gM) : Option (Int32 × gM) := (k60 x1 x2 x3 x4 (0 : Int32) M)
set_option maxRecDepth 100000 in
set_option maxHeartbeats 4000000 in
theorem o_X10_compare_59 {X : gX} {k60 : Int32 → Int32 → Int32 → Int32 → Int32 → gM → Option (Int32 × gM)} (hk60 : ∀ (x1 : Int32) (x2 : Int32) (x3 : Int32) (x4 : Int32) (s0 : Int32) (M : gM), G Y2 jX10_compare X (g_fin g_ei) 60 [(0, .ref (ad X 0)), (1, .int x1), (2, .int x2), (3, .int x3), (4, .int x4)] [.int s0] M (k60 x1 x2 x3 x4 s0 M)) (x1 : Int32) (x2 : Int32) (x3 : Int32) (x4 : Int32) (M : gM) : G Y2 jX10_compare X (g_fin g_ei) 59 [(0, .ref (ad X 0)), (1, .int x1), (2, .int x2), (3, .int x3), (4, .int x4)] [] M (f_X10_compare_59 k60 x1 x2 x3 x4 M) := by
  rw [f_X10_compare_59]
  refine G_iconst (v := 0) dX10_compare_59 (by decide) ?_
  exact G_sub [0, 1, 2, 3, 4] rfl (hk60 x1 x2 x3 x4 (0 : Int32) M)
def f_X10_compare_29 : Nat → Int32 → Int32 → Int32 → Int32 → gM → Option (Int32 × gM)
  | 0, _, _, _, _, _ => none
  | n + 1, x1, x2, x3, x4, M => (if (2079 : Int32) ≤ x4 then (some (x3, M)) else (g_b (f_X10_isState x4 M) (fun r4 M3 => (if r4 then (g_b (f_X10_isSafe x4 M3) (fun r7 M6 => (if r7 then (f_X10_compare_60 (f_X10_compare_29 n) x1 x2 x3 x4 (1 : Int32) M6) else (f_X10_compare_59 (f_X10_compare_60 (f_X10_compare_29 n)) x1 x2 x3 x4 M6)))) else (f_X10_compare_59 (f_X10_compare_60 (f_X10_compare_29 n)) x1 x2 x3 x4 M3)))))
set_option maxRecDepth 100000 in
set_option maxHeartbeats 4000000 in
theorem o_X10_compare_29 {X : gX} : ∀ (n : Nat) (x1 : Int32) (x2 : Int32) (x3 : Int32) (x4 : Int32) (M : gM), G Y2 jX10_compare X (g_fin g_ei) 29 [(0, .ref (ad X 0)), (1, .int x1), (2, .int x2), (3, .int x3), (4, .int x4)] [] M (f_X10_compare_29 n x1 x2 x3 x4 M) := by
  intro n
  induction n with
  | zero => intro x1 x2 x3 x4 M; exact G_none
  | succ n ih =>
    intro x1 x2 x3 x4 M
    rw [f_X10_compare_29]
    refine G_iload 4 dX10_compare_29 rfl ?_
    refine G_sipush (v := 2079) dX10_compare_31 (by decide) ?_
    refine G_icmp_ge (tgt := 131) dX10_compare_34 (by decide) ?_ ?_
    · refine G_iload_n 3 dX10_compare_131 rfl rfl ?_
      exact G_iret rfl dX10_compare_132
    · refine G_aload_n 0 dX10_compare_37 rfl rfl ?_
      refine G_iload 4 dX10_compare_38 rfl ?_
      refine G_cVb (As := [.int x4]) (rest := []) (ok_X10_isState x4 M) rfl (y2_0) rfl mv_X10_476 dX10_compare_40 rfl rfl (Nat.le_of_ble_eq_true rfl) (g_fitN (by decide) (by decide)) (fun r4 M3 => ?_)
      refine G_ifB_eq (tgt := 59) dX10_compare_43 (by decide) ?_ ?_
      · exact G_sub [0, 1, 2, 3, 4] rfl (o_X10_compare_59 (o_X10_compare_60 ih) x1 x2 x3 x4 M3)
      · refine G_aload_n 0 dX10_compare_46 rfl rfl ?_
        refine G_iload 4 dX10_compare_47 rfl ?_
        refine G_cVb (As := [.int x4]) (rest := []) (ok_X10_isSafe x4 M3) rfl (y2_0) rfl mv_X10_519 dX10_compare_49 rfl rfl (Nat.le_of_ble_eq_true rfl) (g_fitN (by decide) (by decide)) (fun r7 M6 => ?_)
        refine G_ifB_eq (tgt := 59) dX10_compare_52 (by decide) ?_ ?_
        · exact G_sub [0, 1, 2, 3, 4] rfl (o_X10_compare_59 (o_X10_compare_60 ih) x1 x2 x3 x4 M6)
        · refine G_iconst (v := 1) dX10_compare_55 (by decide) ?_
          refine G_goto (tgt := 60) dX10_compare_56 (by decide) ?_
          exact G_sub [0, 1, 2, 3, 4] rfl (o_X10_compare_60 ih x1 x2 x3 x4 (1 : Int32) M6)
def f_X10_compare (a1 : Int32) (a2 : Int32) (M : gM) : Option (Int32 × gM) := (if a1 < 0 then (some (((-1) : Int32), M)) else (if (2 : Int32) < a1 then (some (((-1) : Int32), M)) else (if a2 < 0 then (some (((-1) : Int32), M)) else (if a2 ≤ (2 : Int32) then (g_b (f_X10_lay M) (fun r2 M1 => (f_X10_compare_29 FU a1 a2 (0 : Int32) (0 : Int32) M1))) else (some (((-1) : Int32), M))))))
set_option maxRecDepth 100000 in
set_option maxHeartbeats 4000000 in
theorem ok_X10_compare (a1 : Int32) (a2 : Int32) (M : gM) : g_met Y2 yX10_compare jX10_compare g_ei (fun Z => [.ref (Z.2.1 0), .int a1, .int a2]) M (f_X10_compare a1 a2 M) := by
  refine g_enter (fun Z => [(0, .ref (Z.2.1 0)), (1, .int a1), (2, .int a2)]) (by decide) rfl (fun Z => Nat.le_of_ble_eq_true rfl) (fun Z => rfl) (fun X => ?_)
  rw [f_X10_compare]
  refine G_iload_n 1 dX10_compare_0 rfl rfl ?_
  refine G_if_lt (tgt := 18) dX10_compare_1 (by decide) ?_ ?_
  · refine G_iconst (v := (-1)) dX10_compare_18 (by decide) ?_
    exact G_iret rfl dX10_compare_19
  · refine G_iload_n 1 dX10_compare_4 rfl rfl ?_
    refine G_iconst (v := 2) dX10_compare_5 (by decide) ?_
    refine G_icmp_gt (tgt := 18) dX10_compare_6 (by decide) ?_ ?_
    · refine G_iconst (v := (-1)) dX10_compare_18 (by decide) ?_
      exact G_iret rfl dX10_compare_19
    · refine G_iload_n 2 dX10_compare_9 rfl rfl ?_
      refine G_if_lt (tgt := 18) dX10_compare_10 (by decide) ?_ ?_
      · refine G_iconst (v := (-1)) dX10_compare_18 (by decide) ?_
        exact G_iret rfl dX10_compare_19
      · refine G_iload_n 2 dX10_compare_13 rfl rfl ?_
        refine G_iconst (v := 2) dX10_compare_14 (by decide) ?_
        refine G_icmp_le (tgt := 20) dX10_compare_15 (by decide) ?_ ?_
        · refine G_aload_n 0 dX10_compare_20 rfl rfl ?_
          refine G_cVv (As := []) (rest := []) (ok_X10_lay M) rfl (y2_0) rfl mv_X10_516 dX10_compare_21 rfl rfl (Nat.le_of_ble_eq_true rfl) (g_fitN (by decide) (by decide)) (fun r2 M1 => ?_)
          refine G_iconst (v := 0) dX10_compare_24 (by decide) ?_
          refine G_istore_n (lv' := [(3, .int 0), (0, .ref (ad X 0)), (1, .int a1), (2, .int a2)]) dX10_compare_25 rfl (by decide) rfl ?_
          refine G_iconst (v := 0) dX10_compare_26 (by decide) ?_
          refine G_istore (lv' := [(4, .int 0), (3, .int 0), (0, .ref (ad X 0)), (1, .int a1), (2, .int a2)]) dX10_compare_27 (by decide) rfl ?_
          exact G_sub [2, 3, 4, 1, 0] rfl (o_X10_compare_29 FU a1 a2 (0 : Int32) (0 : Int32) M1)
        · refine G_iconst (v := (-1)) dX10_compare_18 (by decide) ?_
          exact G_iret rfl dX10_compare_19
-- X10_statesOf
def f_X10_statesOf_4 : Nat → Bool → Int32 → Int32 → gM → Option (Int32 × gM)
  | 0, _, _, _, _ => none
  | n + 1, x1, x2, x3, M => (if (2079 : Int32) ≤ x3 then (some (x2, M)) else (g_b (f_X10_isState x3 M) (fun r2 M1 => (if r2 then (if x1 then (g_b (f_X10_isSafe x3 M1) (fun r6 M5 => (if r6 then (g_v (x2 + (1 : Int32)) (fun y8 => (f_X10_statesOf_4 n x1 y8 (x3 + 1) M5))) else (g_v (x2 + (0 : Int32)) (fun y7 => (f_X10_statesOf_4 n x1 y7 (x3 + 1) M5)))))) else (g_v (x2 + (1 : Int32)) (fun y4 => (f_X10_statesOf_4 n x1 y4 (x3 + 1) M1)))) else (g_v (x2 + (0 : Int32)) (fun y3 => (f_X10_statesOf_4 n x1 y3 (x3 + 1) M1)))))))
set_option maxRecDepth 100000 in
set_option maxHeartbeats 4000000 in
theorem o_X10_statesOf_4 {X : gX} : ∀ (n : Nat) (x1 : Bool) (x2 : Int32) (x3 : Int32) (M : gM), G Y2 jX10_statesOf X (g_fin g_ei) 4 [(0, .ref (ad X 0)), (1, .int (b2i x1)), (2, .int x2), (3, .int x3)] [] M (f_X10_statesOf_4 n x1 x2 x3 M) := by
  intro n
  induction n with
  | zero => intro x1 x2 x3 M; exact G_none
  | succ n ih =>
    intro x1 x2 x3 M
    rw [f_X10_statesOf_4]
    refine G_iload_n 3 dX10_statesOf_4 rfl rfl ?_
    refine G_sipush (v := 2079) dX10_statesOf_5 (by decide) ?_
    refine G_icmp_ge (tgt := 45) dX10_statesOf_8 (by decide) ?_ ?_
    · refine G_iload_n 2 dX10_statesOf_45 rfl rfl ?_
      exact G_iret rfl dX10_statesOf_46
    · refine G_iload_n 2 dX10_statesOf_11 rfl rfl ?_
      refine G_aload_n 0 dX10_statesOf_12 rfl rfl ?_
      refine G_iload_n 3 dX10_statesOf_13 rfl rfl ?_
      refine G_cVb (As := [.int x3]) (rest := [.int x2]) (ok_X10_isState x3 M) rfl (y2_0) rfl mv_X10_476 dX10_statesOf_14 rfl rfl (Nat.le_of_ble_eq_true rfl) (g_fitN (by decide) (by decide)) (fun r2 M1 => ?_)
      refine G_ifB_eq (tgt := 36) dX10_statesOf_17 (by decide) ?_ ?_
      · refine G_iconst (v := 0) dX10_statesOf_36 (by decide) ?_
        refine G_iadd dX10_statesOf_37 ?_
        refine G_vi (fun y3 => ?_)
        refine G_istore_n (lv' := [(2, .int y3), (0, .ref (ad X 0)), (1, .int (b2i x1)), (3, .int x3)]) dX10_statesOf_38 rfl (by decide) rfl ?_
        refine G_iinc (v := x3 + 1) (lv' := [(3, .int (x3 + 1)), (2, .int y3), (0, .ref (ad X 0)), (1, .int (b2i x1))]) 3 dX10_statesOf_39 rfl rfl (by decide) rfl ?_
        refine G_goto (tgt := 4) dX10_statesOf_42 (by decide) ?_
        exact G_sub [2, 3, 1, 0] rfl (ih x1 y3 (x3 + 1) M1)
      · refine G_iload_n 1 dX10_statesOf_20 rfl rfl ?_
        refine G_ifB_eq (tgt := 32) dX10_statesOf_21 (by decide) ?_ ?_
        · refine G_iconst (v := 1) dX10_statesOf_32 (by decide) ?_
          refine G_goto (tgt := 37) dX10_statesOf_33 (by decide) ?_
          refine G_iadd dX10_statesOf_37 ?_
          refine G_vi (fun y4 => ?_)
          refine G_istore_n (lv' := [(2, .int y4), (0, .ref (ad X 0)), (1, .int (b2i x1)), (3, .int x3)]) dX10_statesOf_38 rfl (by decide) rfl ?_
          refine G_iinc (v := x3 + 1) (lv' := [(3, .int (x3 + 1)), (2, .int y4), (0, .ref (ad X 0)), (1, .int (b2i x1))]) 3 dX10_statesOf_39 rfl rfl (by decide) rfl ?_
          refine G_goto (tgt := 4) dX10_statesOf_42 (by decide) ?_
          exact G_sub [2, 3, 1, 0] rfl (ih x1 y4 (x3 + 1) M1)
        · refine G_aload_n 0 dX10_statesOf_24 rfl rfl ?_
          refine G_iload_n 3 dX10_statesOf_25 rfl rfl ?_
          refine G_cVb (As := [.int x3]) (rest := [.int x2]) (ok_X10_isSafe x3 M1) rfl (y2_0) rfl mv_X10_519 dX10_statesOf_26 rfl rfl (Nat.le_of_ble_eq_true rfl) (g_fitN (by decide) (by decide)) (fun r6 M5 => ?_)
          refine G_ifB_eq (tgt := 36) dX10_statesOf_29 (by decide) ?_ ?_
          · refine G_iconst (v := 0) dX10_statesOf_36 (by decide) ?_
            refine G_iadd dX10_statesOf_37 ?_
            refine G_vi (fun y7 => ?_)
            refine G_istore_n (lv' := [(2, .int y7), (0, .ref (ad X 0)), (1, .int (b2i x1)), (3, .int x3)]) dX10_statesOf_38 rfl (by decide) rfl ?_
            refine G_iinc (v := x3 + 1) (lv' := [(3, .int (x3 + 1)), (2, .int y7), (0, .ref (ad X 0)), (1, .int (b2i x1))]) 3 dX10_statesOf_39 rfl rfl (by decide) rfl ?_
            refine G_goto (tgt := 4) dX10_statesOf_42 (by decide) ?_
            exact G_sub [2, 3, 1, 0] rfl (ih x1 y7 (x3 + 1) M5)
          · refine G_iconst (v := 1) dX10_statesOf_32 (by decide) ?_
            refine G_goto (tgt := 37) dX10_statesOf_33 (by decide) ?_
            refine G_iadd dX10_statesOf_37 ?_
            refine G_vi (fun y8 => ?_)
            refine G_istore_n (lv' := [(2, .int y8), (0, .ref (ad X 0)), (1, .int (b2i x1)), (3, .int x3)]) dX10_statesOf_38 rfl (by decide) rfl ?_
            refine G_iinc (v := x3 + 1) (lv' := [(3, .int (x3 + 1)), (2, .int y8), (0, .ref (ad X 0)), (1, .int (b2i x1))]) 3 dX10_statesOf_39 rfl rfl (by decide) rfl ?_
            refine G_goto (tgt := 4) dX10_statesOf_42 (by decide) ?_
            exact G_sub [2, 3, 1, 0] rfl (ih x1 y8 (x3 + 1) M5)
def f_X10_statesOf (a1 : Bool) (M : gM) : Option (Int32 × gM) := (f_X10_statesOf_4 FU a1 (0 : Int32) (0 : Int32) M)
set_option maxRecDepth 100000 in
set_option maxHeartbeats 4000000 in
theorem ok_X10_statesOf (a1 : Bool) (M : gM) : g_met Y2 yX10_statesOf jX10_statesOf g_ei (fun Z => [.ref (Z.2.1 0), .int (b2i a1)]) M (f_X10_statesOf a1 M) := by
  refine g_enter (fun Z => [(0, .ref (Z.2.1 0)), (1, .int (b2i a1))]) (by decide) rfl (fun Z => Nat.le_of_ble_eq_true rfl) (fun Z => rfl) (fun X => ?_)
  rw [f_X10_statesOf]
  refine G_iconst (v := 0) dX10_statesOf_0 (by decide) ?_
  refine G_istore_n (lv' := [(2, .int 0), (0, .ref (ad X 0)), (1, .int (b2i a1))]) dX10_statesOf_1 rfl (by decide) rfl ?_
  refine G_iconst (v := 0) dX10_statesOf_2 (by decide) ?_
  refine G_istore_n (lv' := [(3, .int 0), (2, .int 0), (0, .ref (ad X 0)), (1, .int (b2i a1))]) dX10_statesOf_3 rfl (by decide) rfl ?_
  exact G_sub [2, 3, 1, 0] rfl (o_X10_statesOf_4 FU a1 (0 : Int32) (0 : Int32) M)
-- X10_count
def f_X10_count (a1 : Int32) (M : gM) : Option (Int32 × gM) := (if a1 = 0 then (g_ck (M.1 0 13) 2 (some ((M.1 6 (tn (M.1 0 13))), M))) else (if a1 = 1 then (g_ck (M.1 0 13) 2 (some ((M.1 7 (tn (M.1 0 13))), M))) else (if a1 = 2 then (g_ck (M.1 0 13) 2 (some ((M.1 8 (tn (M.1 0 13))), M))) else (if a1 = 3 then (g_b (f_X10_actsOf M) (fun r5 M4 => (some (r5, M4)))) else (if a1 = 4 then (g_ck (M.1 0 13) 2 (some ((M.1 17 (tn (M.1 0 13))), M))) else (if a1 = 5 then (g_ck (M.1 0 13) 2 (some ((M.1 24 (tn (M.1 0 13))), M))) else (if a1 = 6 then (some ((M.1 0 47), M)) else (if a1 = 7 then (some ((M.1 0 48), M)) else (if a1 = 8 then (some ((M.1 0 50), M)) else (if a1 = 9 then (if (M.1 0 53) = 0 then (some (((-1) : Int32), M)) else (some ((M.1 0 54), M))) else (if a1 = 10 then (some ((M.1 0 1), M)) else (if a1 = 11 then (g_b (f_X10_statesOf false M) (fun r15 M14 => (some (r15, M14)))) else (if a1 = 12 then (g_b (f_X10_lay M) (fun r18 M17 => (g_b (f_X10_statesOf true M17) (fun r20 M19 => (some (r20, M19)))))) else (if a1 = 13 then (if (M.1 0 53) = 0 then (some (((-1) : Int32), M)) else (g_ck (M.1 0 54) 201 (some ((M.1 41 (tn (M.1 0 54))), M)))) else (some (((-1) : Int32), M))))))))))))))))
set_option maxRecDepth 100000 in
set_option maxHeartbeats 4000000 in
theorem ok_X10_count (a1 : Int32) (M : gM) : g_met Y2 yX10_count jX10_count g_ei (fun Z => [.ref (Z.2.1 0), .int a1]) M (f_X10_count a1 M) := by
  refine g_enter (fun Z => [(0, .ref (Z.2.1 0)), (1, .int a1)]) (by decide) rfl (fun Z => Nat.le_of_ble_eq_true rfl) (fun Z => rfl) (fun X => ?_)
  rw [f_X10_count]
  refine G_iload_n 1 dX10_count_0 rfl rfl ?_
  refine G_ite (fun h1 => ?_) (fun h1 => ?_)
  · refine G_tabIn (tgt := 72) (off := 71) dX10_count_1 (by rw [h1]; decide) (by rw [h1]; decide) (by rw [h1]; decide) (by decide) ?_
    refine G_aload_n 0 dX10_count_72 rfl rfl ?_
    refine G_get 15 clX10 (y2_0) fl_X10_30 dX10_count_73 (by decide) rfl rfl ?_
    refine G_aload_n 0 dX10_count_76 rfl rfl ?_
    refine G_get 13 clX10 (y2_0) fl_X10_388 dX10_count_77 (by decide) rfl rfl ?_
    refine G_iald (y2_6) dX10_count_80 ?_
    exact G_iret rfl dX10_count_81
  refine G_ite (fun h2 => ?_) (fun h2 => ?_)
  · refine G_tabIn (tgt := 82) (off := 81) dX10_count_1 (by rw [h2]; decide) (by rw [h2]; decide) (by rw [h2]; decide) (by decide) ?_
    refine G_aload_n 0 dX10_count_82 rfl rfl ?_
    refine G_get 16 clX10 (y2_0) fl_X10_33 dX10_count_83 (by decide) rfl rfl ?_
    refine G_aload_n 0 dX10_count_86 rfl rfl ?_
    refine G_get 13 clX10 (y2_0) fl_X10_388 dX10_count_87 (by decide) rfl rfl ?_
    refine G_iald (y2_7) dX10_count_90 ?_
    exact G_iret rfl dX10_count_91
  refine G_ite (fun h3 => ?_) (fun h3 => ?_)
  · refine G_tabIn (tgt := 92) (off := 91) dX10_count_1 (by rw [h3]; decide) (by rw [h3]; decide) (by rw [h3]; decide) (by decide) ?_
    refine G_aload_n 0 dX10_count_92 rfl rfl ?_
    refine G_get 17 clX10 (y2_0) fl_X10_36 dX10_count_93 (by decide) rfl rfl ?_
    refine G_aload_n 0 dX10_count_96 rfl rfl ?_
    refine G_get 13 clX10 (y2_0) fl_X10_388 dX10_count_97 (by decide) rfl rfl ?_
    refine G_iald (y2_8) dX10_count_100 ?_
    exact G_iret rfl dX10_count_101
  refine G_ite (fun h6 => ?_) (fun h6 => ?_)
  · refine G_tabIn (tgt := 102) (off := 101) dX10_count_1 (by rw [h6]; decide) (by rw [h6]; decide) (by rw [h6]; decide) (by decide) ?_
    refine G_aload_n 0 dX10_count_102 rfl rfl ?_
    refine G_cVi (As := []) (rest := []) (ok_X10_actsOf M) rfl (y2_0) rfl mv_X10_482 dX10_count_103 rfl rfl (Nat.le_of_ble_eq_true rfl) (g_fitN (by decide) (by decide)) (fun r5 M4 => ?_)
    exact G_iret rfl dX10_count_106
  refine G_ite (fun h7 => ?_) (fun h7 => ?_)
  · refine G_tabIn (tgt := 107) (off := 106) dX10_count_1 (by rw [h7]; decide) (by rw [h7]; decide) (by rw [h7]; decide) (by decide) ?_
    refine G_aload_n 0 dX10_count_107 rfl rfl ?_
    refine G_get 26 clX10 (y2_0) fl_X10_63 dX10_count_108 (by decide) rfl rfl ?_
    refine G_aload_n 0 dX10_count_111 rfl rfl ?_
    refine G_get 13 clX10 (y2_0) fl_X10_388 dX10_count_112 (by decide) rfl rfl ?_
    refine G_iald (y2_17) dX10_count_115 ?_
    exact G_iret rfl dX10_count_116
  refine G_ite (fun h8 => ?_) (fun h8 => ?_)
  · refine G_tabIn (tgt := 117) (off := 116) dX10_count_1 (by rw [h8]; decide) (by rw [h8]; decide) (by rw [h8]; decide) (by decide) ?_
    refine G_aload_n 0 dX10_count_117 rfl rfl ?_
    refine G_get 33 clX10 (y2_0) fl_X10_84 dX10_count_118 (by decide) rfl rfl ?_
    refine G_aload_n 0 dX10_count_121 rfl rfl ?_
    refine G_get 13 clX10 (y2_0) fl_X10_388 dX10_count_122 (by decide) rfl rfl ?_
    refine G_iald (y2_24) dX10_count_125 ?_
    exact G_iret rfl dX10_count_126
  refine G_ite (fun h9 => ?_) (fun h9 => ?_)
  · refine G_tabIn (tgt := 127) (off := 126) dX10_count_1 (by rw [h9]; decide) (by rw [h9]; decide) (by rw [h9]; decide) (by decide) ?_
    refine G_aload_n 0 dX10_count_127 rfl rfl ?_
    refine G_get 47 clX10 (y2_0) fl_X10_127 dX10_count_128 (by decide) rfl rfl ?_
    exact G_iret rfl dX10_count_131
  refine G_ite (fun h10 => ?_) (fun h10 => ?_)
  · refine G_tabIn (tgt := 132) (off := 131) dX10_count_1 (by rw [h10]; decide) (by rw [h10]; decide) (by rw [h10]; decide) (by decide) ?_
    refine G_aload_n 0 dX10_count_132 rfl rfl ?_
    refine G_get 48 clX10 (y2_0) fl_X10_394 dX10_count_133 (by decide) rfl rfl ?_
    exact G_iret rfl dX10_count_136
  refine G_ite (fun h11 => ?_) (fun h11 => ?_)
  · refine G_tabIn (tgt := 137) (off := 136) dX10_count_1 (by rw [h11]; decide) (by rw [h11]; decide) (by rw [h11]; decide) (by decide) ?_
    refine G_aload_n 0 dX10_count_137 rfl rfl ?_
    refine G_get 50 clX10 (y2_0) fl_X10_400 dX10_count_138 (by decide) rfl rfl ?_
    exact G_iret rfl dX10_count_141
  refine G_ite (fun h12 => ?_) (fun h12 => ?_)
  · refine G_tabIn (tgt := 142) (off := 141) dX10_count_1 (by rw [h12]; decide) (by rw [h12]; decide) (by rw [h12]; decide) (by decide) ?_
    refine G_aload_n 0 dX10_count_142 rfl rfl ?_
    refine G_get 53 clX10 (y2_0) fl_X10_403 dX10_count_143 (by decide) rfl rfl ?_
    refine G_if_eq (tgt := 156) dX10_count_146 (by decide) ?_ ?_
    · refine G_iconst (v := (-1)) dX10_count_156 (by decide) ?_
      exact G_iret rfl dX10_count_157
    · refine G_aload_n 0 dX10_count_149 rfl rfl ?_
      refine G_get 54 clX10 (y2_0) fl_X10_407 dX10_count_150 (by decide) rfl rfl ?_
      refine G_goto (tgt := 157) dX10_count_153 (by decide) ?_
      exact G_iret rfl dX10_count_157
  refine G_ite (fun h13 => ?_) (fun h13 => ?_)
  · refine G_tabIn (tgt := 158) (off := 157) dX10_count_1 (by rw [h13]; decide) (by rw [h13]; decide) (by rw [h13]; decide) (by decide) ?_
    refine G_aload_n 0 dX10_count_158 rfl rfl ?_
    refine G_get 1 clX10 (y2_0) fl_X10_214 dX10_count_159 (by decide) rfl rfl ?_
    exact G_iret rfl dX10_count_162
  refine G_ite (fun h16 => ?_) (fun h16 => ?_)
  · refine G_tabIn (tgt := 163) (off := 162) dX10_count_1 (by rw [h16]; decide) (by rw [h16]; decide) (by rw [h16]; decide) (by decide) ?_
    refine G_aload_n 0 dX10_count_163 rfl rfl ?_
    refine G_iconst (v := 0) dX10_count_164 (by decide) ?_
    refine G_cVi (As := [.int 0]) (rest := []) (ok_X10_statesOf false M) rfl (y2_0) rfl mv_X10_591 dX10_count_165 rfl rfl (Nat.le_of_ble_eq_true rfl) (g_fitN (by decide) (by decide)) (fun r15 M14 => ?_)
    exact G_iret rfl dX10_count_168
  refine G_ite (fun h21 => ?_) (fun h21 => ?_)
  · refine G_tabIn (tgt := 169) (off := 168) dX10_count_1 (by rw [h21]; decide) (by rw [h21]; decide) (by rw [h21]; decide) (by decide) ?_
    refine G_aload_n 0 dX10_count_169 rfl rfl ?_
    refine G_cVv (As := []) (rest := []) (ok_X10_lay M) rfl (y2_0) rfl mv_X10_516 dX10_count_170 rfl rfl (Nat.le_of_ble_eq_true rfl) (g_fitN (by decide) (by decide)) (fun r18 M17 => ?_)
    refine G_aload_n 0 dX10_count_173 rfl rfl ?_
    refine G_iconst (v := 1) dX10_count_174 (by decide) ?_
    refine G_cVi (As := [.int 1]) (rest := []) (ok_X10_statesOf true M17) rfl (y2_0) rfl mv_X10_591 dX10_count_175 rfl rfl (Nat.le_of_ble_eq_true rfl) (g_fitN (by decide) (by decide)) (fun r20 M19 => ?_)
    exact G_iret rfl dX10_count_178
  refine G_ite (fun h22 => ?_) (fun h22 => ?_)
  · refine G_tabIn (tgt := 179) (off := 178) dX10_count_1 (by rw [h22]; decide) (by rw [h22]; decide) (by rw [h22]; decide) (by decide) ?_
    refine G_aload_n 0 dX10_count_179 rfl rfl ?_
    refine G_get 53 clX10 (y2_0) fl_X10_403 dX10_count_180 (by decide) rfl rfl ?_
    refine G_if_eq (tgt := 198) dX10_count_183 (by decide) ?_ ?_
    · refine G_iconst (v := (-1)) dX10_count_198 (by decide) ?_
      exact G_iret rfl dX10_count_199
    · refine G_aload_n 0 dX10_count_186 rfl rfl ?_
      refine G_get 55 clX10 (y2_0) fl_X10_139 dX10_count_187 (by decide) rfl rfl ?_
      refine G_aload_n 0 dX10_count_190 rfl rfl ?_
      refine G_get 54 clX10 (y2_0) fl_X10_407 dX10_count_191 (by decide) rfl rfl ?_
      refine G_iald (y2_41) dX10_count_194 ?_
      refine G_goto (tgt := 199) dX10_count_195 (by decide) ?_
      exact G_iret rfl dX10_count_199
  refine G_tabOut (tgt := 200) dX10_count_1 (by have := g_nk (k := 0) h1 (by decide); have := g_nk (k := 1) h2 (by decide); have := g_nk (k := 2) h3 (by decide); have := g_nk (k := 3) h6 (by decide); have := g_nk (k := 4) h7 (by decide); have := g_nk (k := 5) h8 (by decide); have := g_nk (k := 6) h9 (by decide); have := g_nk (k := 7) h10 (by decide); have := g_nk (k := 8) h11 (by decide); have := g_nk (k := 9) h12 (by decide); have := g_nk (k := 10) h13 (by decide); have := g_nk (k := 11) h16 (by decide); have := g_nk (k := 12) h21 (by decide); have := g_nk (k := 13) h22 (by decide); omega) (by decide) ?_
  refine G_iconst (v := (-1)) dX10_count_200 (by decide) ?_
  exact G_iret rfl dX10_count_201
